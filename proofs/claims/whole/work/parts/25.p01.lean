/-! ===== programs as functions, 25 1: printed by wip/whole/gen/gen_p_out.py ===== -/
def P_X8_put (t : Nat) (p1 : Int) (p2 : Int) (G : mG) : Option (mG) :=
(P_X8_hasLeft t p1 G).bind fun v3 =>
bif v3 then
bif (ilt (G t 1) 30) then
(P_X8_nextStep t p1 G).bind fun v4 =>
(ald G 7 30 v4).bind fun v5 =>
(P_X8_lastOn t v5 G).bind fun v6 =>
(P_X8_firstHour t p1 p2 G).bind fun v7 =>
(ast G (t+5) 30 v4 v7).bind fun G8 =>
(ast G8 (t+6) 30 v4 v6).bind fun G9 =>
letK (fun (x10 : Int) =>
(ast G9 (t+7) 30 v4 x10).bind fun G12 =>
letK (fun (x13 : Int) =>
letK (fun (x15 : Int) =>
(ast G12 (t+8) 30 v4 x15).bind fun G17 =>
(ald G17 (t+3) 4 v5).bind fun v18 =>
(ast G17 (t+4) 120 ((v5 * 30) + v18) v4).bind fun G19 =>
(ald G19 (t+3) 4 v5).bind fun v20 =>
(ast G19 (t+3) 4 v5 (v20 + 1)).bind fun G21 =>
(ald G21 (t+2) 6 p1).bind fun v22 =>
(ast G21 (t+2) 6 p1 (v22 + 1)).bind fun G23 =>
(ast G23 (t+1) 30 (G23 t 1) p1).bind fun G24 =>
(pst G24 t 1 ((G24 t 1) + 1)).bind fun G25 =>
some G25) fun k26 =>
bif (ieq x13 0) then
(ald G12 (t+8) 30 v6).bind fun v27 =>
(ald G12 8 30 v4).bind fun v28 =>
k26 (v27 + v28)
else
(ald G12 8 30 v4).bind fun v29 =>
k26 v29) fun k30 =>
letK (k30 1) fun k32 =>
bif (ieq v6 (-1)) then
k32
else
(P_X8_needsTool t v6 v4 G12).bind fun v33 =>
bif v33 then
k32
else
k30 0) fun k34 =>
bif (ieq v6 (-1)) then
k34 0
else
(P_X8_hoursBetween t v6 v4 G9).bind fun v35 =>
k34 v35
else
some G
else
some G
set_option maxRecDepth 100000 in
theorem T_X8_put_17 (scr : mScr) (d : Nat) (r : List (Option Nat)) (tl : List mSh) (nk : Nat × Nat) (G : mG)  (p1 : Int) (p2 : Int) : SimC scr (d + 4) 56 [sR 17, sI p1, sI p2] (mSH r tl, (G, nk)) (e1U r tl nk) (P_X8_put 17 p1 p2 G) := by
  refine sm_callX (cs := mc_X8_put) (maxL := 7) (rk := 0) (o := 8) (hs := []) (d := d + 3) [lR 17, lI p1, lI p2, none, none, none, none] rfl rfl rfl rfl ?_
  unfold P_X8_put
  refine sm_go 2 (s' := (2, ([lR 17, lI p1, lI p2, none, none, none, none], ([sI p1, sR 17], (mSH r tl, (G, nk)))))) ?_ rfl
  refine sm_callG (rest := []) (T_X8_hasLeft_17 scr (d + 2) r tl nk G p1) rfl (Or.inl rfl) rfl rfl rfl rfl (fun _ => rfl) (fun v3 => (5, ([lR 17, lI p1, lI p2, none, none, none, none], ([sI (b2i v3)], (mSH r tl, (G, nk)))))) (fun _ => rfl) fun v3 => ?_
  refine sm_if1n (t := v3) (pt := 17) (mCmpB_eq v3) rfl rfl (fun _ => ?_) (fun _ => ?_)
  · refine sm_go 3 (s' := (14, ([lR 17, lI p1, lI p2, none, none, none, none], ([sI 30, sI (G 17 1)], (mSH r tl, (G, nk)))))) ?_ rfl
    refine sm_if2 (t := (ilt (G 17 1) 30)) (pt := 18) rfl rfl rfl (fun _ => ?_) (fun _ => ?_)
    · refine sm_go 2 (s' := (20, ([lR 17, lI p1, lI p2, none, none, none, none], ([sI p1, sR 17], (mSH r tl, (G, nk)))))) ?_ rfl
      refine sm_callG (rest := []) (T_X8_nextStep_17 scr (d + 2) r tl nk G p1) rfl (Or.inl rfl) rfl rfl rfl rfl (fun _ => rfl) (fun v4 => (23, ([lR 17, lI p1, lI p2, none, none, none, none], ([sI v4], (mSH r tl, (G, nk)))))) (fun _ => rfl) fun v4 => ?_
      refine sm_go 5 (s' := (32, ([lR 17, lI p1, lI p2, lI v4, none, none, none], ([sI v4, sR 7], (mSH r tl, (G, nk)))))) ?_ rfl
      refine sm_ald rfl rfl fun v5 => ?_
      refine sm_go 3 (s' := (38, ([lR 17, lI p1, lI p2, lI v4, lI v5, none, none], ([sI v5, sR 17], (mSH r tl, (G, nk)))))) ?_ rfl
      refine sm_callG (rest := []) (T_X8_lastOn_17 scr (d + 2) r tl nk G v5) rfl (Or.inl rfl) rfl rfl rfl rfl (fun _ => rfl) (fun v6 => (41, ([lR 17, lI p1, lI p2, lI v4, lI v5, none, none], ([sI v6], (mSH r tl, (G, nk)))))) (fun _ => rfl) fun v6 => ?_
      refine sm_go 7 (s' := (51, ([lR 17, lI p1, lI p2, lI v4, lI v5, lI v6, none], ([sI p2, sI p1, sR 17, sI v4, sR 22], (mSH r tl, (G, nk)))))) ?_ rfl
      refine sm_callG (rest := [sI v4, sR 22]) (T_X8_firstHour_17 scr d r tl nk G p1 p2) rfl (Or.inl rfl) rfl rfl rfl rfl (fun _ => rfl) (fun v7 => (54, ([lR 17, lI p1, lI p2, lI v4, lI v5, lI v6, none], ([sI v7, sI v4, sR 22], (mSH r tl, (G, nk)))))) (fun _ => rfl) fun v7 => ?_
      refine sm_ast rfl rfl fun G8 => ?_
      refine sm_go 4 (s' := (62, ([lR 17, lI p1, lI p2, lI v4, lI v5, lI v6, none], ([sI v6, sI v4, sR 23], (mSH r tl, (G8, nk)))))) ?_ rfl
      refine sm_ast rfl rfl fun G9 => ?_
      refine sm_letK1 (S := fun (g11 : Unit) (x10 : Int) => (85, ([lR 17, lI p1, lI p2, lI v4, lI v5, lI v6, none], ([sI x10, sI v4, sR 24], (mSH r tl, (G9, nk)))))) ?_ ?_
      · intro g11 x10
        refine sm_ast rfl rfl fun G12 => ?_
        refine sm_letK1 (S := fun (g14 : Unit) (x13 : Int) => (107, ([lR 17, lI p1, lI p2, lI v4, lI v5, lI v6, none], ([sI x13], (mSH r tl, (G12, nk)))))) ?_ ?_
        · intro g14 x13
          refine sm_letK1 (S := fun (g16 : Unit) (x15 : Int) => (148, ([lR 17, lI p1, lI p2, lI v4, lI v5, lI v6, lI x13], ([sI x15, sI v4, sR 25], (mSH r tl, (G12, nk)))))) ?_ ?_
          · intro g16 x15
            refine sm_ast rfl rfl fun G17 => ?_
            refine sm_go 8 (s' := (164, ([lR 17, lI p1, lI p2, lI v4, lI v5, lI v6, lI x13], ([sI v5, sR 20, sI (v5 * 30), sR 21], (mSH r tl, (G17, nk)))))) ?_ rfl
            refine sm_ald rfl rfl fun v18 => ?_
            refine sm_go 2 (s' := (167, ([lR 17, lI p1, lI p2, lI v4, lI v5, lI v6, lI x13], ([sI v4, sI ((v5 * 30) + v18), sR 21], (mSH r tl, (G17, nk)))))) ?_ rfl
            refine sm_ast rfl rfl fun G19 => ?_
            refine sm_go 4 (s' := (175, ([lR 17, lI p1, lI p2, lI v4, lI v5, lI v6, lI x13], ([sI v5, sR 20, sI v5, sR 20], (mSH r tl, (G19, nk)))))) ?_ rfl
            refine sm_ald rfl rfl fun v20 => ?_
            refine sm_go 2 (s' := (178, ([lR 17, lI p1, lI p2, lI v4, lI v5, lI v6, lI x13], ([sI (v20 + 1), sI v5, sR 20], (mSH r tl, (G19, nk)))))) ?_ rfl
            refine sm_ast rfl rfl fun G21 => ?_
            refine sm_go 4 (s' := (185, ([lR 17, lI p1, lI p2, lI v4, lI v5, lI v6, lI x13], ([sI p1, sR 19, sI p1, sR 19], (mSH r tl, (G21, nk)))))) ?_ rfl
            refine sm_ald rfl rfl fun v22 => ?_
            refine sm_go 2 (s' := (188, ([lR 17, lI p1, lI p2, lI v4, lI v5, lI v6, lI x13], ([sI (v22 + 1), sI p1, sR 19], (mSH r tl, (G21, nk)))))) ?_ rfl
            refine sm_ast rfl rfl fun G23 => ?_
            refine sm_go 5 (s' := (198, ([lR 17, lI p1, lI p2, lI v4, lI v5, lI v6, lI x13], ([sI p1, sI (G23 17 1), sR 18], (mSH r tl, (G23, nk)))))) ?_ rfl
            refine sm_ast rfl rfl fun G24 => ?_
            refine sm_go 5 (s' := (206, ([lR 17, lI p1, lI p2, lI v4, lI v5, lI v6, lI x13], ([sI ((G24 17 1) + 1), sR 17], (mSH r tl, (G24, nk)))))) ?_ rfl
            refine sm_pst rfl rfl rfl fun G25 => ?_
            exact sm_retU rfl rfl
          · intro k26 hk26
            refine sm_go 5 (s' := (116, ([lR 17, lI p1, lI p2, lI v4, lI v5, lI v6, lI x13], ([sI x13, sI v4, sR 25], (mSH r tl, (G12, nk)))))) ?_ rfl
            refine sm_if1 (t := (ieq x13 0)) (pt := 131) rfl rfl rfl (fun _ => ?_) (fun _ => ?_)
            · refine sm_go 3 (s' := (137, ([lR 17, lI p1, lI p2, lI v4, lI v5, lI v6, lI x13], ([sI v6, sR 25, sI v4, sR 25], (mSH r tl, (G12, nk)))))) ?_ rfl
              refine sm_ald rfl rfl fun v27 => ?_
              refine sm_go 4 (s' := (146, ([lR 17, lI p1, lI p2, lI v4, lI v5, lI v6, lI x13], ([sI v4, sR 8, sI v27, sI v4, sR 25], (mSH r tl, (G12, nk)))))) ?_ rfl
              refine sm_ald rfl rfl fun v28 => ?_
              exact sm_go 1 (hk26 () (v27 + v28)) rfl
            · refine sm_go 4 (s' := (127, ([lR 17, lI p1, lI p2, lI v4, lI v5, lI v6, lI x13], ([sI v4, sR 8, sI v4, sR 25], (mSH r tl, (G12, nk)))))) ?_ rfl
              refine sm_ald rfl rfl fun v29 => ?_
              exact sm_go 1 (hk26 () v29) rfl
        · intro k30 hk30
          refine sm_letK0 (S := fun (g31 : Unit) => (102, ([lR 17, lI p1, lI p2, lI v4, lI v5, lI v6, none], ([], (mSH r tl, (G12, nk)))))) ?_ ?_
          · intro g31
            exact sm_go 2 (hk30 () 1) rfl
          · intro k32 hk32
            refine sm_go 2 (s' := (89, ([lR 17, lI p1, lI p2, lI v4, lI v5, lI v6, none], ([sI (-1), sI v6], (mSH r tl, (G12, nk)))))) ?_ rfl
            refine sm_if2 (t := (ieq v6 (-1))) (pt := 102) rfl rfl rfl (fun _ => ?_) (fun _ => ?_)
            · exact hk32 ()
            · refine sm_go 3 (s' := (96, ([lR 17, lI p1, lI p2, lI v4, lI v5, lI v6, none], ([sI v4, sI v6, sR 17], (mSH r tl, (G12, nk)))))) ?_ rfl
              refine sm_callG (rest := []) (T_X8_needsTool_17 scr (d + 2) r tl nk G12 v6 v4) rfl (Or.inl rfl) rfl rfl rfl rfl (fun _ => rfl) (fun v33 => (99, ([lR 17, lI p1, lI p2, lI v4, lI v5, lI v6, none], ([sI (b2i v33)], (mSH r tl, (G12, nk)))))) (fun _ => rfl) fun v33 => ?_
              refine sm_if1n (t := v33) (pt := 106) (mCmpB_eq v33) rfl rfl (fun _ => ?_) (fun _ => ?_)
              · exact hk32 ()
              · exact sm_go 1 (hk30 () 0) rfl
      · intro k34 hk34
        refine sm_go 5 (s' := (71, ([lR 17, lI p1, lI p2, lI v4, lI v5, lI v6, none], ([sI (-1), sI v6, sI v4, sR 24], (mSH r tl, (G9, nk)))))) ?_ rfl
        refine sm_if2n (t := (ieq v6 (-1))) (pt := 78) rfl rfl rfl (fun _ => ?_) (fun _ => ?_)
        · exact sm_go 2 (hk34 () 0) rfl
        · refine sm_go 3 (s' := (82, ([lR 17, lI p1, lI p2, lI v4, lI v5, lI v6, none], ([sI v4, sI v6, sR 17, sI v4, sR 24], (mSH r tl, (G9, nk)))))) ?_ rfl
          refine sm_callG (rest := [sI v4, sR 24]) (T_X8_hoursBetween_17 scr (d + 1) r tl nk G9 v6 v4) rfl (Or.inl rfl) rfl rfl rfl rfl (fun _ => rfl) (fun v35 => (85, ([lR 17, lI p1, lI p2, lI v4, lI v5, lI v6, none], ([sI v35, sI v4, sR 24], (mSH r tl, (G9, nk)))))) (fun _ => rfl) fun v35 => ?_
          exact hk34 () v35
    · exact sm_retU rfl rfl
  · exact sm_retU rfl rfl
def P_X8_putDelayed (t : Nat) (p1 : Int) (p2 : Int) (G : mG) : Option (mG) :=
(P_X8_clear t G).bind fun G3 =>
(P_X7_stepTotal G3).bind fun v4 =>
loop2 LF (fun again8 (x5 : Int) (G6 : mG) =>
bif (ilt x5 v4) then
(ald G6 16 30 x5).bind fun v9 =>
(P_X8_nextStep t v9 G6).bind fun v10 =>
letK (fun (x11 : Int) =>
(P_X8_put t v9 x11 G6).bind fun G13 =>
again8 (x5 + 1) G13) fun k14 =>
bif (ieq v10 p1) then
k14 p2
else
k14 0
else
some G6) 0 G3
set_option maxRecDepth 100000 in
theorem T_X8_putDelayed_17 (scr : mScr) (d : Nat) (r : List (Option Nat)) (tl : List mSh) (nk : Nat × Nat) (G : mG)  (p1 : Int) (p2 : Int) : SimC scr (d + 5) 59 [sR 17, sI p1, sI p2] (mSH r tl, (G, nk)) (e1U r tl nk) (P_X8_putDelayed 17 p1 p2 G) := by
  refine sm_callX (cs := mc_X8_putDelayed) (maxL := 6) (rk := 0) (o := 8) (hs := []) (d := d + 4) [lR 17, lI p1, lI p2, none, none, none] rfl rfl rfl rfl ?_
  unfold P_X8_putDelayed
  refine sm_go 1 (s' := (1, ([lR 17, lI p1, lI p2, none, none, none], ([sR 17], (mSH r tl, (G, nk)))))) ?_ rfl
  refine sm_callG (rest := []) (T_X8_clear_17 scr (d + 2) r tl nk G) rfl (Or.inl rfl) rfl rfl rfl rfl (fun _ => rfl) (fun G3 => (4, ([lR 17, lI p1, lI p2, none, none, none], ([], (mSH r tl, (G3, nk)))))) (fun _ => rfl) fun G3 => ?_
  refine sm_go 2 (s' := (8, ([lR 17, lI p1, lI p2, none, none, none], ([sR 1], (mSH r tl, (G3, nk)))))) ?_ rfl
  refine sm_callG (rest := []) (T_X7_stepTotal scr (d + 3) r tl nk G3) rfl (Or.inl rfl) rfl rfl rfl rfl (fun _ => rfl) (fun v4 => (11, ([lR 17, lI p1, lI p2, none, none, none], ([sI v4], (mSH r tl, (G3, nk)))))) (fun _ => rfl) fun v4 => ?_
  refine sm_go 3 (s' := (15, ([lR 17, lI p1, lI p2, lI v4, lI 0, none], ([], (mSH r tl, (G3, nk)))))) ?_ rfl
  refine sm_loop2 (S := fun (g7 : Option mV) (x5 : Int) (G6 : mG) => (15, ([lR 17, lI p1, lI p2, lI v4, lI x5, g7], ([], (mSH r tl, (G6, nk)))))) ?_ LF (none) 0 G3
  intro again8 hagain8 g7 x5 G6
  refine sm_go 2 (s' := (18, ([lR 17, lI p1, lI p2, lI v4, lI x5, g7], ([sI v4, sI x5], (mSH r tl, (G6, nk)))))) ?_ rfl
  refine sm_if2n (t := (ilt x5 v4)) (pt := 60) rfl rfl rfl (fun _ => ?_) (fun _ => ?_)
  · refine sm_go 4 (s' := (30, ([lR 17, lI p1, lI p2, lI v4, lI x5, g7], ([sI x5, sR 16], (mSH r tl, (G6, nk)))))) ?_ rfl
    refine sm_ald rfl rfl fun v9 => ?_
    refine sm_go 5 (s' := (39, ([lR 17, lI p1, lI p2, lI v4, lI x5, lI v9], ([sI v9, sR 17, sI v9, sR 17], (mSH r tl, (G6, nk)))))) ?_ rfl
    refine sm_callG (rest := [sI v9, sR 17]) (T_X8_nextStep_17 scr (d + 3) r tl nk G6 v9) rfl (Or.inl rfl) rfl rfl rfl rfl (fun _ => rfl) (fun v10 => (42, ([lR 17, lI p1, lI p2, lI v4, lI x5, lI v9], ([sI v10, sI v9, sR 17], (mSH r tl, (G6, nk)))))) (fun _ => rfl) fun v10 => ?_
    refine sm_letK1 (S := fun (g12 : Unit) (x11 : Int) => (51, ([lR 17, lI p1, lI p2, lI v4, lI x5, lI v9], ([sI x11, sI v9, sR 17], (mSH r tl, (G6, nk)))))) ?_ ?_
    · intro g12 x11
      refine sm_callG (rest := []) (T_X8_put_17 scr d r tl nk G6 v9 x11) rfl (Or.inl rfl) rfl rfl rfl rfl (fun _ => rfl) (fun G13 => (54, ([lR 17, lI p1, lI p2, lI v4, lI x5, lI v9], ([], (mSH r tl, (G13, nk)))))) (fun _ => rfl) fun G13 => ?_
      exact sm_go 2 (hagain8 (lI v9) (x5 + 1) G13) rfl
    · intro k14 hk14
      refine sm_go 1 (s' := (43, ([lR 17, lI p1, lI p2, lI v4, lI x5, lI v9], ([sI p1, sI v10, sI v9, sR 17], (mSH r tl, (G6, nk)))))) ?_ rfl
      refine sm_if2n (t := (ieq v10 p1)) (pt := 50) rfl rfl rfl (fun _ => ?_) (fun _ => ?_)
      · exact sm_go 2 (hk14 () p2) rfl
      · exact sm_go 1 (hk14 () 0) rfl
  · exact sm_retU rfl rfl
def P_X8_replay (t : Nat) (G : mG) : Option (mG) :=
(P_X8_clear t G).bind fun G1 =>
bif (ieq (G1 1 15) 0) then
some G1
else
(P_X8_putDelayed t (-1) 0 G1).bind fun G2 =>
some G2
set_option maxRecDepth 100000 in
theorem T_X8_replay_17 (scr : mScr) (d : Nat) (r : List (Option Nat)) (tl : List mSh) (nk : Nat × Nat) (G : mG)  : SimC scr (d + 6) 58 [sR 17] (mSH r tl, (G, nk)) (e1U r tl nk) (P_X8_replay 17 G) := by
  refine sm_callX (cs := mc_X8_replay) (maxL := 1) (rk := 0) (o := 8) (hs := []) (d := d + 5) [lR 17] rfl rfl rfl rfl ?_
  unfold P_X8_replay
  refine sm_go 1 (s' := (1, ([lR 17], ([sR 17], (mSH r tl, (G, nk)))))) ?_ rfl
  refine sm_callG (rest := []) (T_X8_clear_17 scr (d + 3) r tl nk G) rfl (Or.inl rfl) rfl rfl rfl rfl (fun _ => rfl) (fun G1 => (4, ([lR 17], ([], (mSH r tl, (G1, nk)))))) (fun _ => rfl) fun G1 => ?_
  refine sm_go 3 (s' := (11, ([lR 17], ([sI (G1 1 15)], (mSH r tl, (G1, nk)))))) ?_ rfl
  refine sm_if1 (t := (ieq (G1 1 15) 0)) (pt := 20) rfl rfl rfl (fun _ => ?_) (fun _ => ?_)
  · exact sm_retU rfl rfl
  · refine sm_go 3 (s' := (17, ([lR 17], ([sI 0, sI (-1), sR 17], (mSH r tl, (G1, nk)))))) ?_ rfl
    refine sm_callG (rest := []) (T_X8_putDelayed_17 scr d r tl nk G1 (-1) 0) rfl (Or.inl rfl) rfl rfl rfl rfl (fun _ => rfl) (fun G2 => (20, ([lR 17], ([], (mSH r tl, (G2, nk)))))) (fun _ => rfl) fun G2 => ?_
    exact sm_retU rfl rfl
def P_X11_in (p1 : Int) (p2 : Int) (p3 : Int) : Option (Bool) :=
letK (some false) fun k5 =>
bif (ilt p1 p2) then
k5
else
bif (ilt p3 p1) then
k5
else
some true
set_option maxRecDepth 100000 in
theorem T_X11_in (scr : mScr) (d : Nat) (r : List (Option Nat)) (tl : List mSh) (nk : Nat × Nat) (G : mG)  (p1 : Int) (p2 : Int) (p3 : Int) : SimC scr (d + 1) 138 [sI p1, sI p2, sI p3] (mSH r tl, (G, nk)) (e0B (mSH r tl, (G, nk))) (P_X11_in p1 p2 p3) := by
  refine sm_callX (cs := mc_X11_in) (maxL := 3) (rk := 1) (o := 111) (hs := []) (d := d + 0) [lI p1, lI p2, lI p3] rfl rfl rfl rfl ?_
  unfold P_X11_in
  refine sm_letK0 (S := fun (g4 : Unit) => (14, ([lI p1, lI p2, lI p3], ([], (mSH r tl, (G, nk)))))) ?_ ?_
  · intro g4
    refine sm_go 1 (s' := (15, ([lI p1, lI p2, lI p3], ([sI 0], (mSH r tl, (G, nk)))))) ?_ rfl
    exact sm_retB1 (b := false) rfl rfl
  · intro k5 hk5
    refine sm_go 2 (s' := (2, ([lI p1, lI p2, lI p3], ([sI p2, sI p1], (mSH r tl, (G, nk)))))) ?_ rfl
    refine sm_if2 (t := (ilt p1 p2)) (pt := 14) rfl rfl rfl (fun _ => ?_) (fun _ => ?_)
    · exact hk5 ()
    · refine sm_go 2 (s' := (7, ([lI p1, lI p2, lI p3], ([sI p3, sI p1], (mSH r tl, (G, nk)))))) ?_ rfl
      refine sm_if2 (t := (ilt p3 p1)) (pt := 14) rfl rfl rfl (fun _ => ?_) (fun _ => ?_)
      · exact hk5 ()
      · refine sm_go 2 (s' := (15, ([lI p1, lI p2, lI p3], ([sI 1], (mSH r tl, (G, nk)))))) ?_ rfl
        exact sm_retB1 (b := true) rfl rfl
def P_X11_fits (p1 : Int) (p2 : Int) (p3 : Int) (G : mG) : Option (Bool × mG) :=
letK (fun (x4 : Int) =>
(pst G 56 3 x4).bind fun G6 =>
bif (ieq (G6 56 3) 0) then
some (true, G6)
else
some (false, G6)) fun k7 =>
bif (ieq p1 0) then
k7 1
else
bif (ieq p2 0) then
k7 2
else
bif (ieq p3 0) then
k7 3
else
k7 0
set_option maxRecDepth 100000 in
theorem T_X11_fits (scr : mScr) (d : Nat) (r : List (Option Nat)) (tl : List mSh) (nk : Nat × Nat) (G : mG)  (p1 : Int) (p2 : Int) (p3 : Int) : SimC scr (d + 1) 139 [sR 56, sI p1, sI p2, sI p3] (mSH r tl, (G, nk)) (e1B r tl nk) (P_X11_fits p1 p2 p3 G) := by
  refine sm_callX (cs := mc_X11_fits) (maxL := 4) (rk := 1) (o := 11) (hs := []) (d := d + 0) [lR 56, lI p1, lI p2, lI p3] rfl rfl rfl rfl ?_
  unfold P_X11_fits
  refine sm_letK1 (S := fun (g5 : Unit) (x4 : Int) => (26, ([lR 56, lI p1, lI p2, lI p3], ([sI x4, sR 56], (mSH r tl, (G, nk)))))) ?_ ?_
  · intro g5 x4
    refine sm_pst rfl rfl rfl fun G6 => ?_
    refine sm_go 2 (s' := (33, ([lR 56, lI p1, lI p2, lI p3], ([sI (G6 56 3)], (mSH r tl, (G6, nk)))))) ?_ rfl
    refine sm_if1n (t := (ieq (G6 56 3) 0)) (pt := 40) rfl rfl rfl (fun _ => ?_) (fun _ => ?_)
    · refine sm_go 2 (s' := (41, ([lR 56, lI p1, lI p2, lI p3], ([sI 1], (mSH r tl, (G6, nk)))))) ?_ rfl
      exact sm_retB1 (b := true) rfl rfl
    · refine sm_go 1 (s' := (41, ([lR 56, lI p1, lI p2, lI p3], ([sI 0], (mSH r tl, (G6, nk)))))) ?_ rfl
      exact sm_retB1 (b := false) rfl rfl
  · intro k7 hk7
    refine sm_go 2 (s' := (2, ([lR 56, lI p1, lI p2, lI p3], ([sI p1, sR 56], (mSH r tl, (G, nk)))))) ?_ rfl
    refine sm_if1n (t := (ieq p1 0)) (pt := 9) rfl rfl rfl (fun _ => ?_) (fun _ => ?_)
    · exact sm_go 2 (hk7 () 1) rfl
    · refine sm_go 1 (s' := (10, ([lR 56, lI p1, lI p2, lI p3], ([sI p2, sR 56], (mSH r tl, (G, nk)))))) ?_ rfl
      refine sm_if1n (t := (ieq p2 0)) (pt := 17) rfl rfl rfl (fun _ => ?_) (fun _ => ?_)
      · exact sm_go 2 (hk7 () 2) rfl
      · refine sm_go 1 (s' := (18, ([lR 56, lI p1, lI p2, lI p3], ([sI p3, sR 56], (mSH r tl, (G, nk)))))) ?_ rfl
        refine sm_if1n (t := (ieq p3 0)) (pt := 25) rfl rfl rfl (fun _ => ?_) (fun _ => ?_)
        · exact sm_go 2 (hk7 () 3) rfl
        · exact sm_go 1 (hk7 () 0) rfl
def P_X11_keeps (G : mG) : Option (mG) :=
letK (fun (G1 : mG) =>
(acp G1 57 282 0 58 2256 ((G1 56 2) * 282) 282).bind fun G3 =>
(pst G3 56 2 ((G3 56 2) + 1)).bind fun G4 =>
some G4) fun k5 =>
bif (ieq (G 56 2) 8) then
(acp G 58 2256 282 58 2256 0 1974).bind fun G6 =>
(pst G6 56 2 ((G6 56 2) - 1)).bind fun G7 =>
k5 G7
else
k5 G
set_option maxRecDepth 100000 in
theorem T_X11_keeps (scr : mScr) (d : Nat) (r : List (Option Nat)) (tl : List mSh) (nk : Nat × Nat) (G : mG)  : SimC scr (d + 1) 167 [sR 56] (mSH r tl, (G, nk)) (e1U r tl nk) (P_X11_keeps G) := by
  refine sm_callX (cs := mc_X11_keeps) (maxL := 1) (rk := 0) (o := 11) (hs := []) (d := d + 0) [lR 56] rfl rfl rfl rfl ?_
  unfold P_X11_keeps
  refine sm_letK1 (S := fun (g2 : Unit) (G1 : mG) => (37, ([lR 56], ([], (mSH r tl, (G1, nk)))))) ?_ ?_
  · intro g2 G1
    refine sm_go 10 (s' := (57, ([lR 56], ([sI 282, sI ((G1 56 2) * 282), sR 58, sI 0, sR 57], (mSH r tl, (G1, nk)))))) ?_ rfl
    refine sm_acp rfl rfl rfl rfl fun G3 => ?_
    refine sm_go 5 (s' := (67, ([lR 56], ([sI ((G3 56 2) + 1), sR 56], (mSH r tl, (G3, nk)))))) ?_ rfl
    refine sm_pst rfl rfl rfl fun G4 => ?_
    exact sm_retU rfl rfl
  · intro k5 hk5
    refine sm_go 3 (s' := (6, ([lR 56], ([sI 8, sI (G 56 2)], (mSH r tl, (G, nk)))))) ?_ rfl
    refine sm_if2n (t := (ieq (G 56 2) 8)) (pt := 37) rfl rfl rfl (fun _ => ?_) (fun _ => ?_)
    · refine sm_go 7 (s' := (24, ([lR 56], ([sI 1974, sI 0, sR 58, sI 282, sR 58], (mSH r tl, (G, nk)))))) ?_ rfl
      refine sm_acp rfl rfl rfl rfl fun G6 => ?_
      refine sm_go 5 (s' := (34, ([lR 56], ([sI ((G6 56 2) - 1), sR 56], (mSH r tl, (G6, nk)))))) ?_ rfl
      refine sm_pst rfl rfl rfl fun G7 => ?_
      exact hk5 () G7
    · exact hk5 () G
def P_X11_close (p1 : Int) (p2 : Int) (p3 : Int) (G : mG) : Option (Int × mG) :=
(P_X11_in p1 0 3).bind fun v4 =>
(P_X11_in p2 0 2000).bind fun v5 =>
letK (fun (x6 : Int) =>
letK (fun (x8 : Int) =>
(P_X11_fits (b2i v4) x6 x8 G).bind fun z10 =>
bif z10.1 then
(P_X11_keeps z10.2).bind fun G11 =>
(ald G11 57 282 (1 + (p1 * 11))).bind fun v12 =>
(ast G11 57 282 (((1 + (p1 * 11)) + 1) + (2 * v12)) p2).bind fun G13 =>
(ald G13 57 282 (1 + (p1 * 11))).bind fun v14 =>
(ast G13 57 282 ((((1 + (p1 * 11)) + 1) + (2 * v14)) + 1) p3).bind fun G15 =>
(ald G15 57 282 (1 + (p1 * 11))).bind fun v16 =>
(ast G15 57 282 (1 + (p1 * 11)) (v16 + 1)).bind fun G17 =>
(ald G17 57 282 (1 + (p1 * 11))).bind fun v18 =>
some (v18, G17)
else
some (0, z10.2)) fun k19 =>
letK (k19 0) fun k21 =>
bif v4 then
(ald G 57 282 (1 + (p1 * 11))).bind fun v22 =>
bif (ilt v22 4) then
k19 1
else
k21
else
k21) fun k23 =>
letK (k23 0) fun k25 =>
bif v5 then
bif (ilt p2 p3) then
bif (ilt 2000 p3) then
k25
else
k23 1
else
k25
else
k25
set_option maxRecDepth 100000 in
theorem T_X11_close (scr : mScr) (d : Nat) (r : List (Option Nat)) (tl : List mSh) (nk : Nat × Nat) (G : mG)  (p1 : Int) (p2 : Int) (p3 : Int) : SimC scr (d + 2) 168 [sR 56, sI p1, sI p2, sI p3] (mSH r tl, (G, nk)) (e1I r tl nk) (P_X11_close p1 p2 p3 G) := by
  refine sm_callX (cs := mc_X11_close) (maxL := 6) (rk := 0) (o := 11) (hs := []) (d := d + 1) [lR 56, lI p1, lI p2, lI p3, none, none] rfl rfl rfl rfl ?_
  unfold P_X11_close
  refine sm_go 3 (s' := (3, ([lR 56, lI p1, lI p2, lI p3, none, none], ([sI 3, sI 0, sI p1], (mSH r tl, (G, nk)))))) ?_ rfl
  refine sm_callG (rest := []) (T_X11_in scr d r tl nk G p1 0 3) rfl (Or.inr (Or.inl rfl)) rfl rfl rfl rfl (fun _ => rfl) (fun v4 => (6, ([lR 56, lI p1, lI p2, lI p3, none, none], ([sI (b2i v4)], (mSH r tl, (G, nk)))))) (fun _ => rfl) fun v4 => ?_
  refine sm_go 6 (s' := (16, ([lR 56, lI p1, lI p2, lI p3, lI (b2i v4), none], ([sI 2000, sI 0, sI p2, sI (b2i v4), sR 56], (mSH r tl, (G, nk)))))) ?_ rfl
  refine sm_callG (rest := [sI (b2i v4), sR 56]) (T_X11_in scr d r tl nk G p2 0 2000) rfl (Or.inr (Or.inl rfl)) rfl rfl rfl rfl (fun _ => rfl) (fun v5 => (19, ([lR 56, lI p1, lI p2, lI p3, lI (b2i v4), none], ([sI (b2i v5), sI (b2i v4), sR 56], (mSH r tl, (G, nk)))))) (fun _ => rfl) fun v5 => ?_
  refine sm_letK1 (S := fun (g7 : Unit) (x6 : Int) => (39, ([lR 56, lI p1, lI p2, lI p3, lI (b2i v4), none], ([sI x6, sI (b2i v4), sR 56], (mSH r tl, (G, nk)))))) ?_ ?_
  · intro g7 x6
    refine sm_letK1 (S := fun (g9 : Unit) (x8 : Int) => (64, ([lR 56, lI p1, lI p2, lI p3, lI (b2i v4), none], ([sI x8, sI x6, sI (b2i v4), sR 56], (mSH r tl, (G, nk)))))) ?_ ?_
    · intro g9 x8
      refine sm_callG (rest := []) (T_X11_fits scr d r tl nk G (b2i v4) x6 x8) rfl (Or.inl rfl) rfl rfl rfl rfl (fun _ => rfl) (fun z10 => (67, ([lR 56, lI p1, lI p2, lI p3, lI (b2i v4), none], ([sI (b2i z10.1)], (mSH r tl, (z10.2, nk)))))) (fun _ => rfl) fun z10 => ?_
      refine sm_if1 (t := z10.1) (pt := 72) (mCmpB_ne z10.1) rfl rfl (fun _ => ?_) (fun _ => ?_)
      · refine sm_go 1 (s' := (73, ([lR 56, lI p1, lI p2, lI p3, lI (b2i v4), none], ([sR 56], (mSH r tl, (z10.2, nk)))))) ?_ rfl
        refine sm_callG (rest := []) (T_X11_keeps scr d r tl nk z10.2) rfl (Or.inl rfl) rfl rfl rfl rfl (fun _ => rfl) (fun G11 => (76, ([lR 56, lI p1, lI p2, lI p3, lI (b2i v4), none], ([], (mSH r tl, (G11, nk)))))) (fun _ => rfl) fun G11 => ?_
        refine sm_go 15 (s' := (99, ([lR 56, lI p1, lI p2, lI p3, lI (b2i v4), lI (1 + (p1 * 11))], ([sI (1 + (p1 * 11)), sR 57, sI 2, sI ((1 + (p1 * 11)) + 1), sR 57], (mSH r tl, (G11, nk)))))) ?_ rfl
        refine sm_ald rfl rfl fun v12 => ?_
        refine sm_go 3 (s' := (103, ([lR 56, lI p1, lI p2, lI p3, lI (b2i v4), lI (1 + (p1 * 11))], ([sI p2, sI (((1 + (p1 * 11)) + 1) + (2 * v12)), sR 57], (mSH r tl, (G11, nk)))))) ?_ rfl
        refine sm_ast rfl rfl fun G13 => ?_
        refine sm_go 9 (s' := (119, ([lR 56, lI p1, lI p2, lI p3, lI (b2i v4), lI (1 + (p1 * 11))], ([sI (1 + (p1 * 11)), sR 57, sI 2, sI ((1 + (p1 * 11)) + 1), sR 57], (mSH r tl, (G13, nk)))))) ?_ rfl
        refine sm_ald rfl rfl fun v14 => ?_
        refine sm_go 5 (s' := (125, ([lR 56, lI p1, lI p2, lI p3, lI (b2i v4), lI (1 + (p1 * 11))], ([sI p3, sI ((((1 + (p1 * 11)) + 1) + (2 * v14)) + 1), sR 57], (mSH r tl, (G13, nk)))))) ?_ rfl
        refine sm_ast rfl rfl fun G15 => ?_
        refine sm_go 4 (s' := (133, ([lR 56, lI p1, lI p2, lI p3, lI (b2i v4), lI (1 + (p1 * 11))], ([sI (1 + (p1 * 11)), sR 57, sI (1 + (p1 * 11)), sR 57], (mSH r tl, (G15, nk)))))) ?_ rfl
        refine sm_ald rfl rfl fun v16 => ?_
        refine sm_go 2 (s' := (136, ([lR 56, lI p1, lI p2, lI p3, lI (b2i v4), lI (1 + (p1 * 11))], ([sI (v16 + 1), sI (1 + (p1 * 11)), sR 57], (mSH r tl, (G15, nk)))))) ?_ rfl
        refine sm_ast rfl rfl fun G17 => ?_
        refine sm_go 3 (s' := (143, ([lR 56, lI p1, lI p2, lI p3, lI (b2i v4), lI (1 + (p1 * 11))], ([sI (1 + (p1 * 11)), sR 57], (mSH r tl, (G17, nk)))))) ?_ rfl
        refine sm_ald rfl rfl fun v18 => ?_
        exact sm_retI rfl rfl rfl
      · refine sm_go 1 (s' := (71, ([lR 56, lI p1, lI p2, lI p3, lI (b2i v4), none], ([sI 0], (mSH r tl, (z10.2, nk)))))) ?_ rfl
        exact sm_retI rfl rfl rfl
    · intro k19 hk19
      refine sm_letK0 (S := fun (g20 : Unit) => (63, ([lR 56, lI p1, lI p2, lI p3, lI (b2i v4), none], ([sI x6, sI (b2i v4), sR 56], (mSH r tl, (G, nk)))))) ?_ ?_
      · intro g20
        exact sm_go 1 (hk19 () 0) rfl
      · intro k21 hk21
        refine sm_go 1 (s' := (41, ([lR 56, lI p1, lI p2, lI p3, lI (b2i v4), none], ([sI (b2i v4), sI x6, sI (b2i v4), sR 56], (mSH r tl, (G, nk)))))) ?_ rfl
        refine sm_if1n (t := v4) (pt := 63) (mCmpB_eq v4) rfl rfl (fun _ => ?_) (fun _ => ?_)
        · refine sm_go 7 (s' := (54, ([lR 56, lI p1, lI p2, lI p3, lI (b2i v4), none], ([sI (1 + (p1 * 11)), sR 57, sI x6, sI (b2i v4), sR 56], (mSH r tl, (G, nk)))))) ?_ rfl
          refine sm_ald rfl rfl fun v22 => ?_
          refine sm_go 1 (s' := (56, ([lR 56, lI p1, lI p2, lI p3, lI (b2i v4), none], ([sI 4, sI v22, sI x6, sI (b2i v4), sR 56], (mSH r tl, (G, nk)))))) ?_ rfl
          refine sm_if2n (t := (ilt v22 4)) (pt := 63) rfl rfl rfl (fun _ => ?_) (fun _ => ?_)
          · exact sm_go 2 (hk19 () 1) rfl
          · exact hk21 ()
        · exact hk21 ()
  · intro k23 hk23
    refine sm_letK0 (S := fun (g24 : Unit) => (38, ([lR 56, lI p1, lI p2, lI p3, lI (b2i v4), none], ([sI (b2i v4), sR 56], (mSH r tl, (G, nk)))))) ?_ ?_
    · intro g24
      exact sm_go 1 (hk23 () 0) rfl
    · intro k25 hk25
      refine sm_if1n (t := v5) (pt := 38) (mCmpB_eq v5) rfl rfl (fun _ => ?_) (fun _ => ?_)
      · refine sm_go 2 (s' := (24, ([lR 56, lI p1, lI p2, lI p3, lI (b2i v4), none], ([sI p2, sI p3, sI (b2i v4), sR 56], (mSH r tl, (G, nk)))))) ?_ rfl
        refine sm_if2n (t := (ilt p2 p3)) (pt := 38) rfl rfl rfl (fun _ => ?_) (fun _ => ?_)
        · refine sm_go 2 (s' := (31, ([lR 56, lI p1, lI p2, lI p3, lI (b2i v4), none], ([sI 2000, sI p3, sI (b2i v4), sR 56], (mSH r tl, (G, nk)))))) ?_ rfl
          refine sm_if2 (t := (ilt 2000 p3)) (pt := 38) rfl rfl rfl (fun _ => ?_) (fun _ => ?_)
          · exact hk25 ()
          · exact sm_go 2 (hk23 () 1) rfl
        · exact hk25 ()
      · exact hk25 ()
def P_X11_thrown (G : mG) : Option (Int) :=
some (G 56 3)
set_option maxRecDepth 100000 in
theorem T_X11_thrown (scr : mScr) (d : Nat) (r : List (Option Nat)) (tl : List mSh) (nk : Nat × Nat) (G : mG)  : SimC scr (d + 1) 137 [sR 56] (mSH r tl, (G, nk)) (e0I (mSH r tl, (G, nk))) (P_X11_thrown G) := by
  refine sm_callX (cs := mc_X11_thrown) (maxL := 1) (rk := 0) (o := 11) (hs := []) (d := d + 0) [lR 56] rfl rfl rfl rfl ?_
  unfold P_X11_thrown
  refine sm_go 2 (s' := (4, ([lR 56], ([sI (G 56 3)], (mSH r tl, (G, nk)))))) ?_ rfl
  exact sm_retI rfl rfl rfl
def P_X11_setTool (p1 : Int) (p2 : Int) (p3 : Int) (G : mG) : Option (Int × mG) :=
(P_X11_in p1 0 3).bind fun v4 =>
letK (fun (x5 : Int) =>
(P_X11_fits (b2i v4) x5 1 G).bind fun z7 =>
bif z7.1 then
(P_X11_keeps z7.2).bind fun G8 =>
(ald G8 57 282 ((1 + (p1 * 11)) + 9)).bind fun v9 =>
(ast G8 57 282 ((1 + (p1 * 11)) + 9) p2).bind fun G10 =>
(ast G10 57 282 ((1 + (p1 * 11)) + 10) p3).bind fun G11 =>
some (v9, G11)
else
some (0, z7.2)) fun k12 =>
letK (k12 0) fun k14 =>
letK ((P_X11_in p3 0 20).bind fun v16 =>
bif v16 then
k12 1
else
k14) fun k17 =>
bif (ieq p2 0) then
k17
else
(P_X11_in p2 50 300).bind fun v18 =>
bif v18 then
k17
else
k14
set_option maxRecDepth 100000 in
theorem T_X11_setTool (scr : mScr) (d : Nat) (r : List (Option Nat)) (tl : List mSh) (nk : Nat × Nat) (G : mG)  (p1 : Int) (p2 : Int) (p3 : Int) : SimC scr (d + 2) 169 [sR 56, sI p1, sI p2, sI p3] (mSH r tl, (G, nk)) (e1I r tl nk) (P_X11_setTool p1 p2 p3 G) := by
  refine sm_callX (cs := mc_X11_setTool) (maxL := 6) (rk := 0) (o := 11) (hs := []) (d := d + 1) [lR 56, lI p1, lI p2, lI p3, none, none] rfl rfl rfl rfl ?_
  unfold P_X11_setTool
  refine sm_go 4 (s' := (4, ([lR 56, lI p1, lI p2, lI p3, none, none], ([sI 3, sI 0, sI p1, sR 56], (mSH r tl, (G, nk)))))) ?_ rfl
  refine sm_callG (rest := [sR 56]) (T_X11_in scr d r tl nk G p1 0 3) rfl (Or.inr (Or.inl rfl)) rfl rfl rfl rfl (fun _ => rfl) (fun v4 => (7, ([lR 56, lI p1, lI p2, lI p3, none, none], ([sI (b2i v4), sR 56], (mSH r tl, (G, nk)))))) (fun _ => rfl) fun v4 => ?_
  refine sm_letK1 (S := fun (g6 : Unit) (x5 : Int) => (38, ([lR 56, lI p1, lI p2, lI p3, none, none], ([sI x5, sI (b2i v4), sR 56], (mSH r tl, (G, nk)))))) ?_ ?_
  · intro g6 x5
    refine sm_go 1 (s' := (39, ([lR 56, lI p1, lI p2, lI p3, none, none], ([sI 1, sI x5, sI (b2i v4), sR 56], (mSH r tl, (G, nk)))))) ?_ rfl
    refine sm_callG (rest := []) (T_X11_fits scr d r tl nk G (b2i v4) x5 1) rfl (Or.inl rfl) rfl rfl rfl rfl (fun _ => rfl) (fun z7 => (42, ([lR 56, lI p1, lI p2, lI p3, none, none], ([sI (b2i z7.1)], (mSH r tl, (z7.2, nk)))))) (fun _ => rfl) fun z7 => ?_
    refine sm_if1 (t := z7.1) (pt := 47) (mCmpB_ne z7.1) rfl rfl (fun _ => ?_) (fun _ => ?_)
    · refine sm_go 1 (s' := (48, ([lR 56, lI p1, lI p2, lI p3, none, none], ([sR 56], (mSH r tl, (z7.2, nk)))))) ?_ rfl
      refine sm_callG (rest := []) (T_X11_keeps scr d r tl nk z7.2) rfl (Or.inl rfl) rfl rfl rfl rfl (fun _ => rfl) (fun G8 => (51, ([lR 56, lI p1, lI p2, lI p3, none, none], ([], (mSH r tl, (G8, nk)))))) (fun _ => rfl) fun G8 => ?_
      refine sm_go 11 (s' := (68, ([lR 56, lI p1, lI p2, lI p3, lI (1 + (p1 * 11)), none], ([sI ((1 + (p1 * 11)) + 9), sR 57], (mSH r tl, (G8, nk)))))) ?_ rfl
      refine sm_ald rfl rfl fun v9 => ?_
      refine sm_go 7 (s' := (81, ([lR 56, lI p1, lI p2, lI p3, lI (1 + (p1 * 11)), lI v9], ([sI p2, sI ((1 + (p1 * 11)) + 9), sR 57], (mSH r tl, (G8, nk)))))) ?_ rfl
      refine sm_ast rfl rfl fun G10 => ?_
      refine sm_go 6 (s' := (92, ([lR 56, lI p1, lI p2, lI p3, lI (1 + (p1 * 11)), lI v9], ([sI p3, sI ((1 + (p1 * 11)) + 10), sR 57], (mSH r tl, (G10, nk)))))) ?_ rfl
      refine sm_ast rfl rfl fun G11 => ?_
      refine sm_go 1 (s' := (95, ([lR 56, lI p1, lI p2, lI p3, lI (1 + (p1 * 11)), lI v9], ([sI v9], (mSH r tl, (G11, nk)))))) ?_ rfl
      exact sm_retI rfl rfl rfl
    · refine sm_go 1 (s' := (46, ([lR 56, lI p1, lI p2, lI p3, none, none], ([sI 0], (mSH r tl, (z7.2, nk)))))) ?_ rfl
      exact sm_retI rfl rfl rfl
  · intro k12 hk12
    refine sm_letK0 (S := fun (g13 : Unit) => (37, ([lR 56, lI p1, lI p2, lI p3, none, none], ([sI (b2i v4), sR 56], (mSH r tl, (G, nk)))))) ?_ ?_
    · intro g13
      exact sm_go 1 (hk12 () 0) rfl
    · intro k14 hk14
      refine sm_letK0 (S := fun (g15 : Unit) => (23, ([lR 56, lI p1, lI p2, lI p3, none, none], ([sI (b2i v4), sR 56], (mSH r tl, (G, nk)))))) ?_ ?_
      · intro g15
        refine sm_go 3 (s' := (27, ([lR 56, lI p1, lI p2, lI p3, none, none], ([sI 20, sI 0, sI p3, sI (b2i v4), sR 56], (mSH r tl, (G, nk)))))) ?_ rfl
        refine sm_callG (rest := [sI (b2i v4), sR 56]) (T_X11_in scr d r tl nk G p3 0 20) rfl (Or.inr (Or.inl rfl)) rfl rfl rfl rfl (fun _ => rfl) (fun v16 => (30, ([lR 56, lI p1, lI p2, lI p3, none, none], ([sI (b2i v16), sI (b2i v4), sR 56], (mSH r tl, (G, nk)))))) (fun _ => rfl) fun v16 => ?_
        refine sm_if1n (t := v16) (pt := 37) (mCmpB_eq v16) rfl rfl (fun _ => ?_) (fun _ => ?_)
        · exact sm_go 2 (hk12 () 1) rfl
        · exact hk14 ()
      · intro k17 hk17
        refine sm_go 1 (s' := (8, ([lR 56, lI p1, lI p2, lI p3, none, none], ([sI p2, sI (b2i v4), sR 56], (mSH r tl, (G, nk)))))) ?_ rfl
        refine sm_if1 (t := (ieq p2 0)) (pt := 23) rfl rfl rfl (fun _ => ?_) (fun _ => ?_)
        · exact hk17 ()
        · refine sm_go 3 (s' := (17, ([lR 56, lI p1, lI p2, lI p3, none, none], ([sI 300, sI 50, sI p2, sI (b2i v4), sR 56], (mSH r tl, (G, nk)))))) ?_ rfl
          refine sm_callG (rest := [sI (b2i v4), sR 56]) (T_X11_in scr d r tl nk G p2 50 300) rfl (Or.inr (Or.inl rfl)) rfl rfl rfl rfl (fun _ => rfl) (fun v18 => (20, ([lR 56, lI p1, lI p2, lI p3, none, none], ([sI (b2i v18), sI (b2i v4), sR 56], (mSH r tl, (G, nk)))))) (fun _ => rfl) fun v18 => ?_
          refine sm_if1n (t := v18) (pt := 37) (mCmpB_eq v18) rfl rfl (fun _ => ?_) (fun _ => ?_)
          · exact hk17 ()
          · exact hk14 ()
noncomputable def P_X10_needKind (p1 : Int) (W : mW) : Option ((Unit ⊕ Nat) × mW) :=
letK (some (.inr 0, (W.1, (W.2.1, (W.2.2.1, (W.2.2.2.1 + 1, W.2.2.2.2 + 6)))))) fun k3 =>
bif (ilt p1 0) then
k3
else
bif (ilt p1 4) then
some (.inl (), W)
else
k3
set_option maxRecDepth 100000 in
theorem T_X10_needKind (scr : mScr) (d : Nat) (W : mW)  (p1 : Int) : SimC scr (d + 1) 120 [sI p1] (mkM W) (e2U) (P_X10_needKind p1 W) := by
  refine sm_callX (cs := mc_X10_needKind) (maxL := 1) (rk := 0) (o := 110) (hs := []) (d := d + 0) [lI p1] rfl rfl rfl rfl ?_
  unfold P_X10_needKind
  refine sm_letK0 (S := fun (g2 : Unit) => (9, ([lI p1], ([], (mSH W.1 W.2.1, (W.2.2.1, W.2.2.2)))))) ?_ ?_
  · intro g2
    exact sm_exc rfl rfl rfl rfl
  · intro k3 hk3
    refine sm_go 1 (s' := (1, ([lI p1], ([sI p1], (mSH W.1 W.2.1, (W.2.2.1, W.2.2.2)))))) ?_ rfl
    refine sm_if1 (t := (ilt p1 0)) (pt := 9) rfl rfl rfl (fun _ => ?_) (fun _ => ?_)
    · exact hk3 ()
    · refine sm_go 2 (s' := (6, ([lI p1], ([sI 4, sI p1], (mSH W.1 W.2.1, (W.2.2.1, W.2.2.2)))))) ?_ rfl
      refine sm_if2 (t := (ilt p1 4)) (pt := 20) rfl rfl rfl (fun _ => ?_) (fun _ => ?_)
      · exact sm_retU rfl rfl
      · exact hk3 ()
def P_X10_dropPlan (G : mG) : Option (mG) :=
(pstZ G 1 15 0).bind fun G1 =>
(P_X8_replay 17 G1).bind fun G2 =>
some G2
set_option maxRecDepth 100000 in
theorem T_X10_dropPlan (scr : mScr) (d : Nat) (r : List (Option Nat)) (tl : List mSh) (nk : Nat × Nat) (G : mG)  : SimC scr (d + 7) 132 [sR 0] (mSH r tl, (G, nk)) (e1U r tl nk) (P_X10_dropPlan G) := by
  refine sm_callX (cs := mc_X10_dropPlan) (maxL := 1) (rk := 0) (o := 10) (hs := []) (d := d + 6) [lR 0] rfl rfl rfl rfl ?_
  unfold P_X10_dropPlan
  refine sm_go 3 (s' := (5, ([lR 0], ([sI 0, sR 1], (mSH r tl, (G, nk)))))) ?_ rfl
  refine sm_pstZ rfl rfl rfl fun G1 => ?_
  refine sm_go 2 (s' := (12, ([lR 0], ([sR 17], (mSH r tl, (G1, nk)))))) ?_ rfl
  refine sm_callG (rest := []) (T_X8_replay_17 scr d r tl nk G1) rfl (Or.inl rfl) rfl rfl rfl rfl (fun _ => rfl) (fun G2 => (15, ([lR 0], ([], (mSH r tl, (G2, nk)))))) (fun _ => rfl) fun G2 => ?_
  exact sm_retU rfl rfl
def P_X11_noPlan (G : mG) : Option (mG) :=
(ast G 57 282 151 0).bind fun G1 =>
loop2 LF (fun again5 (x2 : Int) (G3 : mG) =>
bif (ilt x2 4) then
(ast G3 57 282 (152 + (x2 * 31)) 0).bind fun G6 =>
again5 (x2 + 1) G6
else
some G3) 0 G1
set_option maxRecDepth 100000 in
theorem T_X11_noPlan (scr : mScr) (d : Nat) (r : List (Option Nat)) (tl : List mSh) (nk : Nat × Nat) (G : mG)  : SimC scr (d + 1) 166 [sR 56] (mSH r tl, (G, nk)) (e1U r tl nk) (P_X11_noPlan G) := by
  refine sm_callX (cs := mc_X11_noPlan) (maxL := 2) (rk := 0) (o := 11) (hs := []) (d := d + 0) [lR 56, none] rfl rfl rfl rfl ?_
  unfold P_X11_noPlan
  refine sm_go 4 (s' := (8, ([lR 56, none], ([sI 0, sI 151, sR 57], (mSH r tl, (G, nk)))))) ?_ rfl
  refine sm_ast rfl rfl fun G1 => ?_
  refine sm_go 2 (s' := (11, ([lR 56, lI 0], ([], (mSH r tl, (G1, nk)))))) ?_ rfl
  refine sm_loop2 (S := fun (g4 : Unit) (x2 : Int) (G3 : mG) => (11, ([lR 56, lI x2], ([], (mSH r tl, (G3, nk)))))) ?_ LF () 0 G1
  intro again5 hagain5 g4 x2 G3
  refine sm_go 2 (s' := (13, ([lR 56, lI x2], ([sI 4, sI x2], (mSH r tl, (G3, nk)))))) ?_ rfl
  refine sm_if2n (t := (ilt x2 4)) (pt := 36) rfl rfl rfl (fun _ => ?_) (fun _ => ?_)
  · refine sm_go 8 (s' := (29, ([lR 56, lI x2], ([sI 0, sI (152 + (x2 * 31)), sR 57], (mSH r tl, (G3, nk)))))) ?_ rfl
    refine sm_ast rfl rfl fun G6 => ?_
    exact sm_go 2 (hagain5 () (x2 + 1) G6) rfl
  · exact sm_retU rfl rfl
def P_X11_setSetup (p1 : Int) (p2 : Int) (p3 : Int) (G : mG) : Option (Int × mG) :=
(P_X11_in p1 0 3).bind fun v4 =>
letK (fun (x5 : Int) =>
(P_X11_in p3 0 20).bind fun v7 =>
(P_X11_fits x5 (b2i v7) 1 G).bind fun z8 =>
bif z8.1 then
(P_X11_keeps z8.2).bind fun G9 =>
(ald G9 57 282 ((45 + (4 * p1)) + p2)).bind fun v10 =>
(ast G9 57 282 ((45 + (4 * p1)) + p2) p3).bind fun G11 =>
(P_X11_noPlan G11).bind fun G12 =>
some (v10, G12)
else
some (0, z8.2)) fun k13 =>
letK (k13 0) fun k15 =>
bif v4 then
(P_X11_in p2 0 3).bind fun v16 =>
bif v16 then
k13 1
else
k15
else
k15
set_option maxRecDepth 100000 in
theorem T_X11_setSetup (scr : mScr) (d : Nat) (r : List (Option Nat)) (tl : List mSh) (nk : Nat × Nat) (G : mG)  (p1 : Int) (p2 : Int) (p3 : Int) : SimC scr (d + 2) 170 [sR 56, sI p1, sI p2, sI p3] (mSH r tl, (G, nk)) (e1I r tl nk) (P_X11_setSetup p1 p2 p3 G) := by
  refine sm_callX (cs := mc_X11_setSetup) (maxL := 5) (rk := 0) (o := 11) (hs := []) (d := d + 1) [lR 56, lI p1, lI p2, lI p3, none] rfl rfl rfl rfl ?_
  unfold P_X11_setSetup
  refine sm_go 4 (s' := (4, ([lR 56, lI p1, lI p2, lI p3, none], ([sI 3, sI 0, sI p1, sR 56], (mSH r tl, (G, nk)))))) ?_ rfl
  refine sm_callG (rest := [sR 56]) (T_X11_in scr d r tl nk G p1 0 3) rfl (Or.inr (Or.inl rfl)) rfl rfl rfl rfl (fun _ => rfl) (fun v4 => (7, ([lR 56, lI p1, lI p2, lI p3, none], ([sI (b2i v4), sR 56], (mSH r tl, (G, nk)))))) (fun _ => rfl) fun v4 => ?_
  refine sm_letK1 (S := fun (g6 : Unit) (x5 : Int) => (24, ([lR 56, lI p1, lI p2, lI p3, none], ([sI x5, sR 56], (mSH r tl, (G, nk)))))) ?_ ?_
  · intro g6 x5
    refine sm_go 3 (s' := (28, ([lR 56, lI p1, lI p2, lI p3, none], ([sI 20, sI 0, sI p3, sI x5, sR 56], (mSH r tl, (G, nk)))))) ?_ rfl
    refine sm_callG (rest := [sI x5, sR 56]) (T_X11_in scr d r tl nk G p3 0 20) rfl (Or.inr (Or.inl rfl)) rfl rfl rfl rfl (fun _ => rfl) (fun v7 => (31, ([lR 56, lI p1, lI p2, lI p3, none], ([sI (b2i v7), sI x5, sR 56], (mSH r tl, (G, nk)))))) (fun _ => rfl) fun v7 => ?_
    refine sm_go 1 (s' := (32, ([lR 56, lI p1, lI p2, lI p3, none], ([sI 1, sI (b2i v7), sI x5, sR 56], (mSH r tl, (G, nk)))))) ?_ rfl
    refine sm_callG (rest := []) (T_X11_fits scr d r tl nk G x5 (b2i v7) 1) rfl (Or.inl rfl) rfl rfl rfl rfl (fun _ => rfl) (fun z8 => (35, ([lR 56, lI p1, lI p2, lI p3, none], ([sI (b2i z8.1)], (mSH r tl, (z8.2, nk)))))) (fun _ => rfl) fun z8 => ?_
    refine sm_if1 (t := z8.1) (pt := 40) (mCmpB_ne z8.1) rfl rfl (fun _ => ?_) (fun _ => ?_)
    · refine sm_go 1 (s' := (41, ([lR 56, lI p1, lI p2, lI p3, none], ([sR 56], (mSH r tl, (z8.2, nk)))))) ?_ rfl
      refine sm_callG (rest := []) (T_X11_keeps scr d r tl nk z8.2) rfl (Or.inl rfl) rfl rfl rfl rfl (fun _ => rfl) (fun G9 => (44, ([lR 56, lI p1, lI p2, lI p3, none], ([], (mSH r tl, (G9, nk)))))) (fun _ => rfl) fun G9 => ?_
      refine sm_go 9 (s' := (56, ([lR 56, lI p1, lI p2, lI p3, none], ([sI ((45 + (4 * p1)) + p2), sR 57], (mSH r tl, (G9, nk)))))) ?_ rfl
      refine sm_ald rfl rfl fun v10 => ?_
      refine sm_go 11 (s' := (72, ([lR 56, lI p1, lI p2, lI p3, lI v10], ([sI p3, sI ((45 + (4 * p1)) + p2), sR 57], (mSH r tl, (G9, nk)))))) ?_ rfl
      refine sm_ast rfl rfl fun G11 => ?_
      refine sm_go 1 (s' := (74, ([lR 56, lI p1, lI p2, lI p3, lI v10], ([sR 56], (mSH r tl, (G11, nk)))))) ?_ rfl
      refine sm_callG (rest := []) (T_X11_noPlan scr d r tl nk G11) rfl (Or.inl rfl) rfl rfl rfl rfl (fun _ => rfl) (fun G12 => (77, ([lR 56, lI p1, lI p2, lI p3, lI v10], ([], (mSH r tl, (G12, nk)))))) (fun _ => rfl) fun G12 => ?_
      refine sm_go 1 (s' := (79, ([lR 56, lI p1, lI p2, lI p3, lI v10], ([sI v10], (mSH r tl, (G12, nk)))))) ?_ rfl
      exact sm_retI rfl rfl rfl
    · refine sm_go 1 (s' := (39, ([lR 56, lI p1, lI p2, lI p3, none], ([sI 0], (mSH r tl, (z8.2, nk)))))) ?_ rfl
      exact sm_retI rfl rfl rfl
  · intro k13 hk13
    refine sm_letK0 (S := fun (g14 : Unit) => (23, ([lR 56, lI p1, lI p2, lI p3, none], ([sR 56], (mSH r tl, (G, nk)))))) ?_ ?_
    · intro g14
      exact sm_go 1 (hk13 () 0) rfl
    · intro k15 hk15
      refine sm_if1n (t := v4) (pt := 23) (mCmpB_eq v4) rfl rfl (fun _ => ?_) (fun _ => ?_)
      · refine sm_go 3 (s' := (13, ([lR 56, lI p1, lI p2, lI p3, none], ([sI 3, sI 0, sI p2, sR 56], (mSH r tl, (G, nk)))))) ?_ rfl
        refine sm_callG (rest := [sR 56]) (T_X11_in scr d r tl nk G p2 0 3) rfl (Or.inr (Or.inl rfl)) rfl rfl rfl rfl (fun _ => rfl) (fun v16 => (16, ([lR 56, lI p1, lI p2, lI p3, none], ([sI (b2i v16), sR 56], (mSH r tl, (G, nk)))))) (fun _ => rfl) fun v16 => ?_
        refine sm_if1n (t := v16) (pt := 23) (mCmpB_eq v16) rfl rfl (fun _ => ?_) (fun _ => ?_)
        · exact sm_go 2 (hk13 () 1) rfl
        · exact hk15 ()
      · exact hk15 ()
noncomputable def P_X10_needRoomForJob (W : mW) : Option ((Unit ⊕ Nat) × mW) :=
bif (ilt (W.2.2.1 1 0) 6) then
some (.inl (), W)
else
some (.inr 2, (W.1, (W.2.1, (W.2.2.1, (W.2.2.2.1 + 1, W.2.2.2.2 + 6)))))
set_option maxRecDepth 100000 in
theorem T_X10_needRoomForJob (scr : mScr) (d : Nat) (W : mW)  : SimC scr (d + 1) 128 [sR 0] (mkM W) (e2U) (P_X10_needRoomForJob W) := by
  refine sm_callX (cs := mc_X10_needRoomForJob) (maxL := 1) (rk := 0) (o := 10) (hs := []) (d := d + 0) [lR 0] rfl rfl rfl rfl ?_
  unfold P_X10_needRoomForJob
  refine sm_go 4 (s' := (9, ([lR 0], ([sI 6, sI (W.2.2.1 1 0)], (mSH W.1 W.2.1, (W.2.2.1, W.2.2.2)))))) ?_ rfl
  refine sm_if2 (t := (ilt (W.2.2.1 1 0) 6)) (pt := 23) rfl rfl rfl (fun _ => ?_) (fun _ => ?_)
  · exact sm_retU rfl rfl
  · exact sm_exc rfl rfl rfl rfl
def P_X7_newJob (p1 : Int) (p2 : Int) (p3 : Int) (p4 : Int) (G : mG) : Option (Int × mG) :=
bif (ilt (G 1 0) 6) then
(ast G 2 6 (G 1 0) p1).bind fun G5 =>
(ast G5 3 6 (G5 1 0) p2).bind fun G6 =>
(ast G6 4 6 (G6 1 0) p3).bind fun G7 =>
(ast G7 5 6 (G7 1 0) p4).bind fun G8 =>
(ast G8 6 6 (G8 1 0) 0).bind fun G9 =>
(pst G9 1 0 ((G9 1 0) + 1)).bind fun G10 =>
some (((G10 1 0) - 1), G10)
else
some ((-1), G)
set_option maxRecDepth 100000 in
theorem T_X7_newJob (scr : mScr) (d : Nat) (r : List (Option Nat)) (tl : List mSh) (nk : Nat × Nat) (G : mG)  (p1 : Int) (p2 : Int) (p3 : Int) (p4 : Int) : SimC scr (d + 1) 35 [sR 1, sI p1, sI p2, sI p3, sI p4] (mSH r tl, (G, nk)) (e1I r tl nk) (P_X7_newJob p1 p2 p3 p4 G) := by
  refine sm_callX (cs := mc_X7_newJob) (maxL := 5) (rk := 0) (o := 7) (hs := []) (d := d + 0) [lR 1, lI p1, lI p2, lI p3, lI p4] rfl rfl rfl rfl ?_
  unfold P_X7_newJob
  refine sm_go 3 (s' := (6, ([lR 1, lI p1, lI p2, lI p3, lI p4], ([sI 6, sI (G 1 0)], (mSH r tl, (G, nk)))))) ?_ rfl
  refine sm_if2 (t := (ilt (G 1 0) 6)) (pt := 11) rfl rfl rfl (fun _ => ?_) (fun _ => ?_)
  · refine sm_go 5 (s' := (20, ([lR 1, lI p1, lI p2, lI p3, lI p4], ([sI p1, sI (G 1 0), sR 2], (mSH r tl, (G, nk)))))) ?_ rfl
    refine sm_ast rfl rfl fun G5 => ?_
    refine sm_go 5 (s' := (30, ([lR 1, lI p1, lI p2, lI p3, lI p4], ([sI p2, sI (G5 1 0), sR 3], (mSH r tl, (G5, nk)))))) ?_ rfl
    refine sm_ast rfl rfl fun G6 => ?_
    refine sm_go 5 (s' := (40, ([lR 1, lI p1, lI p2, lI p3, lI p4], ([sI p3, sI (G6 1 0), sR 4], (mSH r tl, (G6, nk)))))) ?_ rfl
    refine sm_ast rfl rfl fun G7 => ?_
    refine sm_go 5 (s' := (51, ([lR 1, lI p1, lI p2, lI p3, lI p4], ([sI p4, sI (G7 1 0), sR 5], (mSH r tl, (G7, nk)))))) ?_ rfl
    refine sm_ast rfl rfl fun G8 => ?_
    refine sm_go 5 (s' := (61, ([lR 1, lI p1, lI p2, lI p3, lI p4], ([sI 0, sI (G8 1 0), sR 6], (mSH r tl, (G8, nk)))))) ?_ rfl
    refine sm_ast rfl rfl fun G9 => ?_
    refine sm_go 5 (s' := (69, ([lR 1, lI p1, lI p2, lI p3, lI p4], ([sI ((G9 1 0) + 1), sR 1], (mSH r tl, (G9, nk)))))) ?_ rfl
    refine sm_pst rfl rfl rfl fun G10 => ?_
    refine sm_go 4 (s' := (78, ([lR 1, lI p1, lI p2, lI p3, lI p4], ([sI ((G10 1 0) - 1)], (mSH r tl, (G10, nk)))))) ?_ rfl
    exact sm_retI rfl rfl rfl
  · refine sm_go 1 (s' := (10, ([lR 1, lI p1, lI p2, lI p3, lI p4], ([sI (-1)], (mSH r tl, (G, nk)))))) ?_ rfl
    exact sm_retI rfl rfl rfl
def P_X11_laysJob (p1 : Int) (p2 : Int) (p3 : Int) (G : mG) : Option (mG) :=
(ald G 57 282 0).bind fun v4 =>
(ast G 57 282 ((61 + (v4 * 15)) + 0) p1).bind fun G5 =>
(ast G5 57 282 ((61 + (v4 * 15)) + 1) p2).bind fun G6 =>
(ast G6 57 282 ((61 + (v4 * 15)) + 2) 1).bind fun G7 =>
(ast G7 57 282 ((61 + (v4 * 15)) + 3) p3).bind fun G8 =>
(ast G8 57 282 ((61 + (v4 * 15)) + 4) 0).bind fun G9 =>
(ald G9 57 282 0).bind fun v10 =>
(ast G9 57 282 0 (v10 + 1)).bind fun G11 =>
some G11
set_option maxRecDepth 100000 in
theorem T_X11_laysJob (scr : mScr) (d : Nat) (r : List (Option Nat)) (tl : List mSh) (nk : Nat × Nat) (G : mG)  (p1 : Int) (p2 : Int) (p3 : Int) : SimC scr (d + 1) 140 [sR 56, sI p1, sI p2, sI p3] (mSH r tl, (G, nk)) (e1U r tl nk) (P_X11_laysJob p1 p2 p3 G) := by
  refine sm_callX (cs := mc_X11_laysJob) (maxL := 5) (rk := 0) (o := 11) (hs := []) (d := d + 0) [lR 56, lI p1, lI p2, lI p3, none] rfl rfl rfl rfl ?_
  unfold P_X11_laysJob
  refine sm_go 4 (s' := (7, ([lR 56, lI p1, lI p2, lI p3, none], ([sI 0, sR 57, sI 61], (mSH r tl, (G, nk)))))) ?_ rfl
  refine sm_ald rfl rfl fun v4 => ?_
  refine sm_go 10 (s' := (23, ([lR 56, lI p1, lI p2, lI p3, lI (61 + (v4 * 15))], ([sI p1, sI ((61 + (v4 * 15)) + 0), sR 57], (mSH r tl, (G, nk)))))) ?_ rfl
  refine sm_ast rfl rfl fun G5 => ?_
  refine sm_go 6 (s' := (33, ([lR 56, lI p1, lI p2, lI p3, lI (61 + (v4 * 15))], ([sI p2, sI ((61 + (v4 * 15)) + 1), sR 57], (mSH r tl, (G5, nk)))))) ?_ rfl
  refine sm_ast rfl rfl fun G6 => ?_
  refine sm_go 6 (s' := (43, ([lR 56, lI p1, lI p2, lI p3, lI (61 + (v4 * 15))], ([sI 1, sI ((61 + (v4 * 15)) + 2), sR 57], (mSH r tl, (G6, nk)))))) ?_ rfl
  refine sm_ast rfl rfl fun G7 => ?_
  refine sm_go 6 (s' := (53, ([lR 56, lI p1, lI p2, lI p3, lI (61 + (v4 * 15))], ([sI p3, sI ((61 + (v4 * 15)) + 3), sR 57], (mSH r tl, (G7, nk)))))) ?_ rfl
  refine sm_ast rfl rfl fun G8 => ?_
  refine sm_go 6 (s' := (63, ([lR 56, lI p1, lI p2, lI p3, lI (61 + (v4 * 15))], ([sI 0, sI ((61 + (v4 * 15)) + 4), sR 57], (mSH r tl, (G8, nk)))))) ?_ rfl
  refine sm_ast rfl rfl fun G9 => ?_
  refine sm_go 4 (s' := (70, ([lR 56, lI p1, lI p2, lI p3, lI (61 + (v4 * 15))], ([sI 0, sR 57, sI 0, sR 57], (mSH r tl, (G9, nk)))))) ?_ rfl
  refine sm_ald rfl rfl fun v10 => ?_
  refine sm_go 2 (s' := (73, ([lR 56, lI p1, lI p2, lI p3, lI (61 + (v4 * 15))], ([sI (v10 + 1), sI 0, sR 57], (mSH r tl, (G9, nk)))))) ?_ rfl
  refine sm_ast rfl rfl fun G11 => ?_
  exact sm_retU rfl rfl
set_option maxRecDepth 100000 in
theorem T_X8_put_26 (scr : mScr) (d : Nat) (r : List (Option Nat)) (tl : List mSh) (nk : Nat × Nat) (G : mG)  (p1 : Int) (p2 : Int) : SimC scr (d + 4) 56 [sR 26, sI p1, sI p2] (mSH r tl, (G, nk)) (e1U r tl nk) (P_X8_put 26 p1 p2 G) := by
  refine sm_callX (cs := mc_X8_put) (maxL := 7) (rk := 0) (o := 8) (hs := []) (d := d + 3) [lR 26, lI p1, lI p2, none, none, none, none] rfl rfl rfl rfl ?_
  unfold P_X8_put
  refine sm_go 2 (s' := (2, ([lR 26, lI p1, lI p2, none, none, none, none], ([sI p1, sR 26], (mSH r tl, (G, nk)))))) ?_ rfl
  refine sm_callG (rest := []) (T_X8_hasLeft_26 scr (d + 2) r tl nk G p1) rfl (Or.inl rfl) rfl rfl rfl rfl (fun _ => rfl) (fun v3 => (5, ([lR 26, lI p1, lI p2, none, none, none, none], ([sI (b2i v3)], (mSH r tl, (G, nk)))))) (fun _ => rfl) fun v3 => ?_
  refine sm_if1n (t := v3) (pt := 17) (mCmpB_eq v3) rfl rfl (fun _ => ?_) (fun _ => ?_)
  · refine sm_go 3 (s' := (14, ([lR 26, lI p1, lI p2, none, none, none, none], ([sI 30, sI (G 26 1)], (mSH r tl, (G, nk)))))) ?_ rfl
    refine sm_if2 (t := (ilt (G 26 1) 30)) (pt := 18) rfl rfl rfl (fun _ => ?_) (fun _ => ?_)
    · refine sm_go 2 (s' := (20, ([lR 26, lI p1, lI p2, none, none, none, none], ([sI p1, sR 26], (mSH r tl, (G, nk)))))) ?_ rfl
      refine sm_callG (rest := []) (T_X8_nextStep_26 scr (d + 2) r tl nk G p1) rfl (Or.inl rfl) rfl rfl rfl rfl (fun _ => rfl) (fun v4 => (23, ([lR 26, lI p1, lI p2, none, none, none, none], ([sI v4], (mSH r tl, (G, nk)))))) (fun _ => rfl) fun v4 => ?_
      refine sm_go 5 (s' := (32, ([lR 26, lI p1, lI p2, lI v4, none, none, none], ([sI v4, sR 7], (mSH r tl, (G, nk)))))) ?_ rfl
      refine sm_ald rfl rfl fun v5 => ?_
      refine sm_go 3 (s' := (38, ([lR 26, lI p1, lI p2, lI v4, lI v5, none, none], ([sI v5, sR 26], (mSH r tl, (G, nk)))))) ?_ rfl
      refine sm_callG (rest := []) (T_X8_lastOn_26 scr (d + 2) r tl nk G v5) rfl (Or.inl rfl) rfl rfl rfl rfl (fun _ => rfl) (fun v6 => (41, ([lR 26, lI p1, lI p2, lI v4, lI v5, none, none], ([sI v6], (mSH r tl, (G, nk)))))) (fun _ => rfl) fun v6 => ?_
      refine sm_go 7 (s' := (51, ([lR 26, lI p1, lI p2, lI v4, lI v5, lI v6, none], ([sI p2, sI p1, sR 26, sI v4, sR 31], (mSH r tl, (G, nk)))))) ?_ rfl
      refine sm_callG (rest := [sI v4, sR 31]) (T_X8_firstHour_26 scr d r tl nk G p1 p2) rfl (Or.inl rfl) rfl rfl rfl rfl (fun _ => rfl) (fun v7 => (54, ([lR 26, lI p1, lI p2, lI v4, lI v5, lI v6, none], ([sI v7, sI v4, sR 31], (mSH r tl, (G, nk)))))) (fun _ => rfl) fun v7 => ?_
      refine sm_ast rfl rfl fun G8 => ?_
      refine sm_go 4 (s' := (62, ([lR 26, lI p1, lI p2, lI v4, lI v5, lI v6, none], ([sI v6, sI v4, sR 32], (mSH r tl, (G8, nk)))))) ?_ rfl
      refine sm_ast rfl rfl fun G9 => ?_
      refine sm_letK1 (S := fun (g11 : Unit) (x10 : Int) => (85, ([lR 26, lI p1, lI p2, lI v4, lI v5, lI v6, none], ([sI x10, sI v4, sR 33], (mSH r tl, (G9, nk)))))) ?_ ?_
      · intro g11 x10
        refine sm_ast rfl rfl fun G12 => ?_
        refine sm_letK1 (S := fun (g14 : Unit) (x13 : Int) => (107, ([lR 26, lI p1, lI p2, lI v4, lI v5, lI v6, none], ([sI x13], (mSH r tl, (G12, nk)))))) ?_ ?_
        · intro g14 x13
          refine sm_letK1 (S := fun (g16 : Unit) (x15 : Int) => (148, ([lR 26, lI p1, lI p2, lI v4, lI v5, lI v6, lI x13], ([sI x15, sI v4, sR 34], (mSH r tl, (G12, nk)))))) ?_ ?_
          · intro g16 x15
            refine sm_ast rfl rfl fun G17 => ?_
            refine sm_go 8 (s' := (164, ([lR 26, lI p1, lI p2, lI v4, lI v5, lI v6, lI x13], ([sI v5, sR 29, sI (v5 * 30), sR 30], (mSH r tl, (G17, nk)))))) ?_ rfl
            refine sm_ald rfl rfl fun v18 => ?_
            refine sm_go 2 (s' := (167, ([lR 26, lI p1, lI p2, lI v4, lI v5, lI v6, lI x13], ([sI v4, sI ((v5 * 30) + v18), sR 30], (mSH r tl, (G17, nk)))))) ?_ rfl
            refine sm_ast rfl rfl fun G19 => ?_
            refine sm_go 4 (s' := (175, ([lR 26, lI p1, lI p2, lI v4, lI v5, lI v6, lI x13], ([sI v5, sR 29, sI v5, sR 29], (mSH r tl, (G19, nk)))))) ?_ rfl
            refine sm_ald rfl rfl fun v20 => ?_
            refine sm_go 2 (s' := (178, ([lR 26, lI p1, lI p2, lI v4, lI v5, lI v6, lI x13], ([sI (v20 + 1), sI v5, sR 29], (mSH r tl, (G19, nk)))))) ?_ rfl
            refine sm_ast rfl rfl fun G21 => ?_
            refine sm_go 4 (s' := (185, ([lR 26, lI p1, lI p2, lI v4, lI v5, lI v6, lI x13], ([sI p1, sR 28, sI p1, sR 28], (mSH r tl, (G21, nk)))))) ?_ rfl
            refine sm_ald rfl rfl fun v22 => ?_
            refine sm_go 2 (s' := (188, ([lR 26, lI p1, lI p2, lI v4, lI v5, lI v6, lI x13], ([sI (v22 + 1), sI p1, sR 28], (mSH r tl, (G21, nk)))))) ?_ rfl
            refine sm_ast rfl rfl fun G23 => ?_
            refine sm_go 5 (s' := (198, ([lR 26, lI p1, lI p2, lI v4, lI v5, lI v6, lI x13], ([sI p1, sI (G23 26 1), sR 27], (mSH r tl, (G23, nk)))))) ?_ rfl
            refine sm_ast rfl rfl fun G24 => ?_
            refine sm_go 5 (s' := (206, ([lR 26, lI p1, lI p2, lI v4, lI v5, lI v6, lI x13], ([sI ((G24 26 1) + 1), sR 26], (mSH r tl, (G24, nk)))))) ?_ rfl
            refine sm_pst rfl rfl rfl fun G25 => ?_
            exact sm_retU rfl rfl
          · intro k26 hk26
            refine sm_go 5 (s' := (116, ([lR 26, lI p1, lI p2, lI v4, lI v5, lI v6, lI x13], ([sI x13, sI v4, sR 34], (mSH r tl, (G12, nk)))))) ?_ rfl
            refine sm_if1 (t := (ieq x13 0)) (pt := 131) rfl rfl rfl (fun _ => ?_) (fun _ => ?_)
            · refine sm_go 3 (s' := (137, ([lR 26, lI p1, lI p2, lI v4, lI v5, lI v6, lI x13], ([sI v6, sR 34, sI v4, sR 34], (mSH r tl, (G12, nk)))))) ?_ rfl
              refine sm_ald rfl rfl fun v27 => ?_
              refine sm_go 4 (s' := (146, ([lR 26, lI p1, lI p2, lI v4, lI v5, lI v6, lI x13], ([sI v4, sR 8, sI v27, sI v4, sR 34], (mSH r tl, (G12, nk)))))) ?_ rfl
              refine sm_ald rfl rfl fun v28 => ?_
              exact sm_go 1 (hk26 () (v27 + v28)) rfl
            · refine sm_go 4 (s' := (127, ([lR 26, lI p1, lI p2, lI v4, lI v5, lI v6, lI x13], ([sI v4, sR 8, sI v4, sR 34], (mSH r tl, (G12, nk)))))) ?_ rfl
              refine sm_ald rfl rfl fun v29 => ?_
              exact sm_go 1 (hk26 () v29) rfl
        · intro k30 hk30
          refine sm_letK0 (S := fun (g31 : Unit) => (102, ([lR 26, lI p1, lI p2, lI v4, lI v5, lI v6, none], ([], (mSH r tl, (G12, nk)))))) ?_ ?_
          · intro g31
            exact sm_go 2 (hk30 () 1) rfl
          · intro k32 hk32
            refine sm_go 2 (s' := (89, ([lR 26, lI p1, lI p2, lI v4, lI v5, lI v6, none], ([sI (-1), sI v6], (mSH r tl, (G12, nk)))))) ?_ rfl
            refine sm_if2 (t := (ieq v6 (-1))) (pt := 102) rfl rfl rfl (fun _ => ?_) (fun _ => ?_)
            · exact hk32 ()
            · refine sm_go 3 (s' := (96, ([lR 26, lI p1, lI p2, lI v4, lI v5, lI v6, none], ([sI v4, sI v6, sR 26], (mSH r tl, (G12, nk)))))) ?_ rfl
              refine sm_callG (rest := []) (T_X8_needsTool_26 scr (d + 2) r tl nk G12 v6 v4) rfl (Or.inl rfl) rfl rfl rfl rfl (fun _ => rfl) (fun v33 => (99, ([lR 26, lI p1, lI p2, lI v4, lI v5, lI v6, none], ([sI (b2i v33)], (mSH r tl, (G12, nk)))))) (fun _ => rfl) fun v33 => ?_
              refine sm_if1n (t := v33) (pt := 106) (mCmpB_eq v33) rfl rfl (fun _ => ?_) (fun _ => ?_)
              · exact hk32 ()
              · exact sm_go 1 (hk30 () 0) rfl
      · intro k34 hk34
        refine sm_go 5 (s' := (71, ([lR 26, lI p1, lI p2, lI v4, lI v5, lI v6, none], ([sI (-1), sI v6, sI v4, sR 33], (mSH r tl, (G9, nk)))))) ?_ rfl
        refine sm_if2n (t := (ieq v6 (-1))) (pt := 78) rfl rfl rfl (fun _ => ?_) (fun _ => ?_)
        · exact sm_go 2 (hk34 () 0) rfl
        · refine sm_go 3 (s' := (82, ([lR 26, lI p1, lI p2, lI v4, lI v5, lI v6, none], ([sI v4, sI v6, sR 26, sI v4, sR 33], (mSH r tl, (G9, nk)))))) ?_ rfl
          refine sm_callG (rest := [sI v4, sR 33]) (T_X8_hoursBetween_26 scr (d + 1) r tl nk G9 v6 v4) rfl (Or.inl rfl) rfl rfl rfl rfl (fun _ => rfl) (fun v35 => (85, ([lR 26, lI p1, lI p2, lI v4, lI v5, lI v6, none], ([sI v35, sI v4, sR 33], (mSH r tl, (G9, nk)))))) (fun _ => rfl) fun v35 => ?_
          exact hk34 () v35
    · exact sm_retU rfl rfl
  · exact sm_retU rfl rfl
set_option maxRecDepth 100000 in
theorem T_X8_putDelayed_26 (scr : mScr) (d : Nat) (r : List (Option Nat)) (tl : List mSh) (nk : Nat × Nat) (G : mG)  (p1 : Int) (p2 : Int) : SimC scr (d + 5) 59 [sR 26, sI p1, sI p2] (mSH r tl, (G, nk)) (e1U r tl nk) (P_X8_putDelayed 26 p1 p2 G) := by
  refine sm_callX (cs := mc_X8_putDelayed) (maxL := 6) (rk := 0) (o := 8) (hs := []) (d := d + 4) [lR 26, lI p1, lI p2, none, none, none] rfl rfl rfl rfl ?_
  unfold P_X8_putDelayed
  refine sm_go 1 (s' := (1, ([lR 26, lI p1, lI p2, none, none, none], ([sR 26], (mSH r tl, (G, nk)))))) ?_ rfl
  refine sm_callG (rest := []) (T_X8_clear_26 scr (d + 2) r tl nk G) rfl (Or.inl rfl) rfl rfl rfl rfl (fun _ => rfl) (fun G3 => (4, ([lR 26, lI p1, lI p2, none, none, none], ([], (mSH r tl, (G3, nk)))))) (fun _ => rfl) fun G3 => ?_
  refine sm_go 2 (s' := (8, ([lR 26, lI p1, lI p2, none, none, none], ([sR 1], (mSH r tl, (G3, nk)))))) ?_ rfl
  refine sm_callG (rest := []) (T_X7_stepTotal scr (d + 3) r tl nk G3) rfl (Or.inl rfl) rfl rfl rfl rfl (fun _ => rfl) (fun v4 => (11, ([lR 26, lI p1, lI p2, none, none, none], ([sI v4], (mSH r tl, (G3, nk)))))) (fun _ => rfl) fun v4 => ?_
  refine sm_go 3 (s' := (15, ([lR 26, lI p1, lI p2, lI v4, lI 0, none], ([], (mSH r tl, (G3, nk)))))) ?_ rfl
  refine sm_loop2 (S := fun (g7 : Option mV) (x5 : Int) (G6 : mG) => (15, ([lR 26, lI p1, lI p2, lI v4, lI x5, g7], ([], (mSH r tl, (G6, nk)))))) ?_ LF (none) 0 G3
  intro again8 hagain8 g7 x5 G6
  refine sm_go 2 (s' := (18, ([lR 26, lI p1, lI p2, lI v4, lI x5, g7], ([sI v4, sI x5], (mSH r tl, (G6, nk)))))) ?_ rfl
  refine sm_if2n (t := (ilt x5 v4)) (pt := 60) rfl rfl rfl (fun _ => ?_) (fun _ => ?_)
  · refine sm_go 4 (s' := (30, ([lR 26, lI p1, lI p2, lI v4, lI x5, g7], ([sI x5, sR 16], (mSH r tl, (G6, nk)))))) ?_ rfl
    refine sm_ald rfl rfl fun v9 => ?_
    refine sm_go 5 (s' := (39, ([lR 26, lI p1, lI p2, lI v4, lI x5, lI v9], ([sI v9, sR 26, sI v9, sR 26], (mSH r tl, (G6, nk)))))) ?_ rfl
    refine sm_callG (rest := [sI v9, sR 26]) (T_X8_nextStep_26 scr (d + 3) r tl nk G6 v9) rfl (Or.inl rfl) rfl rfl rfl rfl (fun _ => rfl) (fun v10 => (42, ([lR 26, lI p1, lI p2, lI v4, lI x5, lI v9], ([sI v10, sI v9, sR 26], (mSH r tl, (G6, nk)))))) (fun _ => rfl) fun v10 => ?_
    refine sm_letK1 (S := fun (g12 : Unit) (x11 : Int) => (51, ([lR 26, lI p1, lI p2, lI v4, lI x5, lI v9], ([sI x11, sI v9, sR 26], (mSH r tl, (G6, nk)))))) ?_ ?_
    · intro g12 x11
      refine sm_callG (rest := []) (T_X8_put_26 scr d r tl nk G6 v9 x11) rfl (Or.inl rfl) rfl rfl rfl rfl (fun _ => rfl) (fun G13 => (54, ([lR 26, lI p1, lI p2, lI v4, lI x5, lI v9], ([], (mSH r tl, (G13, nk)))))) (fun _ => rfl) fun G13 => ?_
      exact sm_go 2 (hagain8 (lI v9) (x5 + 1) G13) rfl
    · intro k14 hk14
      refine sm_go 1 (s' := (43, ([lR 26, lI p1, lI p2, lI v4, lI x5, lI v9], ([sI p1, sI v10, sI v9, sR 26], (mSH r tl, (G6, nk)))))) ?_ rfl
      refine sm_if2n (t := (ieq v10 p1)) (pt := 50) rfl rfl rfl (fun _ => ?_) (fun _ => ?_)
      · exact sm_go 2 (hk14 () p2) rfl
      · exact sm_go 1 (hk14 () 0) rfl
  · exact sm_retU rfl rfl
