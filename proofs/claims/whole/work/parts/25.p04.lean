/-! ===== programs as functions, 25 4: printed by wip/whole/gen/gen_p_out.py ===== -/
def P_X11_goesByRule (p1 : Int) (G : mG) : Option (mG) :=
loop2 LF (fun again5 (x2 : Int) (G3 : mG) =>
bif (ieq x2 0) then
some G3
else
letK (fun (x6 : Int) (x7 : Int) =>
letK (fun (x9 : Int) =>
bif (ieq x9 0) then
again5 x9 G3
else
(P_X11_puts x6 G3).bind fun G11 =>
(P_X11_does x6 x7 G11).bind fun G12 =>
again5 x9 G12) fun k13 =>
bif (ieq x6 (-1)) then
k13 0
else
k13 1) fun k14 =>
loop3 LF (fun again19 (x15 : Int) (x16 : Int) (x17 : Int) =>
(ald G3 57 282 0).bind fun v20 =>
bif (ilt x17 v20) then
(ald G3 60 6 x17).bind fun v21 =>
(P_X11_of x17 4 G3).bind fun v22 =>
letK (fun (x23 : Int) (x24 : Int) =>
again19 x23 x24 (x17 + 1)) fun k26 =>
bif (ieq v21 v22) then
k26 x15 x16
else
(P_X11_beginOf x17 G3).bind fun v27 =>
letK (k26 x17 v27) fun k29 =>
bif (ieq x15 (-1)) then
k29
else
bif (ilt x16 v27) then
k26 x15 x16
else
bif (ieq v27 x16) then
(P_X11_isAhead p1 x17 x15 G3).bind fun v30 =>
bif v30 then
k29
else
k26 x15 x16
else
k29
else
k14 x15 x16) (-1) 0 0) 1 G
set_option maxRecDepth 100000 in
theorem T_X11_goesByRule (scr : mScr) (d : Nat) (r : List (Option Nat)) (tl : List mSh) (nk : Nat × Nat) (G : mG)  (p1 : Int) : SimC scr (d + 5) 162 [sR 56, sI p1] (mSH r tl, (G, nk)) (e1U r tl nk) (P_X11_goesByRule p1 G) := by
  refine sm_callX (cs := mc_X11_goesByRule) (maxL := 7) (rk := 0) (o := 11) (hs := []) (d := d + 4) [lR 56, lI p1, none, none, none, none, none] rfl rfl rfl rfl ?_
  unfold P_X11_goesByRule
  refine sm_go 2 (s' := (2, ([lR 56, lI p1, lI 1, none, none, none, none], ([], (mSH r tl, (G, nk)))))) ?_ rfl
  refine sm_loop2 (S := fun (g4 : Option mV × Option mV × Option mV × Option mV) (x2 : Int) (G3 : mG) => (2, ([lR 56, lI p1, lI x2, g4.1, g4.2.1, g4.2.2.1, g4.2.2.2], ([], (mSH r tl, (G3, nk)))))) ?_ LF (none, none, none, none) 1 G
  intro again5 hagain5 g4 x2 G3
  refine sm_go 1 (s' := (3, ([lR 56, lI p1, lI x2, g4.1, g4.2.1, g4.2.2.1, g4.2.2.2], ([sI x2], (mSH r tl, (G3, nk)))))) ?_ rfl
  refine sm_if1 (t := (ieq x2 0)) (pt := 132) rfl rfl rfl (fun _ => ?_) (fun _ => ?_)
  · exact sm_retU rfl rfl
  · refine sm_go 6 (s' := (14, ([lR 56, lI p1, lI x2, lI (-1), lI 0, lI 0, g4.2.2.2], ([], (mSH r tl, (G3, nk)))))) ?_ rfl
    refine sm_letK2 (S := fun (g8 : Option mV × Option mV) (x6 : Int) (x7 : Int) => (99, ([lR 56, lI p1, lI x2, lI x6, lI x7, g8.1, g8.2], ([], (mSH r tl, (G3, nk)))))) ?_ ?_
    · intro g8 x6 x7
      refine sm_letK1 (S := fun (g10 : Unit) (x9 : Int) => (109, ([lR 56, lI p1, lI x2, lI x6, lI x7, g8.1, g8.2], ([sI x9], (mSH r tl, (G3, nk)))))) ?_ ?_
      · intro g10 x9
        refine sm_go 2 (s' := (111, ([lR 56, lI p1, lI x9, lI x6, lI x7, g8.1, g8.2], ([sI x9], (mSH r tl, (G3, nk)))))) ?_ rfl
        refine sm_if1n (t := (ieq x9 0)) (pt := 117) rfl rfl rfl (fun _ => ?_) (fun _ => ?_)
        · exact sm_go 1 (hagain5 (lI x6, lI x7, g8.1, g8.2) x9 G3) rfl
        · refine sm_go 2 (s' := (119, ([lR 56, lI p1, lI x9, lI x6, lI x7, g8.1, g8.2], ([sI x6, sR 56], (mSH r tl, (G3, nk)))))) ?_ rfl
          refine sm_callG (rest := []) (T_X11_puts scr (d + 1) r tl nk G3 x6) rfl (Or.inl rfl) rfl rfl rfl rfl (fun _ => rfl) (fun G11 => (122, ([lR 56, lI p1, lI x9, lI x6, lI x7, g8.1, g8.2], ([], (mSH r tl, (G11, nk)))))) (fun _ => rfl) fun G11 => ?_
          refine sm_go 3 (s' := (126, ([lR 56, lI p1, lI x9, lI x6, lI x7, g8.1, g8.2], ([sI x7, sI x6, sR 56], (mSH r tl, (G11, nk)))))) ?_ rfl
          refine sm_callG (rest := []) (T_X11_does scr (d + 1) r tl nk G11 x6 x7) rfl (Or.inl rfl) rfl rfl rfl rfl (fun _ => rfl) (fun G12 => (129, ([lR 56, lI p1, lI x9, lI x6, lI x7, g8.1, g8.2], ([], (mSH r tl, (G12, nk)))))) (fun _ => rfl) fun G12 => ?_
          exact sm_go 1 (hagain5 (lI x6, lI x7, g8.1, g8.2) x9 G12) rfl
      · intro k13 hk13
        refine sm_go 2 (s' := (101, ([lR 56, lI p1, lI x2, lI x6, lI x7, g8.1, g8.2], ([sI (-1), sI x6], (mSH r tl, (G3, nk)))))) ?_ rfl
        refine sm_if2 (t := (ieq x6 (-1))) (pt := 108) rfl rfl rfl (fun _ => ?_) (fun _ => ?_)
        · exact sm_go 1 (hk13 () 0) rfl
        · exact sm_go 2 (hk13 () 1) rfl
    · intro k14 hk14
      refine sm_loop3 (S := fun (g18 : Option mV) (x15 : Int) (x16 : Int) (x17 : Int) => (14, ([lR 56, lI p1, lI x2, lI x15, lI x16, lI x17, g18], ([], (mSH r tl, (G3, nk)))))) ?_ LF (g4.2.2.2) (-1) 0 0
      intro again19 hagain19 g18 x15 x16 x17
      refine sm_go 4 (s' := (21, ([lR 56, lI p1, lI x2, lI x15, lI x16, lI x17, g18], ([sI 0, sR 57, sI x17], (mSH r tl, (G3, nk)))))) ?_ rfl
      refine sm_ald rfl rfl fun v20 => ?_
      refine sm_if2n (t := (ilt x17 v20)) (pt := 99) rfl rfl rfl (fun _ => ?_) (fun _ => ?_)
      · refine sm_go 3 (s' := (31, ([lR 56, lI p1, lI x2, lI x15, lI x16, lI x17, g18], ([sI x17, sR 60], (mSH r tl, (G3, nk)))))) ?_ rfl
        refine sm_ald rfl rfl fun v21 => ?_
        refine sm_go 3 (s' := (36, ([lR 56, lI p1, lI x2, lI x15, lI x16, lI x17, g18], ([sI 4, sI x17, sR 56, sI v21], (mSH r tl, (G3, nk)))))) ?_ rfl
        refine sm_callG (rest := [sI v21]) (T_X11_of scr (d + 3) r tl nk G3 x17 4) rfl (Or.inl rfl) rfl rfl rfl rfl (fun _ => rfl) (fun v22 => (39, ([lR 56, lI p1, lI x2, lI x15, lI x16, lI x17, g18], ([sI v22, sI v21], (mSH r tl, (G3, nk)))))) (fun _ => rfl) fun v22 => ?_
        refine sm_letK2 (S := fun (g25 : Option mV) (x23 : Int) (x24 : Int) => (93, ([lR 56, lI p1, lI x2, lI x23, lI x24, lI x17, g25], ([], (mSH r tl, (G3, nk)))))) ?_ ?_
        · intro g25 x23 x24
          exact sm_go 2 (hagain19 (g25) x23 x24 (x17 + 1)) rfl
        · intro k26 hk26
          refine sm_if2n (t := (ieq v21 v22)) (pt := 45) rfl rfl rfl (fun _ => ?_) (fun _ => ?_)
          · exact sm_go 1 (hk26 (g18) x15 x16) rfl
          · refine sm_go 2 (s' := (48, ([lR 56, lI p1, lI x2, lI x15, lI x16, lI x17, g18], ([sI x17, sR 56], (mSH r tl, (G3, nk)))))) ?_ rfl
            refine sm_callG (rest := []) (T_X11_beginOf scr (d + 1) r tl nk G3 x17) rfl (Or.inl rfl) rfl rfl rfl rfl (fun _ => rfl) (fun v27 => (51, ([lR 56, lI p1, lI x2, lI x15, lI x16, lI x17, g18], ([sI v27], (mSH r tl, (G3, nk)))))) (fun _ => rfl) fun v27 => ?_
            refine sm_letK0 (S := fun (g28 : Unit) => (86, ([lR 56, lI p1, lI x2, lI x15, lI x16, lI x17, lI v27], ([], (mSH r tl, (G3, nk)))))) ?_ ?_
            · intro g28
              exact sm_go 4 (hk26 (lI v27) x17 v27) rfl
            · intro k29 hk29
              refine sm_go 3 (s' := (55, ([lR 56, lI p1, lI x2, lI x15, lI x16, lI x17, lI v27], ([sI (-1), sI x15], (mSH r tl, (G3, nk)))))) ?_ rfl
              refine sm_if2 (t := (ieq x15 (-1))) (pt := 86) rfl rfl rfl (fun _ => ?_) (fun _ => ?_)
              · exact hk29 ()
              · refine sm_go 2 (s' := (62, ([lR 56, lI p1, lI x2, lI x15, lI x16, lI x17, lI v27], ([sI x16, sI v27], (mSH r tl, (G3, nk)))))) ?_ rfl
                refine sm_if2 (t := (ilt x16 v27)) (pt := 93) rfl rfl rfl (fun _ => ?_) (fun _ => ?_)
                · exact hk26 (lI v27) x15 x16
                · refine sm_go 2 (s' := (69, ([lR 56, lI p1, lI x2, lI x15, lI x16, lI x17, lI v27], ([sI x16, sI v27], (mSH r tl, (G3, nk)))))) ?_ rfl
                  refine sm_if2n (t := (ieq v27 x16)) (pt := 86) rfl rfl rfl (fun _ => ?_) (fun _ => ?_)
                  · refine sm_go 4 (s' := (77, ([lR 56, lI p1, lI x2, lI x15, lI x16, lI x17, lI v27], ([sI x15, sI x17, sI p1, sR 56], (mSH r tl, (G3, nk)))))) ?_ rfl
                    refine sm_callG (rest := []) (T_X11_isAhead scr d r tl nk G3 p1 x17 x15) rfl (Or.inl rfl) rfl rfl rfl rfl (fun _ => rfl) (fun v30 => (80, ([lR 56, lI p1, lI x2, lI x15, lI x16, lI x17, lI v27], ([sI (b2i v30)], (mSH r tl, (G3, nk)))))) (fun _ => rfl) fun v30 => ?_
                    refine sm_if1 (t := v30) (pt := 86) (mCmpB_ne v30) rfl rfl (fun _ => ?_) (fun _ => ?_)
                    · exact hk29 ()
                    · exact sm_go 1 (hk26 (lI v27) x15 x16) rfl
                  · exact hk29 ()
      · exact hk14 (lI x17, g18) x15 x16
def P_X11_allSteps (G : mG) : Option (Int) :=
loop2 LF (fun again4 (x1 : Int) (x2 : Int) =>
(ald G 57 282 0).bind fun v5 =>
bif (ilt x2 v5) then
(P_X11_of x2 4 G).bind fun v6 =>
again4 (x1 + v6) (x2 + 1)
else
some x1) 0 0
set_option maxRecDepth 100000 in
theorem T_X11_allSteps (scr : mScr) (d : Nat) (r : List (Option Nat)) (tl : List mSh) (nk : Nat × Nat) (G : mG)  : SimC scr (d + 2) 147 [sR 56] (mSH r tl, (G, nk)) (e0I (mSH r tl, (G, nk))) (P_X11_allSteps G) := by
  refine sm_callX (cs := mc_X11_allSteps) (maxL := 3) (rk := 0) (o := 11) (hs := []) (d := d + 1) [lR 56, none, none] rfl rfl rfl rfl ?_
  unfold P_X11_allSteps
  refine sm_go 4 (s' := (4, ([lR 56, lI 0, lI 0], ([], (mSH r tl, (G, nk)))))) ?_ rfl
  refine sm_loop2 (S := fun (g3 : Unit) (x1 : Int) (x2 : Int) => (4, ([lR 56, lI x1, lI x2], ([], (mSH r tl, (G, nk)))))) ?_ LF () 0 0
  intro again4 hagain4 g3 x1 x2
  refine sm_go 4 (s' := (10, ([lR 56, lI x1, lI x2], ([sI 0, sR 57, sI x2], (mSH r tl, (G, nk)))))) ?_ rfl
  refine sm_ald rfl rfl fun v5 => ?_
  refine sm_if2n (t := (ilt x2 v5)) (pt := 29) rfl rfl rfl (fun _ => ?_) (fun _ => ?_)
  · refine sm_go 4 (s' := (18, ([lR 56, lI x1, lI x2], ([sI 4, sI x2, sR 56, sI x1], (mSH r tl, (G, nk)))))) ?_ rfl
    refine sm_callG (rest := [sI x1]) (T_X11_of scr d r tl nk G x2 4) rfl (Or.inl rfl) rfl rfl rfl rfl (fun _ => rfl) (fun v6 => (21, ([lR 56, lI x1, lI x2], ([sI v6, sI x1], (mSH r tl, (G, nk)))))) (fun _ => rfl) fun v6 => ?_
    exact sm_go 4 (hagain4 () (x1 + v6) (x2 + 1)) rfl
  · refine sm_go 1 (s' := (30, ([lR 56, lI x1, lI x2], ([sI x1], (mSH r tl, (G, nk)))))) ?_ rfl
    exact sm_retI rfl rfl rfl
def P_X11_worksOut (a an : Nat) (p1 : Int) (p2 : Int) (p3 : Int) (G : mG) : Option (Bool × mG) :=
(P_X11_startsPlan G).bind fun G4 =>
letK (fun (x5 : Int) (G6 : mG) =>
(P_X11_allSteps G6).bind fun v8 =>
bif (ieq x5 v8) then
some (true, G6)
else
some (false, G6)) fun k9 =>
loop3 LF (fun again14 (x10 : Int) (x11 : Int) (G12 : mG) =>
bif (ieq x10 0) then
k9 x11 G12
else
letK (fun (x15 : Int) (x16 : Int) (G17 : mG) =>
again14 x15 x16 G17) fun k19 =>
loop4 LF (fun again25 (x20 : Int) (x21 : Int) (x22 : Int) (G23 : mG) =>
bif (ilt x22 4) then
(ald G23 65 4 x22).bind fun v26 =>
(ald G23 a an (p1 + (x22 * 31))).bind fun v27 =>
letK (fun (x28 : Int) (x29 : Int) (G30 : mG) =>
again25 x28 x29 (x22 + 1) G30) fun k32 =>
bif (ieq v26 v27) then
k32 x20 x21 G23
else
(ald G23 65 4 x22).bind fun v33 =>
(ald G23 a an (((p1 + (x22 * 31)) + 1) + v33)).bind fun v34 =>
(ald G23 60 6 (iDiv v34 10)).bind fun v35 =>
bif (ieq v35 (iRem v34 10)) then
(P_X11_beginOf (iDiv v34 10) G23).bind fun v36 =>
letK (fun (x37 : Int) =>
(P_X11_does (iDiv v34 10) x37 G23).bind fun G39 =>
k32 1 (x21 + 1) G39) fun k40 =>
bif (ieq v34 p2) then
(P_X11_hoursOf (iDiv v34 10) (iRem v34 10) G23).bind fun v41 =>
(P_X11_open x22 (v36 + p3) v41 G23).bind fun v42 =>
k40 v42
else
k40 v36
else
k32 x20 x21 G23
else
k19 x20 x21 G23) 0 x11 0 G12) 1 0 G4
set_option maxRecDepth 100000 in
theorem T_X11_worksOut_57 (scr : mScr) (d : Nat) (r : List (Option Nat)) (tl : List mSh) (nk : Nat × Nat) (G : mG)  (p1 : Int) (p2 : Int) (p3 : Int) : SimC scr (d + 4) 157 [sR 56, sR 57, sI p1, sI p2, sI p3] (mSH r tl, (G, nk)) (e1B r tl nk) (P_X11_worksOut 57 282 p1 p2 p3 G) := by
  refine sm_callX (cs := mc_X11_worksOut) (maxL := 11) (rk := 1) (o := 11) (hs := []) (d := d + 3) [lR 56, lR 57, lI p1, lI p2, lI p3, none, none, none, none, none, none] rfl rfl rfl rfl ?_
  unfold P_X11_worksOut
  refine sm_go 1 (s' := (1, ([lR 56, lR 57, lI p1, lI p2, lI p3, none, none, none, none, none, none], ([sR 56], (mSH r tl, (G, nk)))))) ?_ rfl
  refine sm_callG (rest := []) (T_X11_startsPlan scr (d + 1) r tl nk G) rfl (Or.inl rfl) rfl rfl rfl rfl (fun _ => rfl) (fun G4 => (4, ([lR 56, lR 57, lI p1, lI p2, lI p3, none, none, none, none, none, none], ([], (mSH r tl, (G4, nk)))))) (fun _ => rfl) fun G4 => ?_
  refine sm_go 4 (s' := (10, ([lR 56, lR 57, lI p1, lI p2, lI p3, lI 1, lI 0, none, none, none, none], ([], (mSH r tl, (G4, nk)))))) ?_ rfl
  refine sm_letK2 (S := fun (g7 : Option mV × Option mV × Option mV × Option mV × Option mV) (x5 : Int) (G6 : mG) => (161, ([lR 56, lR 57, lI p1, lI p2, lI p3, g7.1, lI x5, g7.2.1, g7.2.2.1, g7.2.2.2.1, g7.2.2.2.2], ([], (mSH r tl, (G6, nk)))))) ?_ ?_
  · intro g7 x5 G6
    refine sm_go 2 (s' := (164, ([lR 56, lR 57, lI p1, lI p2, lI p3, g7.1, lI x5, g7.2.1, g7.2.2.1, g7.2.2.2.1, g7.2.2.2.2], ([sR 56, sI x5], (mSH r tl, (G6, nk)))))) ?_ rfl
    refine sm_callG (rest := [sI x5]) (T_X11_allSteps scr (d + 1) r tl nk G6) rfl (Or.inl rfl) rfl rfl rfl rfl (fun _ => rfl) (fun v8 => (167, ([lR 56, lR 57, lI p1, lI p2, lI p3, g7.1, lI x5, g7.2.1, g7.2.2.1, g7.2.2.2.1, g7.2.2.2.2], ([sI v8, sI x5], (mSH r tl, (G6, nk)))))) (fun _ => rfl) fun v8 => ?_
    refine sm_if2n (t := (ieq x5 v8)) (pt := 174) rfl rfl rfl (fun _ => ?_) (fun _ => ?_)
    · refine sm_go 2 (s' := (175, ([lR 56, lR 57, lI p1, lI p2, lI p3, g7.1, lI x5, g7.2.1, g7.2.2.1, g7.2.2.2.1, g7.2.2.2.2], ([sI 1], (mSH r tl, (G6, nk)))))) ?_ rfl
      exact sm_retB1 (b := true) rfl rfl
    · refine sm_go 1 (s' := (175, ([lR 56, lR 57, lI p1, lI p2, lI p3, g7.1, lI x5, g7.2.1, g7.2.2.1, g7.2.2.2.1, g7.2.2.2.2], ([sI 0], (mSH r tl, (G6, nk)))))) ?_ rfl
      exact sm_retB1 (b := false) rfl rfl
  · intro k9 hk9
    refine sm_loop3 (S := fun (g13 : Option mV × Option mV × Option mV × Option mV) (x10 : Int) (x11 : Int) (G12 : mG) => (10, ([lR 56, lR 57, lI p1, lI p2, lI p3, lI x10, lI x11, g13.1, g13.2.1, g13.2.2.1, g13.2.2.2], ([], (mSH r tl, (G12, nk)))))) ?_ LF (none, none, none, none) 1 0 G4
    intro again14 hagain14 g13 x10 x11 G12
    refine sm_go 1 (s' := (12, ([lR 56, lR 57, lI p1, lI p2, lI p3, lI x10, lI x11, g13.1, g13.2.1, g13.2.2.1, g13.2.2.2], ([sI x10], (mSH r tl, (G12, nk)))))) ?_ rfl
    refine sm_if1 (t := (ieq x10 0)) (pt := 161) rfl rfl rfl (fun _ => ?_) (fun _ => ?_)
    · exact hk9 (lI x10, g13.1, g13.2.1, g13.2.2.1, g13.2.2.2) x11 G12
    · refine sm_go 4 (s' := (21, ([lR 56, lR 57, lI p1, lI p2, lI p3, lI 0, lI x11, lI 0, g13.2.1, g13.2.2.1, g13.2.2.2], ([], (mSH r tl, (G12, nk)))))) ?_ rfl
      refine sm_letK3 (S := fun (g18 : Option mV × Option mV × Option mV × Option mV) (x15 : Int) (x16 : Int) (G17 : mG) => (158, ([lR 56, lR 57, lI p1, lI p2, lI p3, lI x15, lI x16, g18.1, g18.2.1, g18.2.2.1, g18.2.2.2], ([], (mSH r tl, (G17, nk)))))) ?_ ?_
      · intro g18 x15 x16 G17
        exact sm_go 1 (hagain14 (g18.1, g18.2.1, g18.2.2.1, g18.2.2.2) x15 x16 G17) rfl
      · intro k19 hk19
        refine sm_loop4 (S := fun (g24 : Option mV × Option mV × Option mV) (x20 : Int) (x21 : Int) (x22 : Int) (G23 : mG) => (21, ([lR 56, lR 57, lI p1, lI p2, lI p3, lI x20, lI x21, lI x22, g24.1, g24.2.1, g24.2.2], ([], (mSH r tl, (G23, nk)))))) ?_ LF (g13.2.1, g13.2.2.1, g13.2.2.2) 0 x11 0 G12
        intro again25 hagain25 g24 x20 x21 x22 G23
        refine sm_go 2 (s' := (24, ([lR 56, lR 57, lI p1, lI p2, lI p3, lI x20, lI x21, lI x22, g24.1, g24.2.1, g24.2.2], ([sI 4, sI x22], (mSH r tl, (G23, nk)))))) ?_ rfl
        refine sm_if2n (t := (ilt x22 4)) (pt := 158) rfl rfl rfl (fun _ => ?_) (fun _ => ?_)
        · refine sm_go 9 (s' := (42, ([lR 56, lR 57, lI p1, lI p2, lI p3, lI x20, lI x21, lI x22, lI (p1 + (x22 * 31)), g24.2.1, g24.2.2], ([sI x22, sR 65], (mSH r tl, (G23, nk)))))) ?_ rfl
          refine sm_ald rfl rfl fun v26 => ?_
          refine sm_go 2 (s' := (46, ([lR 56, lR 57, lI p1, lI p2, lI p3, lI x20, lI x21, lI x22, lI (p1 + (x22 * 31)), g24.2.1, g24.2.2], ([sI (p1 + (x22 * 31)), sR 57, sI v26], (mSH r tl, (G23, nk)))))) ?_ rfl
          refine sm_ald rfl rfl fun v27 => ?_
          refine sm_letK3 (S := fun (g31 : Option mV × Option mV) (x28 : Int) (x29 : Int) (G30 : mG) => (152, ([lR 56, lR 57, lI p1, lI p2, lI p3, lI x28, lI x29, lI x22, lI (p1 + (x22 * 31)), g31.1, g31.2], ([], (mSH r tl, (G30, nk)))))) ?_ ?_
          · intro g31 x28 x29 G30
            exact sm_go 2 (hagain25 (lI (p1 + (x22 * 31)), g31.1, g31.2) x28 x29 (x22 + 1) G30) rfl
          · intro k32 hk32
            refine sm_if2n (t := (ieq v26 v27)) (pt := 53) rfl rfl rfl (fun _ => ?_) (fun _ => ?_)
            · exact sm_go 1 (hk32 (g24.2.1, g24.2.2) x20 x21 G23) rfl
            · refine sm_go 7 (s' := (64, ([lR 56, lR 57, lI p1, lI p2, lI p3, lI x20, lI x21, lI x22, lI (p1 + (x22 * 31)), g24.2.1, g24.2.2], ([sI x22, sR 65, sI ((p1 + (x22 * 31)) + 1), sR 57], (mSH r tl, (G23, nk)))))) ?_ rfl
              refine sm_ald rfl rfl fun v33 => ?_
              refine sm_go 1 (s' := (66, ([lR 56, lR 57, lI p1, lI p2, lI p3, lI x20, lI x21, lI x22, lI (p1 + (x22 * 31)), g24.2.1, g24.2.2], ([sI (((p1 + (x22 * 31)) + 1) + v33), sR 57], (mSH r tl, (G23, nk)))))) ?_ rfl
              refine sm_ald rfl rfl fun v34 => ?_
              refine sm_go 6 (s' := (78, ([lR 56, lR 57, lI p1, lI p2, lI p3, lI x20, lI x21, lI x22, lI (p1 + (x22 * 31)), lI v34, g24.2.2], ([sI (iDiv v34 10), sR 60], (mSH r tl, (G23, nk)))))) ?_ rfl
              refine sm_ald rfl rfl fun v35 => ?_
              refine sm_go 3 (s' := (84, ([lR 56, lR 57, lI p1, lI p2, lI p3, lI x20, lI x21, lI x22, lI (p1 + (x22 * 31)), lI v34, g24.2.2], ([sI (iRem v34 10), sI v35], (mSH r tl, (G23, nk)))))) ?_ rfl
              refine sm_if2 (t := (ieq v35 (iRem v34 10))) (pt := 90) rfl rfl rfl (fun _ => ?_) (fun _ => ?_)
              · refine sm_go 4 (s' := (96, ([lR 56, lR 57, lI p1, lI p2, lI p3, lI x20, lI x21, lI x22, lI (p1 + (x22 * 31)), lI v34, g24.2.2], ([sI (iDiv v34 10), sR 56], (mSH r tl, (G23, nk)))))) ?_ rfl
                refine sm_callG (rest := []) (T_X11_beginOf scr d r tl nk G23 (iDiv v34 10)) rfl (Or.inl rfl) rfl rfl rfl rfl (fun _ => rfl) (fun v36 => (99, ([lR 56, lR 57, lI p1, lI p2, lI p3, lI x20, lI x21, lI x22, lI (p1 + (x22 * 31)), lI v34, g24.2.2], ([sI v36], (mSH r tl, (G23, nk)))))) (fun _ => rfl) fun v36 => ?_
                refine sm_letK1 (S := fun (g38 : Unit) (x37 : Int) => (143, ([lR 56, lR 57, lI p1, lI p2, lI p3, lI x20, lI x21, lI x22, lI (p1 + (x22 * 31)), lI v34, lI v36], ([sI x37, sI (iDiv v34 10), sR 56], (mSH r tl, (G23, nk)))))) ?_ ?_
                · intro g38 x37
                  refine sm_callG (rest := []) (T_X11_does scr d r tl nk G23 (iDiv v34 10) x37) rfl (Or.inl rfl) rfl rfl rfl rfl (fun _ => rfl) (fun G39 => (146, ([lR 56, lR 57, lI p1, lI p2, lI p3, lI x20, lI x21, lI x22, lI (p1 + (x22 * 31)), lI v34, lI v36], ([], (mSH r tl, (G39, nk)))))) (fun _ => rfl) fun G39 => ?_
                  exact sm_go 3 (hk32 (lI v34, lI v36) 1 (x21 + 1) G39) rfl
                · intro k40 hk40
                  refine sm_go 7 (s' := (110, ([lR 56, lR 57, lI p1, lI p2, lI p3, lI x20, lI x21, lI x22, lI (p1 + (x22 * 31)), lI v34, lI v36], ([sI p2, sI v34, sI (iDiv v34 10), sR 56], (mSH r tl, (G23, nk)))))) ?_ rfl
                  refine sm_if2n (t := (ieq v34 p2)) (pt := 141) rfl rfl rfl (fun _ => ?_) (fun _ => ?_)
                  · refine sm_go 12 (s' := (132, ([lR 56, lR 57, lI p1, lI p2, lI p3, lI x20, lI x21, lI x22, lI (p1 + (x22 * 31)), lI v34, lI v36], ([sI (iRem v34 10), sI (iDiv v34 10), sR 56, sI (v36 + p3), sI x22, sR 56, sI (iDiv v34 10), sR 56], (mSH r tl, (G23, nk)))))) ?_ rfl
                    refine sm_callG (rest := [sI (v36 + p3), sI x22, sR 56, sI (iDiv v34 10), sR 56]) (T_X11_hoursOf scr (d + 1) r tl nk G23 (iDiv v34 10) (iRem v34 10)) rfl (Or.inl rfl) rfl rfl rfl rfl (fun _ => rfl) (fun v41 => (135, ([lR 56, lR 57, lI p1, lI p2, lI p3, lI x20, lI x21, lI x22, lI (p1 + (x22 * 31)), lI v34, lI v36], ([sI v41, sI (v36 + p3), sI x22, sR 56, sI (iDiv v34 10), sR 56], (mSH r tl, (G23, nk)))))) (fun _ => rfl) fun v41 => ?_
                    refine sm_callG (rest := [sI (iDiv v34 10), sR 56]) (T_X11_open scr (d + 2) r tl nk G23 x22 (v36 + p3) v41) rfl (Or.inl rfl) rfl rfl rfl rfl (fun _ => rfl) (fun v42 => (138, ([lR 56, lR 57, lI p1, lI p2, lI p3, lI x20, lI x21, lI x22, lI (p1 + (x22 * 31)), lI v34, lI v36], ([sI v42, sI (iDiv v34 10), sR 56], (mSH r tl, (G23, nk)))))) (fun _ => rfl) fun v42 => ?_
                    exact sm_go 1 (hk40 () v42) rfl
                  · exact sm_go 1 (hk40 () v36) rfl
              · exact sm_go 1 (hk32 (lI v34, g24.2.2) x20 x21 G23) rfl
        · exact hk19 (lI x22, g24.1, g24.2.1, g24.2.2) x20 x21 G23
def P_X11_works (G : mG) : Option (Bool × mG) :=
(P_X11_worksOut 57 282 152 (-1) 0 G).bind fun z1 =>
some (z1.1, z1.2)
set_option maxRecDepth 100000 in
theorem T_X11_works (scr : mScr) (d : Nat) (r : List (Option Nat)) (tl : List mSh) (nk : Nat × Nat) (G : mG)  : SimC scr (d + 5) 158 [sR 56] (mSH r tl, (G, nk)) (e1B r tl nk) (P_X11_works G) := by
  refine sm_callX (cs := mc_X11_works) (maxL := 1) (rk := 1) (o := 11) (hs := []) (d := d + 4) [lR 56] rfl rfl rfl rfl ?_
  unfold P_X11_works
  refine sm_go 6 (s' := (10, ([lR 56], ([sI 0, sI (-1), sI 152, sR 57, sR 56], (mSH r tl, (G, nk)))))) ?_ rfl
  refine sm_callG (rest := []) (T_X11_worksOut_57 scr d r tl nk G 152 (-1) 0) rfl (Or.inl rfl) rfl rfl rfl rfl (fun _ => rfl) (fun z1 => (13, ([lR 56], ([sI (b2i z1.1)], (mSH r tl, (z1.2, nk)))))) (fun _ => rfl) fun z1 => ?_
  exact sm_retB1 rfl rfl
def P_X11_planEnd (G : mG) : Option (Int) :=
loop2 LF (fun again4 (x1 : Int) (x2 : Int) =>
(ald G 57 282 0).bind fun v5 =>
bif (ilt x2 v5) then
(ald G 61 6 x2).bind fun v6 =>
again4 (iMax x1 v6) (x2 + 1)
else
some x1) 0 0
set_option maxRecDepth 100000 in
theorem T_X11_planEnd (scr : mScr) (d : Nat) (r : List (Option Nat)) (tl : List mSh) (nk : Nat × Nat) (G : mG)  : SimC scr (d + 1) 159 [sR 56] (mSH r tl, (G, nk)) (e0I (mSH r tl, (G, nk))) (P_X11_planEnd G) := by
  refine sm_callX (cs := mc_X11_planEnd) (maxL := 3) (rk := 0) (o := 11) (hs := []) (d := d + 0) [lR 56, none, none] rfl rfl rfl rfl ?_
  unfold P_X11_planEnd
  refine sm_go 4 (s' := (4, ([lR 56, lI 0, lI 0], ([], (mSH r tl, (G, nk)))))) ?_ rfl
  refine sm_loop2 (S := fun (g3 : Unit) (x1 : Int) (x2 : Int) => (4, ([lR 56, lI x1, lI x2], ([], (mSH r tl, (G, nk)))))) ?_ LF () 0 0
  intro again4 hagain4 g3 x1 x2
  refine sm_go 4 (s' := (10, ([lR 56, lI x1, lI x2], ([sI 0, sR 57, sI x2], (mSH r tl, (G, nk)))))) ?_ rfl
  refine sm_ald rfl rfl fun v5 => ?_
  refine sm_if2n (t := (ilt x2 v5)) (pt := 31) rfl rfl rfl (fun _ => ?_) (fun _ => ?_)
  · refine sm_go 4 (s' := (20, ([lR 56, lI x1, lI x2], ([sI x2, sR 61, sI x1], (mSH r tl, (G, nk)))))) ?_ rfl
    refine sm_ald rfl rfl fun v6 => ?_
    exact sm_go 4 (hagain4 () (iMax x1 v6) (x2 + 1)) rfl
  · refine sm_go 1 (s' := (32, ([lR 56, lI x1, lI x2], ([sI x1], (mSH r tl, (G, nk)))))) ?_ rfl
    exact sm_retI rfl rfl rfl
def P_X11_takesOrder (G : mG) : Option (Int × mG) :=
(acp G 66 124 0 57 282 152 124).bind fun G1 =>
(ast G1 57 282 151 1).bind fun G2 =>
(P_X11_works G2).bind fun z3 =>
(P_X11_planEnd z3.2).bind fun v4 =>
some (v4, z3.2)
set_option maxRecDepth 100000 in
theorem T_X11_takesOrder (scr : mScr) (d : Nat) (r : List (Option Nat)) (tl : List mSh) (nk : Nat × Nat) (G : mG)  : SimC scr (d + 6) 165 [sR 56] (mSH r tl, (G, nk)) (e1I r tl nk) (P_X11_takesOrder G) := by
  refine sm_callX (cs := mc_X11_takesOrder) (maxL := 2) (rk := 0) (o := 11) (hs := []) (d := d + 5) [lR 56, none] rfl rfl rfl rfl ?_
  unfold P_X11_takesOrder
  refine sm_go 7 (s' := (14, ([lR 56, none], ([sI 124, sI 152, sR 57, sI 0, sR 66], (mSH r tl, (G, nk)))))) ?_ rfl
  refine sm_acp rfl rfl rfl rfl fun G1 => ?_
  refine sm_go 4 (s' := (25, ([lR 56, none], ([sI 1, sI 151, sR 57], (mSH r tl, (G1, nk)))))) ?_ rfl
  refine sm_ast rfl rfl fun G2 => ?_
  refine sm_go 1 (s' := (27, ([lR 56, none], ([sR 56], (mSH r tl, (G2, nk)))))) ?_ rfl
  refine sm_callG (rest := []) (T_X11_works scr d r tl nk G2) rfl (Or.inl rfl) rfl rfl rfl rfl (fun _ => rfl) (fun z3 => (30, ([lR 56, none], ([sI (b2i z3.1)], (mSH r tl, (z3.2, nk)))))) (fun _ => rfl) fun z3 => ?_
  refine sm_go 2 (s' := (32, ([lR 56, lI (b2i z3.1)], ([sR 56], (mSH r tl, (z3.2, nk)))))) ?_ rfl
  refine sm_callG (rest := []) (T_X11_planEnd scr (d + 4) r tl nk z3.2) rfl (Or.inl rfl) rfl rfl rfl rfl (fun _ => rfl) (fun v4 => (35, ([lR 56, lI (b2i z3.1)], ([sI v4], (mSH r tl, (z3.2, nk)))))) (fun _ => rfl) fun v4 => ?_
  exact sm_retI rfl rfl rfl
def P_X11_plan (p1 : Int) (G : mG) : Option (Int × mG) :=
(P_X11_in p1 0 7).bind fun v2 =>
(P_X11_fits (b2i v2) 1 1 G).bind fun z3 =>
bif z3.1 then
(P_X11_keeps z3.2).bind fun G4 =>
(P_X11_startsPlan G4).bind fun G5 =>
(P_X11_clearsOrder G5).bind fun G6 =>
(P_X11_goesByRule p1 G6).bind fun G7 =>
(P_X11_takesOrder G7).bind fun z8 =>
some (z8.1, z8.2)
else
some (0, z3.2)
set_option maxRecDepth 100000 in
theorem T_X11_plan (scr : mScr) (d : Nat) (r : List (Option Nat)) (tl : List mSh) (nk : Nat × Nat) (G : mG)  (p1 : Int) : SimC scr (d + 7) 174 [sR 56, sI p1] (mSH r tl, (G, nk)) (e1I r tl nk) (P_X11_plan p1 G) := by
  refine sm_callX (cs := mc_X11_plan) (maxL := 2) (rk := 0) (o := 11) (hs := []) (d := d + 6) [lR 56, lI p1] rfl rfl rfl rfl ?_
  unfold P_X11_plan
  refine sm_go 4 (s' := (5, ([lR 56, lI p1], ([sI 7, sI 0, sI p1, sR 56], (mSH r tl, (G, nk)))))) ?_ rfl
  refine sm_callG (rest := [sR 56]) (T_X11_in scr (d + 5) r tl nk G p1 0 7) rfl (Or.inr (Or.inl rfl)) rfl rfl rfl rfl (fun _ => rfl) (fun v2 => (8, ([lR 56, lI p1], ([sI (b2i v2), sR 56], (mSH r tl, (G, nk)))))) (fun _ => rfl) fun v2 => ?_
  refine sm_go 2 (s' := (10, ([lR 56, lI p1], ([sI 1, sI 1, sI (b2i v2), sR 56], (mSH r tl, (G, nk)))))) ?_ rfl
  refine sm_callG (rest := []) (T_X11_fits scr (d + 5) r tl nk G (b2i v2) 1 1) rfl (Or.inl rfl) rfl rfl rfl rfl (fun _ => rfl) (fun z3 => (13, ([lR 56, lI p1], ([sI (b2i z3.1)], (mSH r tl, (z3.2, nk)))))) (fun _ => rfl) fun z3 => ?_
  refine sm_if1 (t := z3.1) (pt := 18) (mCmpB_ne z3.1) rfl rfl (fun _ => ?_) (fun _ => ?_)
  · refine sm_go 1 (s' := (19, ([lR 56, lI p1], ([sR 56], (mSH r tl, (z3.2, nk)))))) ?_ rfl
    refine sm_callG (rest := []) (T_X11_keeps scr (d + 5) r tl nk z3.2) rfl (Or.inl rfl) rfl rfl rfl rfl (fun _ => rfl) (fun G4 => (22, ([lR 56, lI p1], ([], (mSH r tl, (G4, nk)))))) (fun _ => rfl) fun G4 => ?_
    refine sm_go 1 (s' := (23, ([lR 56, lI p1], ([sR 56], (mSH r tl, (G4, nk)))))) ?_ rfl
    refine sm_callG (rest := []) (T_X11_startsPlan scr (d + 4) r tl nk G4) rfl (Or.inl rfl) rfl rfl rfl rfl (fun _ => rfl) (fun G5 => (26, ([lR 56, lI p1], ([], (mSH r tl, (G5, nk)))))) (fun _ => rfl) fun G5 => ?_
    refine sm_go 1 (s' := (27, ([lR 56, lI p1], ([sR 56], (mSH r tl, (G5, nk)))))) ?_ rfl
    refine sm_callG (rest := []) (T_X11_clearsOrder scr (d + 5) r tl nk G5) rfl (Or.inl rfl) rfl rfl rfl rfl (fun _ => rfl) (fun G6 => (30, ([lR 56, lI p1], ([], (mSH r tl, (G6, nk)))))) (fun _ => rfl) fun G6 => ?_
    refine sm_go 2 (s' := (32, ([lR 56, lI p1], ([sI p1, sR 56], (mSH r tl, (G6, nk)))))) ?_ rfl
    refine sm_callG (rest := []) (T_X11_goesByRule scr (d + 1) r tl nk G6 p1) rfl (Or.inl rfl) rfl rfl rfl rfl (fun _ => rfl) (fun G7 => (35, ([lR 56, lI p1], ([], (mSH r tl, (G7, nk)))))) (fun _ => rfl) fun G7 => ?_
    refine sm_go 1 (s' := (36, ([lR 56, lI p1], ([sR 56], (mSH r tl, (G7, nk)))))) ?_ rfl
    refine sm_callG (rest := []) (T_X11_takesOrder scr d r tl nk G7) rfl (Or.inl rfl) rfl rfl rfl rfl (fun _ => rfl) (fun z8 => (39, ([lR 56, lI p1], ([sI z8.1], (mSH r tl, (z8.2, nk)))))) (fun _ => rfl) fun z8 => ?_
    exact sm_retI rfl rfl rfl
  · refine sm_go 1 (s' := (17, ([lR 56, lI p1], ([sI 0], (mSH r tl, (z3.2, nk)))))) ?_ rfl
    exact sm_retI rfl rfl rfl
def P_X10_putDigits (p1 : Int) (G : mG) : Option (Bool × mG) :=
letK (fun (x2 : Int) (G3 : mG) =>
bif (ilt (lcmpI p1 0) 0) then
some (false, G3)
else
(P_X7_stepTotal G3).bind fun v5 =>
bif (ieq x2 v5) then
(P_X8_clear 26 G3).bind fun G6 =>
loop2 LF (fun again10 (x7 : Int) (G8 : mG) =>
bif (ilt x7 0) then
some (true, G8)
else
(ald G8 36 19 x7).bind fun v11 =>
(P_X8_hasLeft 26 (v11 - 1) G8).bind fun v12 =>
bif v12 then
(P_X8_put 26 (v11 - 1) 0 G8).bind fun G13 =>
again10 (x7 + (-1)) G13
else
some (false, G8)) (x2 - 1) G6
else
some (false, G3)) fun k14 =>
loop3 LF (fun again19 (x15 : Int) (x16 : Int) (G17 : mG) =>
bif (ilt 0 (lcmpI x16 0)) then
bif (ilt x15 19) then
(ast G17 36 19 x15 (lRem x16 10)).bind fun G20 =>
again19 (x15 + 1) (lDiv x16 10) G20
else
k14 x15 G17
else
k14 x15 G17) 0 p1 G
set_option maxRecDepth 100000 in
theorem T_X10_putDigits (scr : mScr) (d : Nat) (r : List (Option Nat)) (tl : List mSh) (nk : Nat × Nat) (G : mG)  (p1 : Int) : SimC scr (d + 5) 134 [sR 0, sL p1] (mSH r tl, (G, nk)) (e1B r tl nk) (P_X10_putDigits p1 G) := by
  refine sm_callX (cs := mc_X10_putDigits) (maxL := 8) (rk := 1) (o := 10) (hs := []) (d := d + 4) [lR 0, lL p1, none, none, none, none, none, none] rfl rfl rfl rfl ?_
  unfold P_X10_putDigits
  refine sm_go 4 (s' := (5, ([lR 0, lL p1, none, lI 0, lL p1, none, none, none], ([], (mSH r tl, (G, nk)))))) ?_ rfl
  refine sm_letK2 (S := fun (g4 : Option mV × Option mV) (x2 : Int) (G3 : mG) => (45, ([lR 0, lL p1, none, lI x2, g4.1, g4.2, none, none], ([], (mSH r tl, (G3, nk)))))) ?_ ?_
  · intro g4 x2 G3
    refine sm_go 3 (s' := (48, ([lR 0, lL p1, none, lI x2, g4.1, g4.2, none, none], ([sI (lcmpI p1 0)], (mSH r tl, (G3, nk)))))) ?_ rfl
    refine sm_if1 (t := (ilt (lcmpI p1 0) 0)) (pt := 62) rfl rfl rfl (fun _ => ?_) (fun _ => ?_)
    · refine sm_go 1 (s' := (63, ([lR 0, lL p1, none, lI x2, g4.1, g4.2, none, none], ([sI 0], (mSH r tl, (G3, nk)))))) ?_ rfl
      exact sm_retB1 (b := false) rfl rfl
    · refine sm_go 3 (s' := (56, ([lR 0, lL p1, none, lI x2, g4.1, g4.2, none, none], ([sR 1, sI x2], (mSH r tl, (G3, nk)))))) ?_ rfl
      refine sm_callG (rest := [sI x2]) (T_X7_stepTotal scr (d + 3) r tl nk G3) rfl (Or.inl rfl) rfl rfl rfl rfl (fun _ => rfl) (fun v5 => (59, ([lR 0, lL p1, none, lI x2, g4.1, g4.2, none, none], ([sI v5, sI x2], (mSH r tl, (G3, nk)))))) (fun _ => rfl) fun v5 => ?_
      refine sm_if2 (t := (ieq x2 v5)) (pt := 64) rfl rfl rfl (fun _ => ?_) (fun _ => ?_)
      · refine sm_go 2 (s' := (68, ([lR 0, lL p1, none, lI x2, g4.1, g4.2, none, none], ([sR 26], (mSH r tl, (G3, nk)))))) ?_ rfl
        refine sm_callG (rest := []) (T_X8_clear_26 scr (d + 2) r tl nk G3) rfl (Or.inl rfl) rfl rfl rfl rfl (fun _ => rfl) (fun G6 => (71, ([lR 0, lL p1, none, lI x2, g4.1, g4.2, none, none], ([], (mSH r tl, (G6, nk)))))) (fun _ => rfl) fun G6 => ?_
        refine sm_go 4 (s' := (76, ([lR 0, lL p1, none, lI x2, g4.1, (mNar g4.2), lI (x2 - 1), none], ([], (mSH r tl, (G6, nk)))))) ?_ rfl
        refine sm_loop2 (S := fun (g9 : Option mV × Option mV) (x7 : Int) (G8 : mG) => (76, ([lR 0, lL p1, none, lI x2, g4.1, g9.1, lI x7, g9.2], ([], (mSH r tl, (G8, nk)))))) ?_ LF ((mNar g4.2), none) (x2 - 1) G6
        intro again10 hagain10 g9 x7 G8
        refine sm_go 1 (s' := (78, ([lR 0, lL p1, none, lI x2, g4.1, g9.1, lI x7, g9.2], ([sI x7], (mSH r tl, (G8, nk)))))) ?_ rfl
        refine sm_if1 (t := (ilt x7 0)) (pt := 122) rfl rfl rfl (fun _ => ?_) (fun _ => ?_)
        · refine sm_go 1 (s' := (123, ([lR 0, lL p1, none, lI x2, g4.1, g9.1, lI x7, g9.2], ([sI 1], (mSH r tl, (G8, nk)))))) ?_ rfl
          exact sm_retB1 (b := true) rfl rfl
        · refine sm_go 3 (s' := (87, ([lR 0, lL p1, none, lI x2, g4.1, g9.1, lI x7, g9.2], ([sI x7, sR 36], (mSH r tl, (G8, nk)))))) ?_ rfl
          refine sm_ald rfl rfl fun v11 => ?_
          refine sm_go 6 (s' := (98, ([lR 0, lL p1, none, lI x2, g4.1, g9.1, lI x7, lI (v11 - 1)], ([sI (v11 - 1), sR 26], (mSH r tl, (G8, nk)))))) ?_ rfl
          refine sm_callG (rest := []) (T_X8_hasLeft_26 scr (d + 3) r tl nk G8 (v11 - 1)) rfl (Or.inl rfl) rfl rfl rfl rfl (fun _ => rfl) (fun v12 => (101, ([lR 0, lL p1, none, lI x2, g4.1, g9.1, lI x7, lI (v11 - 1)], ([sI (b2i v12)], (mSH r tl, (G8, nk)))))) (fun _ => rfl) fun v12 => ?_
          refine sm_if1 (t := v12) (pt := 106) (mCmpB_ne v12) rfl rfl (fun _ => ?_) (fun _ => ?_)
          · refine sm_go 4 (s' := (113, ([lR 0, lL p1, none, lI x2, g4.1, g9.1, lI x7, lI (v11 - 1)], ([sI 0, sI (v11 - 1), sR 26], (mSH r tl, (G8, nk)))))) ?_ rfl
            refine sm_callG (rest := []) (T_X8_put_26 scr d r tl nk G8 (v11 - 1) 0) rfl (Or.inl rfl) rfl rfl rfl rfl (fun _ => rfl) (fun G13 => (116, ([lR 0, lL p1, none, lI x2, g4.1, g9.1, lI x7, lI (v11 - 1)], ([], (mSH r tl, (G13, nk)))))) (fun _ => rfl) fun G13 => ?_
            exact sm_go 2 (hagain10 ((mNar g9.1), lI (v11 - 1)) (x7 + (-1)) G13) rfl
          · refine sm_go 1 (s' := (105, ([lR 0, lL p1, none, lI x2, g4.1, g9.1, lI x7, lI (v11 - 1)], ([sI 0], (mSH r tl, (G8, nk)))))) ?_ rfl
            exact sm_retB1 (b := false) rfl rfl
      · refine sm_go 1 (s' := (63, ([lR 0, lL p1, none, lI x2, g4.1, g4.2, none, none], ([sI 0], (mSH r tl, (G3, nk)))))) ?_ rfl
        exact sm_retB1 (b := false) rfl rfl
  · intro k14 hk14
    refine sm_loop3 (S := fun (g18 : Option mV) (x15 : Int) (x16 : Int) (G17 : mG) => (5, ([lR 0, lL p1, none, lI x15, lL x16, none, none, none], ([], (mSH r tl, (G17, nk)))))) ?_ LF (none) 0 p1 G
    intro again19 hagain19 g18 x15 x16 G17
    refine sm_go 3 (s' := (9, ([lR 0, lL p1, none, lI x15, lL x16, none, none, none], ([sI (lcmpI x16 0)], (mSH r tl, (G17, nk)))))) ?_ rfl
    refine sm_if1n (t := (ilt 0 (lcmpI x16 0))) (pt := 45) rfl rfl rfl (fun _ => ?_) (fun _ => ?_)
    · refine sm_go 2 (s' := (15, ([lR 0, lL p1, none, lI x15, lL x16, none, none, none], ([sI 19, sI x15], (mSH r tl, (G17, nk)))))) ?_ rfl
      refine sm_if2n (t := (ilt x15 19)) (pt := 45) rfl rfl rfl (fun _ => ?_) (fun _ => ?_)
      · refine sm_go 7 (s' := (30, ([lR 0, lL p1, none, lI x15, lL x16, none, none, none], ([sI (lRem x16 10), sI x15, sR 36], (mSH r tl, (G17, nk)))))) ?_ rfl
        refine sm_ast rfl rfl fun G20 => ?_
        exact sm_go 6 (hagain19 (none) (x15 + 1) (lDiv x16 10) G20) rfl
      · exact hk14 (lL x16, none) x15 G17
    · exact hk14 (lL x16, none) x15 G17
def P_X11_tell (p1 : Int) (G : mG) : Option (Int × mG) :=
letK (fun (x2 : Int) =>
letK (fun (G4 : mG) =>
letK (fun (x6 : Int) (G7 : mG) =>
letK (fun (x9 : Int) =>
(P_X11_fits x9 1 1 G7).bind fun z11 =>
bif z11.1 then
(P_X11_keeps z11.2).bind fun G12 =>
(P_X11_startsPlan G12).bind fun G13 =>
(P_X11_clearsOrder G13).bind fun G14 =>
letK (fun (x15 : Int) =>
letK (fun (G17 : mG) =>
(P_X11_takesOrder G17).bind fun z19 =>
some (z19.1, z19.2)) fun k20 =>
loop2 LF (fun again24 (x21 : Int) (G22 : mG) =>
bif (ilt 0 (lcmpI x21 0)) then
bif (ilt 0 (lcmpI p1 0)) then
(ldv p1 x21).bind fun v25 =>
(P_X11_puts ((lRem v25 10) - 1) G22).bind fun G26 =>
(ald G26 60 6 ((lRem v25 10) - 1)).bind fun v27 =>
(ast G26 60 6 ((lRem v25 10) - 1) (v27 + 1)).bind fun G28 =>
again24 (lDiv x21 10) G28
else
k20 G22
else
k20 G22) x15 G14) fun k29 =>
loop1 LF (fun again32 (x30 : Int) =>
bif (ilt 0 (lcmpI x30 (lDiv p1 10))) then
k29 x30
else
again32 (x30 * 10)) 1
else
some (0, z11.2)) fun k33 =>
loop2 LF (fun again37 (x34 : Int) (x35 : Int) =>
(ald G7 57 282 0).bind fun v38 =>
bif (ilt x35 v38) then
letK (fun (x39 : Int) =>
again37 x39 (x35 + 1)) fun k41 =>
letK (k41 0) fun k43 =>
bif (ieq x34 0) then
k43
else
(ald G7 70 6 x35).bind fun v44 =>
(P_X11_of x35 4 G7).bind fun v45 =>
bif (ieq v44 v45) then
k41 1
else
k43
else
k33 x34) x6 0) fun k46 =>
loop3 LF (fun again51 (x47 : Int) (x48 : Int) (G49 : mG) =>
bif (ilt 0 (lcmpI x48 0)) then
bif (ieq x47 0) then
k46 x47 G49
else
(P_X11_isJob ((lRem x48 10) - 1) G49).bind fun v52 =>
letK (fun (G53 : mG) =>
again51 (b2i v52) (lDiv x48 10) G53) fun k55 =>
bif v52 then
(ald G49 70 6 ((lRem x48 10) - 1)).bind fun v56 =>
(ast G49 70 6 ((lRem x48 10) - 1) (v56 + 1)).bind fun G57 =>
k55 G57
else
k55 G49
else
k46 x47 G49) x2 p1 G4) fun k58 =>
loop2 LF (fun again62 (x59 : Int) (G60 : mG) =>
bif (ilt x59 6) then
(ast G60 70 6 x59 0).bind fun G63 =>
again62 (x59 + 1) G63
else
k58 G60) 0 G) fun k64 =>
bif (ilt (lcmpI p1 0) 0) then
k64 0
else
k64 1
set_option maxRecDepth 100000 in
theorem T_X11_tell (scr : mScr) (d : Nat) (r : List (Option Nat)) (tl : List mSh) (nk : Nat × Nat) (G : mG)  (p1 : Int) : SimC scr (d + 7) 175 [sR 56, sL p1] (mSH r tl, (G, nk)) (e1I r tl nk) (P_X11_tell p1 G) := by
  refine sm_callX (cs := mc_X11_tell) (maxL := 7) (rk := 0) (o := 11) (hs := []) (d := d + 6) [lR 56, lL p1, none, none, none, none, none] rfl rfl rfl rfl ?_
  unfold P_X11_tell
  refine sm_letK1 (S := fun (g3 : Unit) (x2 : Int) => (11, ([lR 56, lL p1, none, none, none, none, none], ([sI x2], (mSH r tl, (G, nk)))))) ?_ ?_
  · intro g3 x2
    refine sm_go 3 (s' := (15, ([lR 56, lL p1, none, lI x2, lI 0, none, none], ([], (mSH r tl, (G, nk)))))) ?_ rfl
    refine sm_letK1 (S := fun (g5 : Option mV) (G4 : mG) => (36, ([lR 56, lL p1, none, lI x2, g5, none, none], ([], (mSH r tl, (G4, nk)))))) ?_ ?_
    · intro g5 G4
      refine sm_go 2 (s' := (39, ([lR 56, lL p1, none, lI x2, lL p1, none, none], ([], (mSH r tl, (G4, nk)))))) ?_ rfl
      refine sm_letK2 (S := fun (g8 : Option mV × Option mV × Option mV) (x6 : Int) (G7 : mG) => (94, ([lR 56, lL p1, none, lI x6, g8.1, g8.2.1, g8.2.2], ([], (mSH r tl, (G7, nk)))))) ?_ ?_
      · intro g8 x6 G7
        refine sm_go 2 (s' := (97, ([lR 56, lL p1, none, lI x6, lI 0, g8.2.1, g8.2.2], ([], (mSH r tl, (G7, nk)))))) ?_ rfl
        refine sm_letK1 (S := fun (g10 : Option mV) (x9 : Int) => (141, ([lR 56, lL p1, none, lI x9, g10, g8.2.1, g8.2.2], ([], (mSH r tl, (G7, nk)))))) ?_ ?_
        · intro g10 x9
          refine sm_go 4 (s' := (145, ([lR 56, lL p1, none, lI x9, g10, g8.2.1, g8.2.2], ([sI 1, sI 1, sI x9, sR 56], (mSH r tl, (G7, nk)))))) ?_ rfl
          refine sm_callG (rest := []) (T_X11_fits scr (d + 5) r tl nk G7 x9 1 1) rfl (Or.inl rfl) rfl rfl rfl rfl (fun _ => rfl) (fun z11 => (148, ([lR 56, lL p1, none, lI x9, g10, g8.2.1, g8.2.2], ([sI (b2i z11.1)], (mSH r tl, (z11.2, nk)))))) (fun _ => rfl) fun z11 => ?_
          refine sm_if1 (t := z11.1) (pt := 153) (mCmpB_ne z11.1) rfl rfl (fun _ => ?_) (fun _ => ?_)
          · refine sm_go 1 (s' := (154, ([lR 56, lL p1, none, lI x9, g10, g8.2.1, g8.2.2], ([sR 56], (mSH r tl, (z11.2, nk)))))) ?_ rfl
            refine sm_callG (rest := []) (T_X11_keeps scr (d + 5) r tl nk z11.2) rfl (Or.inl rfl) rfl rfl rfl rfl (fun _ => rfl) (fun G12 => (157, ([lR 56, lL p1, none, lI x9, g10, g8.2.1, g8.2.2], ([], (mSH r tl, (G12, nk)))))) (fun _ => rfl) fun G12 => ?_
            refine sm_go 1 (s' := (158, ([lR 56, lL p1, none, lI x9, g10, g8.2.1, g8.2.2], ([sR 56], (mSH r tl, (G12, nk)))))) ?_ rfl
            refine sm_callG (rest := []) (T_X11_startsPlan scr (d + 4) r tl nk G12) rfl (Or.inl rfl) rfl rfl rfl rfl (fun _ => rfl) (fun G13 => (161, ([lR 56, lL p1, none, lI x9, g10, g8.2.1, g8.2.2], ([], (mSH r tl, (G13, nk)))))) (fun _ => rfl) fun G13 => ?_
            refine sm_go 1 (s' := (162, ([lR 56, lL p1, none, lI x9, g10, g8.2.1, g8.2.2], ([sR 56], (mSH r tl, (G13, nk)))))) ?_ rfl
            refine sm_callG (rest := []) (T_X11_clearsOrder scr (d + 5) r tl nk G13) rfl (Or.inl rfl) rfl rfl rfl rfl (fun _ => rfl) (fun G14 => (165, ([lR 56, lL p1, none, lI x9, g10, g8.2.1, g8.2.2], ([], (mSH r tl, (G14, nk)))))) (fun _ => rfl) fun G14 => ?_
            refine sm_go 2 (s' := (168, ([lR 56, lL p1, none, lI x9, lL 1, none, g8.2.2], ([], (mSH r tl, (G14, nk)))))) ?_ rfl
            refine sm_letK1 (S := fun (g16 : Option mV) (x15 : Int) => (190, ([lR 56, lL p1, none, lI x9, lL x15, none, g8.2.2], ([], (mSH r tl, (G14, nk)))))) ?_ ?_
            · intro g16 x15
              refine sm_letK1 (S := fun (g18 : Option mV × Option mV × Option mV) (G17 : mG) => (244, ([lR 56, lL p1, none, lI x9, g18.1, g18.2.1, g18.2.2], ([], (mSH r tl, (G17, nk)))))) ?_ ?_
              · intro g18 G17
                refine sm_go 1 (s' := (245, ([lR 56, lL p1, none, lI x9, g18.1, g18.2.1, g18.2.2], ([sR 56], (mSH r tl, (G17, nk)))))) ?_ rfl
                refine sm_callG (rest := []) (T_X11_takesOrder scr d r tl nk G17) rfl (Or.inl rfl) rfl rfl rfl rfl (fun _ => rfl) (fun z19 => (248, ([lR 56, lL p1, none, lI x9, g18.1, g18.2.1, g18.2.2], ([sI z19.1], (mSH r tl, (z19.2, nk)))))) (fun _ => rfl) fun z19 => ?_
                exact sm_retI rfl rfl rfl
              · intro k20 hk20
                refine sm_loop2 (S := fun (g23 : Option mV × Option mV) (x21 : Int) (G22 : mG) => (190, ([lR 56, lL p1, none, lI x9, lL x21, none, g23.2], ([], (mSH r tl, (G22, nk)))))) ?_ LF (none, g8.2.2) x15 G14
                intro again24 hagain24 g23 x21 G22
                refine sm_go 3 (s' := (194, ([lR 56, lL p1, none, lI x9, lL x21, none, g23.2], ([sI (lcmpI x21 0)], (mSH r tl, (G22, nk)))))) ?_ rfl
                refine sm_if1n (t := (ilt 0 (lcmpI x21 0))) (pt := 244) rfl rfl rfl (fun _ => ?_) (fun _ => ?_)
                · refine sm_go 3 (s' := (200, ([lR 56, lL p1, none, lI x9, lL x21, none, g23.2], ([sI (lcmpI p1 0)], (mSH r tl, (G22, nk)))))) ?_ rfl
                  refine sm_if1n (t := (ilt 0 (lcmpI p1 0))) (pt := 244) rfl rfl rfl (fun _ => ?_) (fun _ => ?_)
                  · refine sm_go 2 (s' := (206, ([lR 56, lL p1, none, lI x9, lL x21, none, g23.2], ([sL x21, sL p1], (mSH r tl, (G22, nk)))))) ?_ rfl
                    refine sm_ldv rfl fun v25 => ?_
                    refine sm_go 8 (s' := (219, ([lR 56, lL p1, none, lI x9, lL x21, none, lI ((lRem v25 10) - 1)], ([sI ((lRem v25 10) - 1), sR 56], (mSH r tl, (G22, nk)))))) ?_ rfl
                    refine sm_callG (rest := []) (T_X11_puts scr (d + 3) r tl nk G22 ((lRem v25 10) - 1)) rfl (Or.inl rfl) rfl rfl rfl rfl (fun _ => rfl) (fun G26 => (222, ([lR 56, lL p1, none, lI x9, lL x21, none, lI ((lRem v25 10) - 1)], ([], (mSH r tl, (G26, nk)))))) (fun _ => rfl) fun G26 => ?_
                    refine sm_go 4 (s' := (229, ([lR 56, lL p1, none, lI x9, lL x21, none, lI ((lRem v25 10) - 1)], ([sI ((lRem v25 10) - 1), sR 60, sI ((lRem v25 10) - 1), sR 60], (mSH r tl, (G26, nk)))))) ?_ rfl
                    refine sm_ald rfl rfl fun v27 => ?_
                    refine sm_go 2 (s' := (232, ([lR 56, lL p1, none, lI x9, lL x21, none, lI ((lRem v25 10) - 1)], ([sI (v27 + 1), sI ((lRem v25 10) - 1), sR 60], (mSH r tl, (G26, nk)))))) ?_ rfl
                    refine sm_ast rfl rfl fun G28 => ?_
                    exact sm_go 5 (hagain24 (none, lI ((lRem v25 10) - 1)) (lDiv x21 10) G28) rfl
                  · exact hk20 (lL x21, none, g23.2) G22
                · exact hk20 (lL x21, none, g23.2) G22
            · intro k29 hk29
              refine sm_loop1 (S := fun (g31 : Option mV) (x30 : Int) => (168, ([lR 56, lL p1, none, lI x9, lL x30, none, g8.2.2], ([], (mSH r tl, (G14, nk)))))) ?_ LF (none) 1
              intro again32 hagain32 g31 x30
              refine sm_go 5 (s' := (176, ([lR 56, lL p1, none, lI x9, lL x30, none, g8.2.2], ([sI (lcmpI x30 (lDiv p1 10))], (mSH r tl, (G14, nk)))))) ?_ rfl
              refine sm_if1 (t := (ilt 0 (lcmpI x30 (lDiv p1 10)))) (pt := 190) rfl rfl rfl (fun _ => ?_) (fun _ => ?_)
              · exact hk29 (none) x30
              · exact sm_go 5 (hagain32 (none) (x30 * 10)) rfl
          · refine sm_go 1 (s' := (152, ([lR 56, lL p1, none, lI x9, g10, g8.2.1, g8.2.2], ([sI 0], (mSH r tl, (z11.2, nk)))))) ?_ rfl
            exact sm_retI rfl rfl rfl
        · intro k33 hk33
          refine sm_loop2 (S := fun (g36 : Unit) (x34 : Int) (x35 : Int) => (97, ([lR 56, lL p1, none, lI x34, lI x35, g8.2.1, g8.2.2], ([], (mSH r tl, (G7, nk)))))) ?_ LF () x6 0
          intro again37 hagain37 g36 x34 x35
          refine sm_go 4 (s' := (104, ([lR 56, lL p1, none, lI x34, lI x35, g8.2.1, g8.2.2], ([sI 0, sR 57, sI x35], (mSH r tl, (G7, nk)))))) ?_ rfl
          refine sm_ald rfl rfl fun v38 => ?_
          refine sm_if2n (t := (ilt x35 v38)) (pt := 141) rfl rfl rfl (fun _ => ?_) (fun _ => ?_)
          · refine sm_letK1 (S := fun (g40 : Unit) (x39 : Int) => (134, ([lR 56, lL p1, none, lI x34, lI x35, g8.2.1, g8.2.2], ([sI x39], (mSH r tl, (G7, nk)))))) ?_ ?_
            · intro g40 x39
              exact sm_go 3 (hagain37 () x39 (x35 + 1)) rfl
            · intro k41 hk41
              refine sm_letK0 (S := fun (g42 : Unit) => (133, ([lR 56, lL p1, none, lI x34, lI x35, g8.2.1, g8.2.2], ([], (mSH r tl, (G7, nk)))))) ?_ ?_
              · intro g42
                exact sm_go 1 (hk41 () 0) rfl
              · intro k43 hk43
                refine sm_go 1 (s' := (109, ([lR 56, lL p1, none, lI x34, lI x35, g8.2.1, g8.2.2], ([sI x34], (mSH r tl, (G7, nk)))))) ?_ rfl
                refine sm_if1 (t := (ieq x34 0)) (pt := 133) rfl rfl rfl (fun _ => ?_) (fun _ => ?_)
                · exact hk43 ()
                · refine sm_go 3 (s' := (118, ([lR 56, lL p1, none, lI x34, lI x35, g8.2.1, g8.2.2], ([sI x35, sR 70], (mSH r tl, (G7, nk)))))) ?_ rfl
                  refine sm_ald rfl rfl fun v44 => ?_
                  refine sm_go 3 (s' := (123, ([lR 56, lL p1, none, lI x34, lI x35, g8.2.1, g8.2.2], ([sI 4, sI x35, sR 56, sI v44], (mSH r tl, (G7, nk)))))) ?_ rfl
                  refine sm_callG (rest := [sI v44]) (T_X11_of scr (d + 5) r tl nk G7 x35 4) rfl (Or.inl rfl) rfl rfl rfl rfl (fun _ => rfl) (fun v45 => (126, ([lR 56, lL p1, none, lI x34, lI x35, g8.2.1, g8.2.2], ([sI v45, sI v44], (mSH r tl, (G7, nk)))))) (fun _ => rfl) fun v45 => ?_
                  refine sm_if2n (t := (ieq v44 v45)) (pt := 133) rfl rfl rfl (fun _ => ?_) (fun _ => ?_)
                  · exact sm_go 2 (hk41 () 1) rfl
                  · exact hk43 ()
          · exact hk33 (lI x35) x34
      · intro k46 hk46
        refine sm_loop3 (S := fun (g50 : Option mV × Option mV) (x47 : Int) (x48 : Int) (G49 : mG) => (39, ([lR 56, lL p1, none, lI x47, lL x48, none, g50.2], ([], (mSH r tl, (G49, nk)))))) ?_ LF (none, none) x2 p1 G4
        intro again51 hagain51 g50 x47 x48 G49
        refine sm_go 3 (s' := (43, ([lR 56, lL p1, none, lI x47, lL x48, none, g50.2], ([sI (lcmpI x48 0)], (mSH r tl, (G49, nk)))))) ?_ rfl
        refine sm_if1n (t := (ilt 0 (lcmpI x48 0))) (pt := 94) rfl rfl rfl (fun _ => ?_) (fun _ => ?_)
        · refine sm_go 1 (s' := (47, ([lR 56, lL p1, none, lI x47, lL x48, none, g50.2], ([sI x47], (mSH r tl, (G49, nk)))))) ?_ rfl
          refine sm_if1 (t := (ieq x47 0)) (pt := 94) rfl rfl rfl (fun _ => ?_) (fun _ => ?_)
          · exact hk46 (lL x48, none, g50.2) x47 G49
          · refine sm_go 9 (s' := (64, ([lR 56, lL p1, none, lI x47, lL x48, none, lI ((lRem x48 10) - 1)], ([sI ((lRem x48 10) - 1), sR 56], (mSH r tl, (G49, nk)))))) ?_ rfl
            refine sm_callG (rest := []) (T_X11_isJob scr (d + 4) r tl nk G49 ((lRem x48 10) - 1)) rfl (Or.inl rfl) rfl rfl rfl rfl (fun _ => rfl) (fun v52 => (67, ([lR 56, lL p1, none, lI x47, lL x48, none, lI ((lRem x48 10) - 1)], ([sI (b2i v52)], (mSH r tl, (G49, nk)))))) (fun _ => rfl) fun v52 => ?_
            refine sm_letK1 (S := fun (g54 : Unit) (G53 : mG) => (83, ([lR 56, lL p1, none, lI (b2i v52), lL x48, none, lI ((lRem x48 10) - 1)], ([], (mSH r tl, (G53, nk)))))) ?_ ?_
            · intro g54 G53
              exact sm_go 5 (hagain51 (none, lI ((lRem x48 10) - 1)) (b2i v52) (lDiv x48 10) G53) rfl
            · intro k55 hk55
              refine sm_go 2 (s' := (69, ([lR 56, lL p1, none, lI (b2i v52), lL x48, none, lI ((lRem x48 10) - 1)], ([sI (b2i v52)], (mSH r tl, (G49, nk)))))) ?_ rfl
              refine sm_if1n (t := v52) (pt := 83) (mCmpB_eq v52) rfl rfl (fun _ => ?_) (fun _ => ?_)
              · refine sm_go 4 (s' := (79, ([lR 56, lL p1, none, lI (b2i v52), lL x48, none, lI ((lRem x48 10) - 1)], ([sI ((lRem x48 10) - 1), sR 70, sI ((lRem x48 10) - 1), sR 70], (mSH r tl, (G49, nk)))))) ?_ rfl
                refine sm_ald rfl rfl fun v56 => ?_
                refine sm_go 2 (s' := (82, ([lR 56, lL p1, none, lI (b2i v52), lL x48, none, lI ((lRem x48 10) - 1)], ([sI (v56 + 1), sI ((lRem x48 10) - 1), sR 70], (mSH r tl, (G49, nk)))))) ?_ rfl
                refine sm_ast rfl rfl fun G57 => ?_
                exact hk55 () G57
              · exact hk55 () G49
        · exact hk46 (lL x48, none, g50.2) x47 G49
    · intro k58 hk58
      refine sm_loop2 (S := fun (g61 : Unit) (x59 : Int) (G60 : mG) => (15, ([lR 56, lL p1, none, lI x2, lI x59, none, none], ([], (mSH r tl, (G60, nk)))))) ?_ LF () 0 G
      intro again62 hagain62 g61 x59 G60
      refine sm_go 2 (s' := (19, ([lR 56, lL p1, none, lI x2, lI x59, none, none], ([sI 6, sI x59], (mSH r tl, (G60, nk)))))) ?_ rfl
      refine sm_if2n (t := (ilt x59 6)) (pt := 36) rfl rfl rfl (fun _ => ?_) (fun _ => ?_)
      · refine sm_go 4 (s' := (29, ([lR 56, lL p1, none, lI x2, lI x59, none, none], ([sI 0, sI x59, sR 70], (mSH r tl, (G60, nk)))))) ?_ rfl
        refine sm_ast rfl rfl fun G63 => ?_
        exact sm_go 2 (hagain62 () (x59 + 1) G63) rfl
      · exact hk58 (lI x59) G60
  · intro k64 hk64
    refine sm_go 3 (s' := (3, ([lR 56, lL p1, none, none, none, none, none], ([sI (lcmpI p1 0)], (mSH r tl, (G, nk)))))) ?_ rfl
    refine sm_if1 (t := (ilt (lcmpI p1 0) 0)) (pt := 10) rfl rfl rfl (fun _ => ?_) (fun _ => ?_)
    · exact sm_go 1 (hk64 () 0) rfl
    · exact sm_go 2 (hk64 () 1) rfl
noncomputable def P_X10_needAim (p1 : Int) (W : mW) : Option ((Unit ⊕ Nat) × mW) :=
thrB (P_X10_needRange p1 0 4 W) fun v2 W3 =>
some (.inl (), W3)
set_option maxRecDepth 100000 in
theorem T_X10_needAim (scr : mScr) (d : Nat) (W : mW)  (p1 : Int) : SimC scr (d + 2) 126 [sI p1] (mkM W) (e2U) (P_X10_needAim p1 W) := by
  refine sm_callX (cs := mc_X10_needAim) (maxL := 1) (rk := 0) (o := 110) (hs := []) (d := d + 1) [lI p1] rfl rfl rfl rfl ?_
  unfold P_X10_needAim
  refine sm_go 3 (s' := (3, ([lI p1], ([sI 4, sI 0, sI p1], (mSH W.1 W.2.1, (W.2.2.1, W.2.2.2)))))) ?_ rfl
  refine sm_thr (rest := []) (T_X10_needRange scr d W p1 0 4) rfl (Or.inr (Or.inl rfl)) rfl rfl rfl rfl (fun _ _ => rfl) (fun _ _ => rfl) (fun v2 W3 => (6, ([lI p1], ([], (mSH W3.1 W3.2.1, (W3.2.2.1, W3.2.2.2)))))) (fun _ _ => rfl) fun v2 W3 => ?_
  exact sm_retU rfl rfl
set_option maxRecDepth 100000 in
theorem T_X11_worksOut_66 (scr : mScr) (d : Nat) (r : List (Option Nat)) (tl : List mSh) (nk : Nat × Nat) (G : mG)  (p1 : Int) (p2 : Int) (p3 : Int) : SimC scr (d + 4) 157 [sR 56, sR 66, sI p1, sI p2, sI p3] (mSH r tl, (G, nk)) (e1B r tl nk) (P_X11_worksOut 66 124 p1 p2 p3 G) := by
  refine sm_callX (cs := mc_X11_worksOut) (maxL := 11) (rk := 1) (o := 11) (hs := []) (d := d + 3) [lR 56, lR 66, lI p1, lI p2, lI p3, none, none, none, none, none, none] rfl rfl rfl rfl ?_
  unfold P_X11_worksOut
  refine sm_go 1 (s' := (1, ([lR 56, lR 66, lI p1, lI p2, lI p3, none, none, none, none, none, none], ([sR 56], (mSH r tl, (G, nk)))))) ?_ rfl
  refine sm_callG (rest := []) (T_X11_startsPlan scr (d + 1) r tl nk G) rfl (Or.inl rfl) rfl rfl rfl rfl (fun _ => rfl) (fun G4 => (4, ([lR 56, lR 66, lI p1, lI p2, lI p3, none, none, none, none, none, none], ([], (mSH r tl, (G4, nk)))))) (fun _ => rfl) fun G4 => ?_
  refine sm_go 4 (s' := (10, ([lR 56, lR 66, lI p1, lI p2, lI p3, lI 1, lI 0, none, none, none, none], ([], (mSH r tl, (G4, nk)))))) ?_ rfl
  refine sm_letK2 (S := fun (g7 : Option mV × Option mV × Option mV × Option mV × Option mV) (x5 : Int) (G6 : mG) => (161, ([lR 56, lR 66, lI p1, lI p2, lI p3, g7.1, lI x5, g7.2.1, g7.2.2.1, g7.2.2.2.1, g7.2.2.2.2], ([], (mSH r tl, (G6, nk)))))) ?_ ?_
  · intro g7 x5 G6
    refine sm_go 2 (s' := (164, ([lR 56, lR 66, lI p1, lI p2, lI p3, g7.1, lI x5, g7.2.1, g7.2.2.1, g7.2.2.2.1, g7.2.2.2.2], ([sR 56, sI x5], (mSH r tl, (G6, nk)))))) ?_ rfl
    refine sm_callG (rest := [sI x5]) (T_X11_allSteps scr (d + 1) r tl nk G6) rfl (Or.inl rfl) rfl rfl rfl rfl (fun _ => rfl) (fun v8 => (167, ([lR 56, lR 66, lI p1, lI p2, lI p3, g7.1, lI x5, g7.2.1, g7.2.2.1, g7.2.2.2.1, g7.2.2.2.2], ([sI v8, sI x5], (mSH r tl, (G6, nk)))))) (fun _ => rfl) fun v8 => ?_
    refine sm_if2n (t := (ieq x5 v8)) (pt := 174) rfl rfl rfl (fun _ => ?_) (fun _ => ?_)
    · refine sm_go 2 (s' := (175, ([lR 56, lR 66, lI p1, lI p2, lI p3, g7.1, lI x5, g7.2.1, g7.2.2.1, g7.2.2.2.1, g7.2.2.2.2], ([sI 1], (mSH r tl, (G6, nk)))))) ?_ rfl
      exact sm_retB1 (b := true) rfl rfl
    · refine sm_go 1 (s' := (175, ([lR 56, lR 66, lI p1, lI p2, lI p3, g7.1, lI x5, g7.2.1, g7.2.2.1, g7.2.2.2.1, g7.2.2.2.2], ([sI 0], (mSH r tl, (G6, nk)))))) ?_ rfl
      exact sm_retB1 (b := false) rfl rfl
  · intro k9 hk9
    refine sm_loop3 (S := fun (g13 : Option mV × Option mV × Option mV × Option mV) (x10 : Int) (x11 : Int) (G12 : mG) => (10, ([lR 56, lR 66, lI p1, lI p2, lI p3, lI x10, lI x11, g13.1, g13.2.1, g13.2.2.1, g13.2.2.2], ([], (mSH r tl, (G12, nk)))))) ?_ LF (none, none, none, none) 1 0 G4
    intro again14 hagain14 g13 x10 x11 G12
    refine sm_go 1 (s' := (12, ([lR 56, lR 66, lI p1, lI p2, lI p3, lI x10, lI x11, g13.1, g13.2.1, g13.2.2.1, g13.2.2.2], ([sI x10], (mSH r tl, (G12, nk)))))) ?_ rfl
    refine sm_if1 (t := (ieq x10 0)) (pt := 161) rfl rfl rfl (fun _ => ?_) (fun _ => ?_)
    · exact hk9 (lI x10, g13.1, g13.2.1, g13.2.2.1, g13.2.2.2) x11 G12
    · refine sm_go 4 (s' := (21, ([lR 56, lR 66, lI p1, lI p2, lI p3, lI 0, lI x11, lI 0, g13.2.1, g13.2.2.1, g13.2.2.2], ([], (mSH r tl, (G12, nk)))))) ?_ rfl
      refine sm_letK3 (S := fun (g18 : Option mV × Option mV × Option mV × Option mV) (x15 : Int) (x16 : Int) (G17 : mG) => (158, ([lR 56, lR 66, lI p1, lI p2, lI p3, lI x15, lI x16, g18.1, g18.2.1, g18.2.2.1, g18.2.2.2], ([], (mSH r tl, (G17, nk)))))) ?_ ?_
      · intro g18 x15 x16 G17
        exact sm_go 1 (hagain14 (g18.1, g18.2.1, g18.2.2.1, g18.2.2.2) x15 x16 G17) rfl
      · intro k19 hk19
        refine sm_loop4 (S := fun (g24 : Option mV × Option mV × Option mV) (x20 : Int) (x21 : Int) (x22 : Int) (G23 : mG) => (21, ([lR 56, lR 66, lI p1, lI p2, lI p3, lI x20, lI x21, lI x22, g24.1, g24.2.1, g24.2.2], ([], (mSH r tl, (G23, nk)))))) ?_ LF (g13.2.1, g13.2.2.1, g13.2.2.2) 0 x11 0 G12
        intro again25 hagain25 g24 x20 x21 x22 G23
        refine sm_go 2 (s' := (24, ([lR 56, lR 66, lI p1, lI p2, lI p3, lI x20, lI x21, lI x22, g24.1, g24.2.1, g24.2.2], ([sI 4, sI x22], (mSH r tl, (G23, nk)))))) ?_ rfl
        refine sm_if2n (t := (ilt x22 4)) (pt := 158) rfl rfl rfl (fun _ => ?_) (fun _ => ?_)
        · refine sm_go 9 (s' := (42, ([lR 56, lR 66, lI p1, lI p2, lI p3, lI x20, lI x21, lI x22, lI (p1 + (x22 * 31)), g24.2.1, g24.2.2], ([sI x22, sR 65], (mSH r tl, (G23, nk)))))) ?_ rfl
          refine sm_ald rfl rfl fun v26 => ?_
          refine sm_go 2 (s' := (46, ([lR 56, lR 66, lI p1, lI p2, lI p3, lI x20, lI x21, lI x22, lI (p1 + (x22 * 31)), g24.2.1, g24.2.2], ([sI (p1 + (x22 * 31)), sR 66, sI v26], (mSH r tl, (G23, nk)))))) ?_ rfl
          refine sm_ald rfl rfl fun v27 => ?_
          refine sm_letK3 (S := fun (g31 : Option mV × Option mV) (x28 : Int) (x29 : Int) (G30 : mG) => (152, ([lR 56, lR 66, lI p1, lI p2, lI p3, lI x28, lI x29, lI x22, lI (p1 + (x22 * 31)), g31.1, g31.2], ([], (mSH r tl, (G30, nk)))))) ?_ ?_
          · intro g31 x28 x29 G30
            exact sm_go 2 (hagain25 (lI (p1 + (x22 * 31)), g31.1, g31.2) x28 x29 (x22 + 1) G30) rfl
          · intro k32 hk32
            refine sm_if2n (t := (ieq v26 v27)) (pt := 53) rfl rfl rfl (fun _ => ?_) (fun _ => ?_)
            · exact sm_go 1 (hk32 (g24.2.1, g24.2.2) x20 x21 G23) rfl
            · refine sm_go 7 (s' := (64, ([lR 56, lR 66, lI p1, lI p2, lI p3, lI x20, lI x21, lI x22, lI (p1 + (x22 * 31)), g24.2.1, g24.2.2], ([sI x22, sR 65, sI ((p1 + (x22 * 31)) + 1), sR 66], (mSH r tl, (G23, nk)))))) ?_ rfl
              refine sm_ald rfl rfl fun v33 => ?_
              refine sm_go 1 (s' := (66, ([lR 56, lR 66, lI p1, lI p2, lI p3, lI x20, lI x21, lI x22, lI (p1 + (x22 * 31)), g24.2.1, g24.2.2], ([sI (((p1 + (x22 * 31)) + 1) + v33), sR 66], (mSH r tl, (G23, nk)))))) ?_ rfl
              refine sm_ald rfl rfl fun v34 => ?_
              refine sm_go 6 (s' := (78, ([lR 56, lR 66, lI p1, lI p2, lI p3, lI x20, lI x21, lI x22, lI (p1 + (x22 * 31)), lI v34, g24.2.2], ([sI (iDiv v34 10), sR 60], (mSH r tl, (G23, nk)))))) ?_ rfl
              refine sm_ald rfl rfl fun v35 => ?_
              refine sm_go 3 (s' := (84, ([lR 56, lR 66, lI p1, lI p2, lI p3, lI x20, lI x21, lI x22, lI (p1 + (x22 * 31)), lI v34, g24.2.2], ([sI (iRem v34 10), sI v35], (mSH r tl, (G23, nk)))))) ?_ rfl
              refine sm_if2 (t := (ieq v35 (iRem v34 10))) (pt := 90) rfl rfl rfl (fun _ => ?_) (fun _ => ?_)
              · refine sm_go 4 (s' := (96, ([lR 56, lR 66, lI p1, lI p2, lI p3, lI x20, lI x21, lI x22, lI (p1 + (x22 * 31)), lI v34, g24.2.2], ([sI (iDiv v34 10), sR 56], (mSH r tl, (G23, nk)))))) ?_ rfl
                refine sm_callG (rest := []) (T_X11_beginOf scr d r tl nk G23 (iDiv v34 10)) rfl (Or.inl rfl) rfl rfl rfl rfl (fun _ => rfl) (fun v36 => (99, ([lR 56, lR 66, lI p1, lI p2, lI p3, lI x20, lI x21, lI x22, lI (p1 + (x22 * 31)), lI v34, g24.2.2], ([sI v36], (mSH r tl, (G23, nk)))))) (fun _ => rfl) fun v36 => ?_
                refine sm_letK1 (S := fun (g38 : Unit) (x37 : Int) => (143, ([lR 56, lR 66, lI p1, lI p2, lI p3, lI x20, lI x21, lI x22, lI (p1 + (x22 * 31)), lI v34, lI v36], ([sI x37, sI (iDiv v34 10), sR 56], (mSH r tl, (G23, nk)))))) ?_ ?_
                · intro g38 x37
                  refine sm_callG (rest := []) (T_X11_does scr d r tl nk G23 (iDiv v34 10) x37) rfl (Or.inl rfl) rfl rfl rfl rfl (fun _ => rfl) (fun G39 => (146, ([lR 56, lR 66, lI p1, lI p2, lI p3, lI x20, lI x21, lI x22, lI (p1 + (x22 * 31)), lI v34, lI v36], ([], (mSH r tl, (G39, nk)))))) (fun _ => rfl) fun G39 => ?_
                  exact sm_go 3 (hk32 (lI v34, lI v36) 1 (x21 + 1) G39) rfl
                · intro k40 hk40
                  refine sm_go 7 (s' := (110, ([lR 56, lR 66, lI p1, lI p2, lI p3, lI x20, lI x21, lI x22, lI (p1 + (x22 * 31)), lI v34, lI v36], ([sI p2, sI v34, sI (iDiv v34 10), sR 56], (mSH r tl, (G23, nk)))))) ?_ rfl
                  refine sm_if2n (t := (ieq v34 p2)) (pt := 141) rfl rfl rfl (fun _ => ?_) (fun _ => ?_)
                  · refine sm_go 12 (s' := (132, ([lR 56, lR 66, lI p1, lI p2, lI p3, lI x20, lI x21, lI x22, lI (p1 + (x22 * 31)), lI v34, lI v36], ([sI (iRem v34 10), sI (iDiv v34 10), sR 56, sI (v36 + p3), sI x22, sR 56, sI (iDiv v34 10), sR 56], (mSH r tl, (G23, nk)))))) ?_ rfl
                    refine sm_callG (rest := [sI (v36 + p3), sI x22, sR 56, sI (iDiv v34 10), sR 56]) (T_X11_hoursOf scr (d + 1) r tl nk G23 (iDiv v34 10) (iRem v34 10)) rfl (Or.inl rfl) rfl rfl rfl rfl (fun _ => rfl) (fun v41 => (135, ([lR 56, lR 66, lI p1, lI p2, lI p3, lI x20, lI x21, lI x22, lI (p1 + (x22 * 31)), lI v34, lI v36], ([sI v41, sI (v36 + p3), sI x22, sR 56, sI (iDiv v34 10), sR 56], (mSH r tl, (G23, nk)))))) (fun _ => rfl) fun v41 => ?_
                    refine sm_callG (rest := [sI (iDiv v34 10), sR 56]) (T_X11_open scr (d + 2) r tl nk G23 x22 (v36 + p3) v41) rfl (Or.inl rfl) rfl rfl rfl rfl (fun _ => rfl) (fun v42 => (138, ([lR 56, lR 66, lI p1, lI p2, lI p3, lI x20, lI x21, lI x22, lI (p1 + (x22 * 31)), lI v34, lI v36], ([sI v42, sI (iDiv v34 10), sR 56], (mSH r tl, (G23, nk)))))) (fun _ => rfl) fun v42 => ?_
                    exact sm_go 1 (hk40 () v42) rfl
                  · exact sm_go 1 (hk40 () v36) rfl
              · exact sm_go 1 (hk32 (lI v34, g24.2.2) x20 x21 G23) rfl
        · exact hk19 (lI x22, g24.1, g24.2.1, g24.2.2) x20 x21 G23
