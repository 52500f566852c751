/-! ===== programs as functions, 25 5: printed by wip/whole/gen/gen_p_out.py ===== -/
def P_X8_takeBack (t : Nat) (G : mG) : Option (mG) :=
bif (ilt 0 (G t 1)) then
(pst G t 1 ((G t 1) - 1)).bind fun G1 =>
(ald G1 (t+1) 30 (G1 t 1)).bind fun v2 =>
(ald G1 (t+2) 6 v2).bind fun v3 =>
(ast G1 (t+2) 6 v2 (v3 - 1)).bind fun G4 =>
(P_X8_nextStep t v2 G4).bind fun v5 =>
(ald G4 7 30 v5).bind fun v6 =>
(ald G4 (t+3) 4 v6).bind fun v7 =>
(ast G4 (t+3) 4 v6 (v7 - 1)).bind fun G8 =>
some G8
else
some G
set_option maxRecDepth 100000 in
theorem T_X8_takeBack_26 (scr : mScr) (d : Nat) (r : List (Option Nat)) (tl : List mSh) (nk : Nat × Nat) (G : mG)  : SimC scr (d + 2) 57 [sR 26] (mSH r tl, (G, nk)) (e1U r tl nk) (P_X8_takeBack 26 G) := by
  refine sm_callX (cs := mc_X8_takeBack) (maxL := 2) (rk := 0) (o := 8) (hs := []) (d := d + 1) [lR 26, none] rfl rfl rfl rfl ?_
  unfold P_X8_takeBack
  refine sm_go 2 (s' := (4, ([lR 26, none], ([sI (G 26 1)], (mSH r tl, (G, nk)))))) ?_ rfl
  refine sm_if1n (t := (ilt 0 (G 26 1))) (pt := 59) rfl rfl rfl (fun _ => ?_) (fun _ => ?_)
  · refine sm_go 5 (s' := (14, ([lR 26, none], ([sI ((G 26 1) - 1), sR 26], (mSH r tl, (G, nk)))))) ?_ rfl
    refine sm_pst rfl rfl rfl fun G1 => ?_
    refine sm_go 4 (s' := (25, ([lR 26, none], ([sI (G1 26 1), sR 27], (mSH r tl, (G1, nk)))))) ?_ rfl
    refine sm_ald rfl rfl fun v2 => ?_
    refine sm_go 5 (s' := (33, ([lR 26, lI v2], ([sI v2, sR 28, sI v2, sR 28], (mSH r tl, (G1, nk)))))) ?_ rfl
    refine sm_ald rfl rfl fun v3 => ?_
    refine sm_go 2 (s' := (36, ([lR 26, lI v2], ([sI (v3 - 1), sI v2, sR 28], (mSH r tl, (G1, nk)))))) ?_ rfl
    refine sm_ast rfl rfl fun G4 => ?_
    refine sm_go 7 (s' := (50, ([lR 26, lI v2], ([sI v2, sR 26, sR 7, sR 29], (mSH r tl, (G4, nk)))))) ?_ rfl
    refine sm_callG (rest := [sR 7, sR 29]) (T_X8_nextStep_26 scr d r tl nk G4 v2) rfl (Or.inl rfl) rfl rfl rfl rfl (fun _ => rfl) (fun v5 => (53, ([lR 26, lI v2], ([sI v5, sR 7, sR 29], (mSH r tl, (G4, nk)))))) (fun _ => rfl) fun v5 => ?_
    refine sm_ald rfl rfl fun v6 => ?_
    refine sm_go 1 (s' := (55, ([lR 26, lI v2], ([sI v6, sR 29, sI v6, sR 29], (mSH r tl, (G4, nk)))))) ?_ rfl
    refine sm_ald rfl rfl fun v7 => ?_
    refine sm_go 2 (s' := (58, ([lR 26, lI v2], ([sI (v7 - 1), sI v6, sR 29], (mSH r tl, (G4, nk)))))) ?_ rfl
    refine sm_ast rfl rfl fun G8 => ?_
    exact sm_retU rfl rfl
  · exact sm_retU rfl rfl
def P_X0_explore : Nat → Int → Int → mG → Option (mG)
  | 0, _, _, _ => none
  | N + 1, p1, p2, G =>
    (P_X8_aimed 26 p1 G).bind fun v3 =>
    letK (bif (ilt p2 (G 38 3)) then
    loop2 LF (fun again8 (x5 : Int) (G6 : mG) =>
    bif (ilt x5 (G6 1 0)) then
    (P_X8_hasLeft 26 x5 G6).bind fun v9 =>
    letK (fun (G10 : mG) =>
    again8 (x5 + 1) G10) fun k12 =>
    bif v9 then
    (P_X8_put 26 x5 0 G6).bind fun G13 =>
    (P_X0_explore N p1 (p2 + 1) G13).bind fun G14 =>
    (P_X8_takeBack 26 G14).bind fun G15 =>
    k12 G15
    else
    k12 G6
    else
    some G6) 0 G
    else
    (pstZ G 38 5 1).bind fun G16 =>
    (pst G16 38 4 v3).bind fun G17 =>
    (acp G17 27 30 0 39 8 0 (G17 38 3)).bind fun G18 =>
    some G18) fun k19 =>
    bif (ieq (G 38 5) 0) then
    k19
    else
    bif (ilt v3 (G 38 4)) then
    k19
    else
    some G
set_option maxRecDepth 100000 in
theorem T_X0_explore (scr : mScr) (d : Nat) (N : Nat) (r : List (Option Nat)) (tl : List mSh) (nk : Nat × Nat) (G : mG)  (p1 : Int) (p2 : Int) : SimC scr (d + N + 5) 2 [sR 38, sI p1, sI p2] (mSH r tl, (G, nk)) (e1U r tl nk) (P_X0_explore N p1 p2 G) := by
  induction N generalizing G p1 p2 with
  | zero => exact fun _ h => nomatch h
  | succ N ih =>
    refine sm_callX (cs := mc_X0_explore) (maxL := 5) (rk := 0) (o := 0) (hs := []) (d := d + N + 5) [lR 38, lI p1, lI p2, none, none] rfl rfl rfl rfl ?_
    show Sim _ _ _ _ _ _ _ (P_X0_explore (N + 1) p1 p2 G)
    unfold P_X0_explore
    refine sm_go 3 (s' := (5, ([lR 38, lI p1, lI p2, none, none], ([sI p1, sR 26], (mSH r tl, (G, nk)))))) ?_ rfl
    refine sm_callG (rest := []) (T_X8_aimed_26 scr ((d + N) + 1) r tl nk G p1) rfl (Or.inl rfl) rfl rfl rfl rfl (fun _ => rfl) (fun v3 => (8, ([lR 38, lI p1, lI p2, none, none], ([sI v3], (mSH r tl, (G, nk)))))) (fun _ => rfl) fun v3 => ?_
    refine sm_letK0 (S := fun (g4 : Unit) => (25, ([lR 38, lI p1, lI p2, lI v3, none], ([], (mSH r tl, (G, nk)))))) ?_ ?_
    · intro g4
      refine sm_go 3 (s' := (30, ([lR 38, lI p1, lI p2, lI v3, none], ([sI (G 38 3), sI p2], (mSH r tl, (G, nk)))))) ?_ rfl
      refine sm_if2 (t := (ilt p2 (G 38 3))) (pt := 64) rfl rfl rfl (fun _ => ?_) (fun _ => ?_)
      · refine sm_go 2 (s' := (67, ([lR 38, lI p1, lI p2, lI v3, lI 0], ([], (mSH r tl, (G, nk)))))) ?_ rfl
        refine sm_loop2 (S := fun (g7 : Unit) (x5 : Int) (G6 : mG) => (67, ([lR 38, lI p1, lI p2, lI v3, lI x5], ([], (mSH r tl, (G6, nk)))))) ?_ LF () 0 G
        intro again8 hagain8 g7 x5 G6
        refine sm_go 4 (s' := (76, ([lR 38, lI p1, lI p2, lI v3, lI x5], ([sI (G6 1 0), sI x5], (mSH r tl, (G6, nk)))))) ?_ rfl
        refine sm_if2n (t := (ilt x5 (G6 1 0))) (pt := 122) rfl rfl rfl (fun _ => ?_) (fun _ => ?_)
        · refine sm_go 3 (s' := (85, ([lR 38, lI p1, lI p2, lI v3, lI x5], ([sI x5, sR 26], (mSH r tl, (G6, nk)))))) ?_ rfl
          refine sm_callG (rest := []) (T_X8_hasLeft_26 scr ((d + N) + 4) r tl nk G6 x5) rfl (Or.inl rfl) rfl rfl rfl rfl (fun _ => rfl) (fun v9 => (88, ([lR 38, lI p1, lI p2, lI v3, lI x5], ([sI (b2i v9)], (mSH r tl, (G6, nk)))))) (fun _ => rfl) fun v9 => ?_
          refine sm_letK1 (S := fun (g11 : Unit) (G10 : mG) => (116, ([lR 38, lI p1, lI p2, lI v3, lI x5], ([], (mSH r tl, (G10, nk)))))) ?_ ?_
          · intro g11 G10
            exact sm_go 2 (hagain8 () (x5 + 1) G10) rfl
          · intro k12 hk12
            refine sm_if1n (t := v9) (pt := 116) (mCmpB_eq v9) rfl rfl (fun _ => ?_) (fun _ => ?_)
            · refine sm_go 4 (s' := (98, ([lR 38, lI p1, lI p2, lI v3, lI x5], ([sI 0, sI x5, sR 26], (mSH r tl, (G6, nk)))))) ?_ rfl
              refine sm_callG (rest := []) (T_X8_put_26 scr ((d + N) + 1) r tl nk G6 x5 0) rfl (Or.inl rfl) rfl rfl rfl rfl (fun _ => rfl) (fun G13 => (101, ([lR 38, lI p1, lI p2, lI v3, lI x5], ([], (mSH r tl, (G13, nk)))))) (fun _ => rfl) fun G13 => ?_
              refine sm_go 5 (s' := (106, ([lR 38, lI p1, lI p2, lI v3, lI x5], ([sI (p2 + 1), sI p1, sR 38], (mSH r tl, (G13, nk)))))) ?_ rfl
              refine sm_callG (rest := []) (ih G13 p1 (p2 + 1)) rfl (Or.inl rfl) rfl rfl rfl rfl (fun _ => rfl) (fun G14 => (109, ([lR 38, lI p1, lI p2, lI v3, lI x5], ([], (mSH r tl, (G14, nk)))))) (fun _ => rfl) fun G14 => ?_
              refine sm_go 2 (s' := (113, ([lR 38, lI p1, lI p2, lI v3, lI x5], ([sR 26], (mSH r tl, (G14, nk)))))) ?_ rfl
              refine sm_callG (rest := []) (T_X8_takeBack_26 scr ((d + N) + 3) r tl nk G14) rfl (Or.inl rfl) rfl rfl rfl rfl (fun _ => rfl) (fun G15 => (116, ([lR 38, lI p1, lI p2, lI v3, lI x5], ([], (mSH r tl, (G15, nk)))))) (fun _ => rfl) fun G15 => ?_
              exact hk12 () G15
            · exact hk12 () G6
        · exact sm_retU rfl rfl
      · refine sm_go 2 (s' := (35, ([lR 38, lI p1, lI p2, lI v3, none], ([sI 1, sR 38], (mSH r tl, (G, nk)))))) ?_ rfl
        refine sm_pstZ rfl rfl rfl fun G16 => ?_
        refine sm_go 2 (s' := (40, ([lR 38, lI p1, lI p2, lI v3, none], ([sI v3, sR 38], (mSH r tl, (G16, nk)))))) ?_ rfl
        refine sm_pst rfl rfl rfl fun G17 => ?_
        refine sm_go 9 (s' := (60, ([lR 38, lI p1, lI p2, lI v3, none], ([sI (G17 38 3), sI 0, sR 39, sI 0, sR 27], (mSH r tl, (G17, nk)))))) ?_ rfl
        refine sm_acp rfl rfl rfl rfl fun G18 => ?_
        exact sm_retU rfl rfl
    · intro k19 hk19
      refine sm_go 3 (s' := (13, ([lR 38, lI p1, lI p2, lI v3, none], ([sI (G 38 5)], (mSH r tl, (G, nk)))))) ?_ rfl
      refine sm_if1 (t := (ieq (G 38 5) 0)) (pt := 25) rfl rfl rfl (fun _ => ?_) (fun _ => ?_)
      · exact hk19 ()
      · refine sm_go 3 (s' := (21, ([lR 38, lI p1, lI p2, lI v3, none], ([sI (G 38 4), sI v3], (mSH r tl, (G, nk)))))) ?_ rfl
        refine sm_if2 (t := (ilt v3 (G 38 4))) (pt := 25) rfl rfl rfl (fun _ => ?_) (fun _ => ?_)
        · exact hk19 ()
        · exact sm_retU rfl rfl
def P_X0_search (p1 : Int) (G : mG) : Option (mG) :=
(P_X7_stepTotal G).bind fun v2 =>
(pst G 38 3 (iMin v2 8)).bind fun G3 =>
(pstZ G3 38 5 0).bind fun G4 =>
(P_X8_clear 26 G4).bind fun G5 =>
(P_X0_explore 10 p1 0 G5).bind fun G6 =>
(P_X8_clear 26 G6).bind fun G7 =>
loop2 LF (fun again11 (x8 : Int) (G9 : mG) =>
bif (ilt x8 (G9 38 3)) then
(ald G9 39 8 x8).bind fun v12 =>
(P_X8_put 26 v12 0 G9).bind fun G13 =>
again11 (x8 + 1) G13
else
some G9) 0 G7
set_option maxRecDepth 100000 in
theorem T_X0_search (scr : mScr) (d : Nat) (r : List (Option Nat)) (tl : List mSh) (nk : Nat × Nat) (G : mG)  (p1 : Int) : SimC scr (d + 16) 1 [sR 38, sI p1] (mSH r tl, (G, nk)) (e1U r tl nk) (P_X0_search p1 G) := by
  refine sm_callX (cs := mc_X0_search) (maxL := 3) (rk := 0) (o := 0) (hs := []) (d := d + 15) [lR 38, lI p1, none] rfl rfl rfl rfl ?_
  unfold P_X0_search
  refine sm_go 3 (s' := (5, ([lR 38, lI p1, none], ([sR 1, sR 38], (mSH r tl, (G, nk)))))) ?_ rfl
  refine sm_callG (rest := [sR 38]) (T_X7_stepTotal scr (d + 14) r tl nk G) rfl (Or.inl rfl) rfl rfl rfl rfl (fun _ => rfl) (fun v2 => (8, ([lR 38, lI p1, none], ([sI v2, sR 38], (mSH r tl, (G, nk)))))) (fun _ => rfl) fun v2 => ?_
  refine sm_go 2 (s' := (13, ([lR 38, lI p1, none], ([sI (iMin v2 8), sR 38], (mSH r tl, (G, nk)))))) ?_ rfl
  refine sm_pst rfl rfl rfl fun G3 => ?_
  refine sm_go 2 (s' := (18, ([lR 38, lI p1, none], ([sI 0, sR 38], (mSH r tl, (G3, nk)))))) ?_ rfl
  refine sm_pstZ rfl rfl rfl fun G4 => ?_
  refine sm_go 2 (s' := (25, ([lR 38, lI p1, none], ([sR 26], (mSH r tl, (G4, nk)))))) ?_ rfl
  refine sm_callG (rest := []) (T_X8_clear_26 scr (d + 13) r tl nk G4) rfl (Or.inl rfl) rfl rfl rfl rfl (fun _ => rfl) (fun G5 => (28, ([lR 38, lI p1, none], ([], (mSH r tl, (G5, nk)))))) (fun _ => rfl) fun G5 => ?_
  refine sm_go 3 (s' := (31, ([lR 38, lI p1, none], ([sI 0, sI p1, sR 38], (mSH r tl, (G5, nk)))))) ?_ rfl
  refine sm_callG (rest := []) (T_X0_explore scr d 10 r tl nk G5 p1 0) rfl (Or.inl rfl) rfl rfl rfl rfl (fun _ => rfl) (fun G6 => (34, ([lR 38, lI p1, none], ([], (mSH r tl, (G6, nk)))))) (fun _ => rfl) fun G6 => ?_
  refine sm_go 2 (s' := (38, ([lR 38, lI p1, none], ([sR 26], (mSH r tl, (G6, nk)))))) ?_ rfl
  refine sm_callG (rest := []) (T_X8_clear_26 scr (d + 13) r tl nk G6) rfl (Or.inl rfl) rfl rfl rfl rfl (fun _ => rfl) (fun G7 => (41, ([lR 38, lI p1, none], ([], (mSH r tl, (G7, nk)))))) (fun _ => rfl) fun G7 => ?_
  refine sm_go 2 (s' := (43, ([lR 38, lI p1, lI 0], ([], (mSH r tl, (G7, nk)))))) ?_ rfl
  refine sm_loop2 (S := fun (g10 : Unit) (x8 : Int) (G9 : mG) => (43, ([lR 38, lI p1, lI x8], ([], (mSH r tl, (G9, nk)))))) ?_ LF () 0 G7
  intro again11 hagain11 g10 x8 G9
  refine sm_go 3 (s' := (48, ([lR 38, lI p1, lI x8], ([sI (G9 38 3), sI x8], (mSH r tl, (G9, nk)))))) ?_ rfl
  refine sm_if2n (t := (ilt x8 (G9 38 3))) (pt := 71) rfl rfl rfl (fun _ => ?_) (fun _ => ?_)
  · refine sm_go 5 (s' := (60, ([lR 38, lI p1, lI x8], ([sI x8, sR 39, sR 26], (mSH r tl, (G9, nk)))))) ?_ rfl
    refine sm_ald rfl rfl fun v12 => ?_
    refine sm_go 1 (s' := (62, ([lR 38, lI p1, lI x8], ([sI 0, sI v12, sR 26], (mSH r tl, (G9, nk)))))) ?_ rfl
    refine sm_callG (rest := []) (T_X8_put_26 scr (d + 11) r tl nk G9 v12 0) rfl (Or.inl rfl) rfl rfl rfl rfl (fun _ => rfl) (fun G13 => (65, ([lR 38, lI p1, lI x8], ([], (mSH r tl, (G13, nk)))))) (fun _ => rfl) fun G13 => ?_
    exact sm_go 2 (hagain11 () (x8 + 1) G13) rfl
  · exact sm_retU rfl rfl
def P_X11_valueOf (p1 : Int) (G : mG) : Option (Int) :=
loop2 LF (fun again5 (x2 : Int) (x3 : Int) =>
(ald G 57 282 0).bind fun v6 =>
bif (ilt x3 v6) then
(ald G 61 6 x3).bind fun v7 =>
(P_X11_of x3 1 G).bind fun v8 =>
letK (fun (x9 : Int) =>
again5 x9 (x3 + 1)) fun k11 =>
bif decide (w32 p1 = 0) then
(ald G 61 6 x3).bind fun v12 =>
k11 (iMax x2 v12)
else
bif decide (w32 p1 = 1) then
(ald G 61 6 x3).bind fun v13 =>
k11 (x2 + v13)
else
bif decide (w32 p1 = 2) then
letK (fun (x14 : Int) =>
k11 x14) fun k16 =>
bif (ieq x3 0) then
k16 (v7 - v8)
else
k16 (iMax x2 (v7 - v8))
else
bif decide (w32 p1 = 3) then
letK (fun (x17 : Int) =>
k11 (x2 + x17)) fun k19 =>
bif (ilt 0 (v7 - v8)) then
k19 1
else
k19 0
else
letK (fun (x20 : Int) =>
k11 (x2 + x20)) fun k22 =>
bif (ilt 0 (v7 - v8)) then
(P_X11_of x3 2 G).bind fun v23 =>
k22 (v23 * (v7 - v8))
else
k22 0
else
some x2) 0 0
set_option maxRecDepth 100000 in
theorem T_X11_valueOf (scr : mScr) (d : Nat) (r : List (Option Nat)) (tl : List mSh) (nk : Nat × Nat) (G : mG)  (p1 : Int) : SimC scr (d + 2) 160 [sR 56, sI p1] (mSH r tl, (G, nk)) (e0I (mSH r tl, (G, nk))) (P_X11_valueOf p1 G) := by
  refine sm_callX (cs := mc_X11_valueOf) (maxL := 5) (rk := 0) (o := 11) (hs := []) (d := d + 1) [lR 56, lI p1, none, none, none] rfl rfl rfl rfl ?_
  unfold P_X11_valueOf
  refine sm_go 4 (s' := (4, ([lR 56, lI p1, lI 0, lI 0, none], ([], (mSH r tl, (G, nk)))))) ?_ rfl
  refine sm_loop2 (S := fun (g4 : Option mV) (x2 : Int) (x3 : Int) => (4, ([lR 56, lI p1, lI x2, lI x3, g4], ([], (mSH r tl, (G, nk)))))) ?_ LF (none) 0 0
  intro again5 hagain5 g4 x2 x3
  refine sm_go 4 (s' := (10, ([lR 56, lI p1, lI x2, lI x3, g4], ([sI 0, sR 57, sI x3], (mSH r tl, (G, nk)))))) ?_ rfl
  refine sm_ald rfl rfl fun v6 => ?_
  refine sm_if2n (t := (ilt x3 v6)) (pt := 148) rfl rfl rfl (fun _ => ?_) (fun _ => ?_)
  · refine sm_go 3 (s' := (19, ([lR 56, lI p1, lI x2, lI x3, g4], ([sI x3, sR 61], (mSH r tl, (G, nk)))))) ?_ rfl
    refine sm_ald rfl rfl fun v7 => ?_
    refine sm_go 3 (s' := (23, ([lR 56, lI p1, lI x2, lI x3, g4], ([sI 1, sI x3, sR 56, sI v7], (mSH r tl, (G, nk)))))) ?_ rfl
    refine sm_callG (rest := [sI v7]) (T_X11_of scr d r tl nk G x3 1) rfl (Or.inl rfl) rfl rfl rfl rfl (fun _ => rfl) (fun v8 => (26, ([lR 56, lI p1, lI x2, lI x3, g4], ([sI v8, sI v7], (mSH r tl, (G, nk)))))) (fun _ => rfl) fun v8 => ?_
    refine sm_letK1 (S := fun (g10 : Unit) (x9 : Int) => (142, ([lR 56, lI p1, lI x9, lI x3, lI (v7 - v8)], ([], (mSH r tl, (G, nk)))))) ?_ ?_
    · intro g10 x9
      exact sm_go 2 (hagain5 (lI (v7 - v8)) x9 (x3 + 1)) rfl
    · intro k11 hk11
      refine sm_go 3 (s' := (30, ([lR 56, lI p1, lI x2, lI x3, lI (v7 - v8)], ([sI p1], (mSH r tl, (G, nk)))))) ?_ rfl
      refine sm_sw (fun hw0 => ?_) (fun hw0 => ?_)
      · refine sm_swC (pt := 60) hw0 rfl rfl ?_
        refine sm_go 4 (s' := (66, ([lR 56, lI p1, lI x2, lI x3, lI (v7 - v8)], ([sI x3, sR 61, sI x2], (mSH r tl, (G, nk)))))) ?_ rfl
        refine sm_ald rfl rfl fun v12 => ?_
        exact sm_go 3 (hk11 () (iMax x2 v12)) rfl
      refine sm_sw (fun hw1 => ?_) (fun hw1 => ?_)
      · refine sm_swC (pt := 74) hw1 rfl rfl ?_
        refine sm_go 4 (s' := (80, ([lR 56, lI p1, lI x2, lI x3, lI (v7 - v8)], ([sI x3, sR 61, sI x2], (mSH r tl, (G, nk)))))) ?_ rfl
        refine sm_ald rfl rfl fun v13 => ?_
        exact sm_go 3 (hk11 () (x2 + v13)) rfl
      refine sm_sw (fun hw2 => ?_) (fun hw2 => ?_)
      · refine sm_swC (pt := 86) hw2 rfl rfl ?_
        refine sm_letK1 (S := fun (g15 : Unit) (x14 : Int) => (101, ([lR 56, lI p1, lI x2, lI x3, lI (v7 - v8)], ([sI x14], (mSH r tl, (G, nk)))))) ?_ ?_
        · intro g15 x14
          exact sm_go 2 (hk11 () x14) rfl
        · intro k16 hk16
          refine sm_go 1 (s' := (87, ([lR 56, lI p1, lI x2, lI x3, lI (v7 - v8)], ([sI x3], (mSH r tl, (G, nk)))))) ?_ rfl
          refine sm_if1n (t := (ieq x3 0)) (pt := 95) rfl rfl rfl (fun _ => ?_) (fun _ => ?_)
          · exact sm_go 2 (hk16 () (v7 - v8)) rfl
          · exact sm_go 3 (hk16 () (iMax x2 (v7 - v8))) rfl
      refine sm_sw (fun hw3 => ?_) (fun hw3 => ?_)
      · refine sm_swC (pt := 105) hw3 rfl rfl ?_
        refine sm_letK1 (S := fun (g18 : Unit) (x17 : Int) => (116, ([lR 56, lI p1, lI x2, lI x3, lI (v7 - v8)], ([sI x17, sI x2], (mSH r tl, (G, nk)))))) ?_ ?_
        · intro g18 x17
          exact sm_go 3 (hk11 () (x2 + x17)) rfl
        · intro k19 hk19
          refine sm_go 2 (s' := (108, ([lR 56, lI p1, lI x2, lI x3, lI (v7 - v8)], ([sI (v7 - v8), sI x2], (mSH r tl, (G, nk)))))) ?_ rfl
          refine sm_if1n (t := (ilt 0 (v7 - v8))) (pt := 115) rfl rfl rfl (fun _ => ?_) (fun _ => ?_)
          · exact sm_go 2 (hk19 () 1) rfl
          · exact sm_go 1 (hk19 () 0) rfl
      refine sm_swD (pt := 121) (by omega) rfl rfl ?_
      refine sm_letK1 (S := fun (g21 : Unit) (x20 : Int) => (140, ([lR 56, lI p1, lI x2, lI x3, lI (v7 - v8)], ([sI x20, sI x2], (mSH r tl, (G, nk)))))) ?_ ?_
      · intro g21 x20
        exact sm_go 2 (hk11 () (x2 + x20)) rfl
      · intro k22 hk22
        refine sm_go 2 (s' := (124, ([lR 56, lI p1, lI x2, lI x3, lI (v7 - v8)], ([sI (v7 - v8), sI x2], (mSH r tl, (G, nk)))))) ?_ rfl
        refine sm_if1n (t := (ilt 0 (v7 - v8))) (pt := 139) rfl rfl rfl (fun _ => ?_) (fun _ => ?_)
        · refine sm_go 3 (s' := (130, ([lR 56, lI p1, lI x2, lI x3, lI (v7 - v8)], ([sI 2, sI x3, sR 56, sI x2], (mSH r tl, (G, nk)))))) ?_ rfl
          refine sm_callG (rest := [sI x2]) (T_X11_of scr d r tl nk G x3 2) rfl (Or.inl rfl) rfl rfl rfl rfl (fun _ => rfl) (fun v23 => (133, ([lR 56, lI p1, lI x2, lI x3, lI (v7 - v8)], ([sI v23, sI x2], (mSH r tl, (G, nk)))))) (fun _ => rfl) fun v23 => ?_
          exact sm_go 3 (hk22 () (v23 * (v7 - v8))) rfl
        · exact sm_go 1 (hk22 () 0) rfl
  · refine sm_go 1 (s' := (149, ([lR 56, lI p1, lI x2, lI x3, g4], ([sI x2], (mSH r tl, (G, nk)))))) ?_ rfl
    exact sm_retI rfl rfl rfl
def P_X11_nextJob (p1 : Int) (G : mG) : Option (Int) :=
letK (fun (x2 : Int) =>
(ald G 57 282 0).bind fun v4 =>
bif (ilt x2 v4) then
some x2
else
some (-1)) fun k5 =>
loop1 LF (fun again8 (x6 : Int) =>
(ald G 57 282 0).bind fun v9 =>
bif (ilt x6 v9) then
(ald G 60 6 x6).bind fun v10 =>
(P_X11_of x6 4 G).bind fun v11 =>
bif (ieq v10 v11) then
again8 (x6 + 1)
else
k5 x6
else
k5 x6) (p1 + 1)
set_option maxRecDepth 100000 in
theorem T_X11_nextJob (scr : mScr) (d : Nat) (r : List (Option Nat)) (tl : List mSh) (nk : Nat × Nat) (G : mG)  (p1 : Int) : SimC scr (d + 2) 178 [sR 56, sI p1] (mSH r tl, (G, nk)) (e0I (mSH r tl, (G, nk))) (P_X11_nextJob p1 G) := by
  refine sm_callX (cs := mc_X11_nextJob) (maxL := 3) (rk := 0) (o := 11) (hs := []) (d := d + 1) [lR 56, lI p1, none] rfl rfl rfl rfl ?_
  unfold P_X11_nextJob
  refine sm_go 4 (s' := (4, ([lR 56, lI p1, lI (p1 + 1)], ([], (mSH r tl, (G, nk)))))) ?_ rfl
  refine sm_letK1 (S := fun (g3 : Unit) (x2 : Int) => (35, ([lR 56, lI p1, lI x2], ([], (mSH r tl, (G, nk)))))) ?_ ?_
  · intro g3 x2
    refine sm_go 4 (s' := (41, ([lR 56, lI p1, lI x2], ([sI 0, sR 57, sI x2], (mSH r tl, (G, nk)))))) ?_ rfl
    refine sm_ald rfl rfl fun v4 => ?_
    refine sm_if2n (t := (ilt x2 v4)) (pt := 49) rfl rfl rfl (fun _ => ?_) (fun _ => ?_)
    · refine sm_go 2 (s' := (50, ([lR 56, lI p1, lI x2], ([sI x2], (mSH r tl, (G, nk)))))) ?_ rfl
      exact sm_retI rfl rfl rfl
    · refine sm_go 1 (s' := (50, ([lR 56, lI p1, lI x2], ([sI (-1)], (mSH r tl, (G, nk)))))) ?_ rfl
      exact sm_retI rfl rfl rfl
  · intro k5 hk5
    refine sm_loop1 (S := fun (g7 : Unit) (x6 : Int) => (4, ([lR 56, lI p1, lI x6], ([], (mSH r tl, (G, nk)))))) ?_ LF () (p1 + 1)
    intro again8 hagain8 g7 x6
    refine sm_go 4 (s' := (10, ([lR 56, lI p1, lI x6], ([sI 0, sR 57, sI x6], (mSH r tl, (G, nk)))))) ?_ rfl
    refine sm_ald rfl rfl fun v9 => ?_
    refine sm_if2n (t := (ilt x6 v9)) (pt := 35) rfl rfl rfl (fun _ => ?_) (fun _ => ?_)
    · refine sm_go 3 (s' := (19, ([lR 56, lI p1, lI x6], ([sI x6, sR 60], (mSH r tl, (G, nk)))))) ?_ rfl
      refine sm_ald rfl rfl fun v10 => ?_
      refine sm_go 3 (s' := (23, ([lR 56, lI p1, lI x6], ([sI 4, sI x6, sR 56, sI v10], (mSH r tl, (G, nk)))))) ?_ rfl
      refine sm_callG (rest := [sI v10]) (T_X11_of scr d r tl nk G x6 4) rfl (Or.inl rfl) rfl rfl rfl rfl (fun _ => rfl) (fun v11 => (26, ([lR 56, lI p1, lI x6], ([sI v11, sI v10], (mSH r tl, (G, nk)))))) (fun _ => rfl) fun v11 => ?_
      refine sm_if2n (t := (ieq v10 v11)) (pt := 35) rfl rfl rfl (fun _ => ?_) (fun _ => ?_)
      · exact sm_go 2 (hagain8 () (x6 + 1)) rfl
      · exact hk5 () x6
    · exact hk5 () x6
def P_X11_remembers (p1 : Int) (p2 : Int) (G : mG) : Option (mG) :=
(ald G 60 6 p2).bind fun v3 =>
(P_X11_machineOf p2 v3 G).bind fun v4 =>
(ald G 62 4 v4).bind fun v5 =>
(ast G 68 36 (4 * p1) v5).bind fun G6 =>
(ald G6 63 4 v4).bind fun v7 =>
(ast G6 68 36 ((4 * p1) + 1) v7).bind fun G8 =>
(ald G8 64 4 v4).bind fun v9 =>
(ast G8 68 36 ((4 * p1) + 2) v9).bind fun G10 =>
(ald G10 61 6 p2).bind fun v11 =>
(ast G10 68 36 ((4 * p1) + 3) v11).bind fun G12 =>
some G12
set_option maxRecDepth 100000 in
theorem T_X11_remembers (scr : mScr) (d : Nat) (r : List (Option Nat)) (tl : List mSh) (nk : Nat × Nat) (G : mG)  (p1 : Int) (p2 : Int) : SimC scr (d + 3) 176 [sR 56, sI p1, sI p2] (mSH r tl, (G, nk)) (e1U r tl nk) (P_X11_remembers p1 p2 G) := by
  refine sm_callX (cs := mc_X11_remembers) (maxL := 4) (rk := 0) (o := 11) (hs := []) (d := d + 2) [lR 56, lI p1, lI p2, none] rfl rfl rfl rfl ?_
  unfold P_X11_remembers
  refine sm_go 5 (s' := (7, ([lR 56, lI p1, lI p2, none], ([sI p2, sR 60, sI p2, sR 56], (mSH r tl, (G, nk)))))) ?_ rfl
  refine sm_ald rfl rfl fun v3 => ?_
  refine sm_callG (rest := []) (T_X11_machineOf scr d r tl nk G p2 v3) rfl (Or.inl rfl) rfl rfl rfl rfl (fun _ => rfl) (fun v4 => (11, ([lR 56, lI p1, lI p2, none], ([sI v4], (mSH r tl, (G, nk)))))) (fun _ => rfl) fun v4 => ?_
  refine sm_go 9 (s' := (24, ([lR 56, lI p1, lI p2, lI v4], ([sI v4, sR 62, sI (4 * p1), sR 68], (mSH r tl, (G, nk)))))) ?_ rfl
  refine sm_ald rfl rfl fun v5 => ?_
  refine sm_ast rfl rfl fun G6 => ?_
  refine sm_go 10 (s' := (40, ([lR 56, lI p1, lI p2, lI v4], ([sI v4, sR 63, sI ((4 * p1) + 1), sR 68], (mSH r tl, (G6, nk)))))) ?_ rfl
  refine sm_ald rfl rfl fun v7 => ?_
  refine sm_ast rfl rfl fun G8 => ?_
  refine sm_go 10 (s' := (56, ([lR 56, lI p1, lI p2, lI v4], ([sI v4, sR 64, sI ((4 * p1) + 2), sR 68], (mSH r tl, (G8, nk)))))) ?_ rfl
  refine sm_ald rfl rfl fun v9 => ?_
  refine sm_ast rfl rfl fun G10 => ?_
  refine sm_go 10 (s' := (72, ([lR 56, lI p1, lI p2, lI v4], ([sI p2, sR 61, sI ((4 * p1) + 3), sR 68], (mSH r tl, (G10, nk)))))) ?_ rfl
  refine sm_ald rfl rfl fun v11 => ?_
  refine sm_ast rfl rfl fun G12 => ?_
  exact sm_retU rfl rfl
def P_X11_takesBack (p1 : Int) (G : mG) : Option (mG) :=
(ald G 67 9 p1).bind fun v2 =>
(ald G 60 6 v2).bind fun v3 =>
(ast G 60 6 v2 (v3 - 1)).bind fun G4 =>
(ald G4 60 6 v2).bind fun v5 =>
(P_X11_machineOf v2 v5 G4).bind fun v6 =>
(ald G4 68 36 (4 * p1)).bind fun v7 =>
(ast G4 62 4 v6 v7).bind fun G8 =>
(ald G8 68 36 ((4 * p1) + 1)).bind fun v9 =>
(ast G8 63 4 v6 v9).bind fun G10 =>
(ald G10 68 36 ((4 * p1) + 2)).bind fun v11 =>
(ast G10 64 4 v6 v11).bind fun G12 =>
(ald G12 68 36 ((4 * p1) + 3)).bind fun v13 =>
(ast G12 61 6 v2 v13).bind fun G14 =>
some G14
set_option maxRecDepth 100000 in
theorem T_X11_takesBack (scr : mScr) (d : Nat) (r : List (Option Nat)) (tl : List mSh) (nk : Nat × Nat) (G : mG)  (p1 : Int) : SimC scr (d + 3) 177 [sR 56, sI p1] (mSH r tl, (G, nk)) (e1U r tl nk) (P_X11_takesBack p1 G) := by
  refine sm_callX (cs := mc_X11_takesBack) (maxL := 4) (rk := 0) (o := 11) (hs := []) (d := d + 2) [lR 56, lI p1, none, none] rfl rfl rfl rfl ?_
  unfold P_X11_takesBack
  refine sm_go 3 (s' := (5, ([lR 56, lI p1, none, none], ([sI p1, sR 67], (mSH r tl, (G, nk)))))) ?_ rfl
  refine sm_ald rfl rfl fun v2 => ?_
  refine sm_go 5 (s' := (13, ([lR 56, lI p1, lI v2, none], ([sI v2, sR 60, sI v2, sR 60], (mSH r tl, (G, nk)))))) ?_ rfl
  refine sm_ald rfl rfl fun v3 => ?_
  refine sm_go 2 (s' := (16, ([lR 56, lI p1, lI v2, none], ([sI (v3 - 1), sI v2, sR 60], (mSH r tl, (G, nk)))))) ?_ rfl
  refine sm_ast rfl rfl fun G4 => ?_
  refine sm_go 5 (s' := (24, ([lR 56, lI p1, lI v2, none], ([sI v2, sR 60, sI v2, sR 56], (mSH r tl, (G4, nk)))))) ?_ rfl
  refine sm_ald rfl rfl fun v5 => ?_
  refine sm_callG (rest := []) (T_X11_machineOf scr d r tl nk G4 v2 v5) rfl (Or.inl rfl) rfl rfl rfl rfl (fun _ => rfl) (fun v6 => (28, ([lR 56, lI p1, lI v2, none], ([sI v6], (mSH r tl, (G4, nk)))))) (fun _ => rfl) fun v6 => ?_
  refine sm_go 9 (s' := (41, ([lR 56, lI p1, lI v2, lI v6], ([sI (4 * p1), sR 68, sI v6, sR 62], (mSH r tl, (G4, nk)))))) ?_ rfl
  refine sm_ald rfl rfl fun v7 => ?_
  refine sm_ast rfl rfl fun G8 => ?_
  refine sm_go 10 (s' := (57, ([lR 56, lI p1, lI v2, lI v6], ([sI ((4 * p1) + 1), sR 68, sI v6, sR 63], (mSH r tl, (G8, nk)))))) ?_ rfl
  refine sm_ald rfl rfl fun v9 => ?_
  refine sm_ast rfl rfl fun G10 => ?_
  refine sm_go 10 (s' := (73, ([lR 56, lI p1, lI v2, lI v6], ([sI ((4 * p1) + 2), sR 68, sI v6, sR 64], (mSH r tl, (G10, nk)))))) ?_ rfl
  refine sm_ald rfl rfl fun v11 => ?_
  refine sm_ast rfl rfl fun G12 => ?_
  refine sm_go 10 (s' := (89, ([lR 56, lI p1, lI v2, lI v6], ([sI ((4 * p1) + 3), sR 68, sI v2, sR 61], (mSH r tl, (G12, nk)))))) ?_ rfl
  refine sm_ald rfl rfl fun v13 => ?_
  refine sm_ast rfl rfl fun G14 => ?_
  exact sm_retU rfl rfl
def P_X11_best (p1 : Int) (G : mG) : Option (Int × mG) :=
(P_X11_allSteps G).bind fun v2 =>
(P_X11_in p1 0 4).bind fun v3 =>
letK (fun (x4 : Int) =>
(P_X11_fits (b2i v3) x4 1 G).bind fun z6 =>
bif z6.1 then
(P_X11_keeps z6.2).bind fun G7 =>
(P_X11_startsPlan G7).bind fun G8 =>
(P_X11_valueOf p1 G8).bind fun v9 =>
letK (fun (x10 : Int) =>
(ast G8 67 9 0 (-1)).bind fun G12 =>
letK (fun (x13 : Int) (G14 : mG) =>
(P_X11_startsPlan G14).bind fun G16 =>
(P_X11_clearsOrder G16).bind fun G17 =>
letK (fun (G18 : mG) =>
(P_X11_takesOrder G18).bind fun z20 =>
some (x13, z20.2)) fun k21 =>
loop2 LF (fun again25 (x22 : Int) (G23 : mG) =>
bif (ilt x22 v2) then
(ald G23 69 8 x22).bind fun v26 =>
(P_X11_puts v26 G23).bind fun G27 =>
(ald G27 69 8 x22).bind fun v28 =>
(ald G27 60 6 v28).bind fun v29 =>
(ast G27 60 6 v28 (v29 + 1)).bind fun G30 =>
again25 (x22 + 1) G30
else
k21 G23) 0 G17) fun k31 =>
loop4 LF (fun again37 (x32 : Int) (x33 : Int) (x34 : Int) (G35 : mG) =>
bif (ilt x34 0) then
k31 x32 G35
else
bif (ilt 0 v2) then
(ald G35 67 9 x34).bind fun v38 =>
(P_X11_nextJob v38 G35).bind fun v39 =>
bif (ieq v39 (-1)) then
bif (ilt (x34 + (-1)) 0) then
again37 x32 x33 (x34 + (-1)) G35
else
(P_X11_takesBack (x34 + (-1)) G35).bind fun G55 =>
again37 x32 x33 (x34 + (-1)) G55
else
(P_X11_remembers x34 v39 G35).bind fun G40 =>
(ast G40 67 9 x34 v39).bind fun G41 =>
(P_X11_beginOf v39 G41).bind fun v42 =>
(P_X11_does v39 v42 G41).bind fun G43 =>
bif (ilt (x34 + 1) v2) then
(ast G43 67 9 (x34 + 1) (-1)).bind fun G54 =>
again37 x32 x33 (x34 + 1) G54
else
(P_X11_valueOf p1 G43).bind fun v44 =>
letK (fun (x45 : Int) (x46 : Int) (G47 : mG) =>
(P_X11_takesBack x34 G47).bind fun G49 =>
again37 x45 x46 x34 G49) fun k50 =>
letK ((acp G43 67 9 0 69 8 0 v2).bind fun G52 =>
k50 v44 1 G52) fun k53 =>
bif (ieq x33 0) then
k53
else
bif (ilt v44 x32) then
k53
else
k50 x32 x33 G43
else
k31 x32 G35) v9 x10 0 G12) fun k56 =>
bif (ieq v2 0) then
k56 1
else
k56 0
else
some (0, z6.2)) fun k57 =>
bif (ilt 8 v2) then
k57 0
else
k57 1
set_option maxRecDepth 100000 in
theorem T_X11_best (scr : mScr) (d : Nat) (r : List (Option Nat)) (tl : List mSh) (nk : Nat × Nat) (G : mG)  (p1 : Int) : SimC scr (d + 7) 179 [sR 56, sI p1] (mSH r tl, (G, nk)) (e1I r tl nk) (P_X11_best p1 G) := by
  refine sm_callX (cs := mc_X11_best) (maxL := 8) (rk := 0) (o := 11) (hs := []) (d := d + 6) [lR 56, lI p1, none, none, none, none, none, none] rfl rfl rfl rfl ?_
  unfold P_X11_best
  refine sm_go 1 (s' := (1, ([lR 56, lI p1, none, none, none, none, none, none], ([sR 56], (mSH r tl, (G, nk)))))) ?_ rfl
  refine sm_callG (rest := []) (T_X11_allSteps scr (d + 4) r tl nk G) rfl (Or.inl rfl) rfl rfl rfl rfl (fun _ => rfl) (fun v2 => (4, ([lR 56, lI p1, none, none, none, none, none, none], ([sI v2], (mSH r tl, (G, nk)))))) (fun _ => rfl) fun v2 => ?_
  refine sm_go 5 (s' := (9, ([lR 56, lI p1, lI v2, none, none, none, none, none], ([sI 4, sI 0, sI p1, sR 56], (mSH r tl, (G, nk)))))) ?_ rfl
  refine sm_callG (rest := [sR 56]) (T_X11_in scr (d + 5) r tl nk G p1 0 4) rfl (Or.inr (Or.inl rfl)) rfl rfl rfl rfl (fun _ => rfl) (fun v3 => (12, ([lR 56, lI p1, lI v2, none, none, none, none, none], ([sI (b2i v3), sR 56], (mSH r tl, (G, nk)))))) (fun _ => rfl) fun v3 => ?_
  refine sm_letK1 (S := fun (g5 : Unit) (x4 : Int) => (23, ([lR 56, lI p1, lI v2, none, none, none, none, none], ([sI x4, sI (b2i v3), sR 56], (mSH r tl, (G, nk)))))) ?_ ?_
  · intro g5 x4
    refine sm_go 1 (s' := (24, ([lR 56, lI p1, lI v2, none, none, none, none, none], ([sI 1, sI x4, sI (b2i v3), sR 56], (mSH r tl, (G, nk)))))) ?_ rfl
    refine sm_callG (rest := []) (T_X11_fits scr (d + 5) r tl nk G (b2i v3) x4 1) rfl (Or.inl rfl) rfl rfl rfl rfl (fun _ => rfl) (fun z6 => (27, ([lR 56, lI p1, lI v2, none, none, none, none, none], ([sI (b2i z6.1)], (mSH r tl, (z6.2, nk)))))) (fun _ => rfl) fun z6 => ?_
    refine sm_if1 (t := z6.1) (pt := 32) (mCmpB_ne z6.1) rfl rfl (fun _ => ?_) (fun _ => ?_)
    · refine sm_go 1 (s' := (33, ([lR 56, lI p1, lI v2, none, none, none, none, none], ([sR 56], (mSH r tl, (z6.2, nk)))))) ?_ rfl
      refine sm_callG (rest := []) (T_X11_keeps scr (d + 5) r tl nk z6.2) rfl (Or.inl rfl) rfl rfl rfl rfl (fun _ => rfl) (fun G7 => (36, ([lR 56, lI p1, lI v2, none, none, none, none, none], ([], (mSH r tl, (G7, nk)))))) (fun _ => rfl) fun G7 => ?_
      refine sm_go 1 (s' := (37, ([lR 56, lI p1, lI v2, none, none, none, none, none], ([sR 56], (mSH r tl, (G7, nk)))))) ?_ rfl
      refine sm_callG (rest := []) (T_X11_startsPlan scr (d + 4) r tl nk G7) rfl (Or.inl rfl) rfl rfl rfl rfl (fun _ => rfl) (fun G8 => (40, ([lR 56, lI p1, lI v2, none, none, none, none, none], ([], (mSH r tl, (G8, nk)))))) (fun _ => rfl) fun G8 => ?_
      refine sm_go 2 (s' := (42, ([lR 56, lI p1, lI v2, none, none, none, none, none], ([sI p1, sR 56], (mSH r tl, (G8, nk)))))) ?_ rfl
      refine sm_callG (rest := []) (T_X11_valueOf scr (d + 4) r tl nk G8 p1) rfl (Or.inl rfl) rfl rfl rfl rfl (fun _ => rfl) (fun v9 => (45, ([lR 56, lI p1, lI v2, none, none, none, none, none], ([sI v9], (mSH r tl, (G8, nk)))))) (fun _ => rfl) fun v9 => ?_
      refine sm_letK1 (S := fun (g11 : Unit) (x10 : Int) => (55, ([lR 56, lI p1, lI v2, lI v9, none, none, none, none], ([sI x10], (mSH r tl, (G8, nk)))))) ?_ ?_
      · intro g11 x10
        refine sm_go 7 (s' := (66, ([lR 56, lI p1, lI v2, lI v9, lI x10, lI 0, none, none], ([sI (-1), sI 0, sR 67], (mSH r tl, (G8, nk)))))) ?_ rfl
        refine sm_ast rfl rfl fun G12 => ?_
        refine sm_letK2 (S := fun (g15 : Option mV × Option mV × Option mV × Option mV) (x13 : Int) (G14 : mG) => (210, ([lR 56, lI p1, lI v2, lI x13, g15.1, g15.2.1, g15.2.2.1, g15.2.2.2], ([], (mSH r tl, (G14, nk)))))) ?_ ?_
        · intro g15 x13 G14
          refine sm_go 1 (s' := (211, ([lR 56, lI p1, lI v2, lI x13, g15.1, g15.2.1, g15.2.2.1, g15.2.2.2], ([sR 56], (mSH r tl, (G14, nk)))))) ?_ rfl
          refine sm_callG (rest := []) (T_X11_startsPlan scr (d + 4) r tl nk G14) rfl (Or.inl rfl) rfl rfl rfl rfl (fun _ => rfl) (fun G16 => (214, ([lR 56, lI p1, lI v2, lI x13, g15.1, g15.2.1, g15.2.2.1, g15.2.2.2], ([], (mSH r tl, (G16, nk)))))) (fun _ => rfl) fun G16 => ?_
          refine sm_go 1 (s' := (215, ([lR 56, lI p1, lI v2, lI x13, g15.1, g15.2.1, g15.2.2.1, g15.2.2.2], ([sR 56], (mSH r tl, (G16, nk)))))) ?_ rfl
          refine sm_callG (rest := []) (T_X11_clearsOrder scr (d + 5) r tl nk G16) rfl (Or.inl rfl) rfl rfl rfl rfl (fun _ => rfl) (fun G17 => (218, ([lR 56, lI p1, lI v2, lI x13, g15.1, g15.2.1, g15.2.2.1, g15.2.2.2], ([], (mSH r tl, (G17, nk)))))) (fun _ => rfl) fun G17 => ?_
          refine sm_go 2 (s' := (221, ([lR 56, lI p1, lI v2, lI x13, g15.1, (mNar g15.2.1), lI 0, g15.2.2.2], ([], (mSH r tl, (G17, nk)))))) ?_ rfl
          refine sm_letK1 (S := fun (g19 : Option mV × Option mV) (G18 : mG) => (260, ([lR 56, lI p1, lI v2, lI x13, g15.1, g19.1, g19.2, g15.2.2.2], ([], (mSH r tl, (G18, nk)))))) ?_ ?_
          · intro g19 G18
            refine sm_go 1 (s' := (261, ([lR 56, lI p1, lI v2, lI x13, g15.1, g19.1, g19.2, g15.2.2.2], ([sR 56], (mSH r tl, (G18, nk)))))) ?_ rfl
            refine sm_callG (rest := []) (T_X11_takesOrder scr d r tl nk G18) rfl (Or.inl rfl) rfl rfl rfl rfl (fun _ => rfl) (fun z20 => (264, ([lR 56, lI p1, lI v2, lI x13, g15.1, g19.1, g19.2, g15.2.2.2], ([sI z20.1], (mSH r tl, (z20.2, nk)))))) (fun _ => rfl) fun z20 => ?_
            refine sm_go 2 (s' := (267, ([lR 56, lI p1, lI v2, lI x13, g15.1, (mNar g19.1), lI z20.1, g15.2.2.2], ([sI x13], (mSH r tl, (z20.2, nk)))))) ?_ rfl
            exact sm_retI rfl rfl rfl
          · intro k21 hk21
            refine sm_loop2 (S := fun (g24 : Option mV) (x22 : Int) (G23 : mG) => (221, ([lR 56, lI p1, lI v2, lI x13, g15.1, g24, lI x22, g15.2.2.2], ([], (mSH r tl, (G23, nk)))))) ?_ LF ((mNar g15.2.1)) 0 G17
            intro again25 hagain25 g24 x22 G23
            refine sm_go 2 (s' := (224, ([lR 56, lI p1, lI v2, lI x13, g15.1, g24, lI x22, g15.2.2.2], ([sI v2, sI x22], (mSH r tl, (G23, nk)))))) ?_ rfl
            refine sm_if2n (t := (ilt x22 v2)) (pt := 260) rfl rfl rfl (fun _ => ?_) (fun _ => ?_)
            · refine sm_go 4 (s' := (234, ([lR 56, lI p1, lI v2, lI x13, g15.1, g24, lI x22, g15.2.2.2], ([sI x22, sR 69, sR 56], (mSH r tl, (G23, nk)))))) ?_ rfl
              refine sm_ald rfl rfl fun v26 => ?_
              refine sm_callG (rest := []) (T_X11_puts scr (d + 3) r tl nk G23 v26) rfl (Or.inl rfl) rfl rfl rfl rfl (fun _ => rfl) (fun G27 => (238, ([lR 56, lI p1, lI v2, lI x13, g15.1, g24, lI x22, g15.2.2.2], ([], (mSH r tl, (G27, nk)))))) (fun _ => rfl) fun G27 => ?_
              refine sm_go 5 (s' := (248, ([lR 56, lI p1, lI v2, lI x13, g15.1, g24, lI x22, g15.2.2.2], ([sI x22, sR 69, sR 60], (mSH r tl, (G27, nk)))))) ?_ rfl
              refine sm_ald rfl rfl fun v28 => ?_
              refine sm_go 1 (s' := (250, ([lR 56, lI p1, lI v2, lI x13, g15.1, g24, lI x22, g15.2.2.2], ([sI v28, sR 60, sI v28, sR 60], (mSH r tl, (G27, nk)))))) ?_ rfl
              refine sm_ald rfl rfl fun v29 => ?_
              refine sm_go 2 (s' := (253, ([lR 56, lI p1, lI v2, lI x13, g15.1, g24, lI x22, g15.2.2.2], ([sI (v29 + 1), sI v28, sR 60], (mSH r tl, (G27, nk)))))) ?_ rfl
              refine sm_ast rfl rfl fun G30 => ?_
              exact sm_go 2 (hagain25 ((mNar g24)) (x22 + 1) G30) rfl
            · exact hk21 (g24, lI x22) G23
        · intro k31 hk31
          refine sm_loop4 (S := fun (g36 : Option mV × Option mV) (x32 : Int) (x33 : Int) (x34 : Int) (G35 : mG) => (67, ([lR 56, lI p1, lI v2, lI x32, lI x33, lI x34, g36.1, g36.2], ([], (mSH r tl, (G35, nk)))))) ?_ LF (none, none) v9 x10 0 G12
          intro again37 hagain37 g36 x32 x33 x34 G35
          refine sm_go 1 (s' := (69, ([lR 56, lI p1, lI v2, lI x32, lI x33, lI x34, g36.1, g36.2], ([sI x34], (mSH r tl, (G35, nk)))))) ?_ rfl
          refine sm_if1 (t := (ilt x34 0)) (pt := 210) rfl rfl rfl (fun _ => ?_) (fun _ => ?_)
          · exact hk31 (lI x33, lI x34, g36.1, g36.2) x32 G35
          · refine sm_go 1 (s' := (73, ([lR 56, lI p1, lI v2, lI x32, lI x33, lI x34, g36.1, g36.2], ([sI v2], (mSH r tl, (G35, nk)))))) ?_ rfl
            refine sm_if1n (t := (ilt 0 v2)) (pt := 210) rfl rfl rfl (fun _ => ?_) (fun _ => ?_)
            · refine sm_go 4 (s' := (83, ([lR 56, lI p1, lI v2, lI x32, lI x33, lI x34, g36.1, g36.2], ([sI x34, sR 67, sR 56], (mSH r tl, (G35, nk)))))) ?_ rfl
              refine sm_ald rfl rfl fun v38 => ?_
              refine sm_callG (rest := []) (T_X11_nextJob scr (d + 4) r tl nk G35 v38) rfl (Or.inl rfl) rfl rfl rfl rfl (fun _ => rfl) (fun v39 => (87, ([lR 56, lI p1, lI v2, lI x32, lI x33, lI x34, g36.1, g36.2], ([sI v39], (mSH r tl, (G35, nk)))))) (fun _ => rfl) fun v39 => ?_
              refine sm_go 3 (s' := (92, ([lR 56, lI p1, lI v2, lI x32, lI x33, lI x34, lI v39, g36.2], ([sI (-1), sI v39], (mSH r tl, (G35, nk)))))) ?_ rfl
              refine sm_if2n (t := (ieq v39 (-1))) (pt := 112) rfl rfl rfl (fun _ => ?_) (fun _ => ?_)
              · refine sm_go 2 (s' := (100, ([lR 56, lI p1, lI v2, lI x32, lI x33, lI (x34 + (-1)), lI v39, g36.2], ([sI (x34 + (-1))], (mSH r tl, (G35, nk)))))) ?_ rfl
                refine sm_if1 (t := (ilt (x34 + (-1)) 0)) (pt := 67) rfl rfl rfl (fun _ => ?_) (fun _ => ?_)
                · exact hagain37 (lI v39, g36.2) x32 x33 (x34 + (-1)) G35
                · refine sm_go 2 (s' := (106, ([lR 56, lI p1, lI v2, lI x32, lI x33, lI (x34 + (-1)), lI v39, g36.2], ([sI (x34 + (-1)), sR 56], (mSH r tl, (G35, nk)))))) ?_ rfl
                  refine sm_callG (rest := []) (T_X11_takesBack scr (d + 3) r tl nk G35 (x34 + (-1))) rfl (Or.inl rfl) rfl rfl rfl rfl (fun _ => rfl) (fun G55 => (109, ([lR 56, lI p1, lI v2, lI x32, lI x33, lI (x34 + (-1)), lI v39, g36.2], ([], (mSH r tl, (G55, nk)))))) (fun _ => rfl) fun G55 => ?_
                  exact sm_go 1 (hagain37 (lI v39, g36.2) x32 x33 (x34 + (-1)) G55) rfl
              · refine sm_go 3 (s' := (117, ([lR 56, lI p1, lI v2, lI x32, lI x33, lI x34, lI v39, g36.2], ([sI v39, sI x34, sR 56], (mSH r tl, (G35, nk)))))) ?_ rfl
                refine sm_callG (rest := []) (T_X11_remembers scr (d + 3) r tl nk G35 x34 v39) rfl (Or.inl rfl) rfl rfl rfl rfl (fun _ => rfl) (fun G40 => (120, ([lR 56, lI p1, lI v2, lI x32, lI x33, lI x34, lI v39, g36.2], ([], (mSH r tl, (G40, nk)))))) (fun _ => rfl) fun G40 => ?_
                refine sm_go 4 (s' := (128, ([lR 56, lI p1, lI v2, lI x32, lI x33, lI x34, lI v39, g36.2], ([sI v39, sI x34, sR 67], (mSH r tl, (G40, nk)))))) ?_ rfl
                refine sm_ast rfl rfl fun G41 => ?_
                refine sm_go 4 (s' := (135, ([lR 56, lI p1, lI v2, lI x32, lI x33, lI x34, lI v39, g36.2], ([sI v39, sR 56, sI v39, sR 56], (mSH r tl, (G41, nk)))))) ?_ rfl
                refine sm_callG (rest := [sI v39, sR 56]) (T_X11_beginOf scr (d + 3) r tl nk G41 v39) rfl (Or.inl rfl) rfl rfl rfl rfl (fun _ => rfl) (fun v42 => (138, ([lR 56, lI p1, lI v2, lI x32, lI x33, lI x34, lI v39, g36.2], ([sI v42, sI v39, sR 56], (mSH r tl, (G41, nk)))))) (fun _ => rfl) fun v42 => ?_
                refine sm_callG (rest := []) (T_X11_does scr (d + 3) r tl nk G41 v39 v42) rfl (Or.inl rfl) rfl rfl rfl rfl (fun _ => rfl) (fun G43 => (141, ([lR 56, lI p1, lI v2, lI x32, lI x33, lI x34, lI v39, g36.2], ([], (mSH r tl, (G43, nk)))))) (fun _ => rfl) fun G43 => ?_
                refine sm_go 4 (s' := (146, ([lR 56, lI p1, lI v2, lI x32, lI x33, lI x34, lI v39, g36.2], ([sI v2, sI (x34 + 1)], (mSH r tl, (G43, nk)))))) ?_ rfl
                refine sm_if2n (t := (ilt (x34 + 1) v2)) (pt := 163) rfl rfl rfl (fun _ => ?_) (fun _ => ?_)
                · refine sm_go 5 (s' := (159, ([lR 56, lI p1, lI v2, lI x32, lI x33, lI (x34 + 1), lI v39, g36.2], ([sI (-1), sI (x34 + 1), sR 67], (mSH r tl, (G43, nk)))))) ?_ rfl
                  refine sm_ast rfl rfl fun G54 => ?_
                  exact sm_go 1 (hagain37 (lI v39, g36.2) x32 x33 (x34 + 1) G54) rfl
                · refine sm_go 2 (s' := (165, ([lR 56, lI p1, lI v2, lI x32, lI x33, lI x34, lI v39, g36.2], ([sI p1, sR 56], (mSH r tl, (G43, nk)))))) ?_ rfl
                  refine sm_callG (rest := []) (T_X11_valueOf scr (d + 4) r tl nk G43 p1) rfl (Or.inl rfl) rfl rfl rfl rfl (fun _ => rfl) (fun v44 => (168, ([lR 56, lI p1, lI v2, lI x32, lI x33, lI x34, lI v39, g36.2], ([sI v44], (mSH r tl, (G43, nk)))))) (fun _ => rfl) fun v44 => ?_
                  refine sm_letK3 (S := fun (g48 : Unit) (x45 : Int) (x46 : Int) (G47 : mG) => (201, ([lR 56, lI p1, lI v2, lI x45, lI x46, lI x34, lI v39, lI v44], ([], (mSH r tl, (G47, nk)))))) ?_ ?_
                  · intro g48 x45 x46 G47
                    refine sm_go 2 (s' := (204, ([lR 56, lI p1, lI v2, lI x45, lI x46, lI x34, lI v39, lI v44], ([sI x34, sR 56], (mSH r tl, (G47, nk)))))) ?_ rfl
                    refine sm_callG (rest := []) (T_X11_takesBack scr (d + 3) r tl nk G47 x34) rfl (Or.inl rfl) rfl rfl rfl rfl (fun _ => rfl) (fun G49 => (207, ([lR 56, lI p1, lI v2, lI x45, lI x46, lI x34, lI v39, lI v44], ([], (mSH r tl, (G49, nk)))))) (fun _ => rfl) fun G49 => ?_
                    exact sm_go 1 (hagain37 (lI v39, lI v44) x45 x46 x34 G49) rfl
                  · intro k50 hk50
                    refine sm_letK0 (S := fun (g51 : Unit) => (181, ([lR 56, lI p1, lI v2, lI x32, lI x33, lI x34, lI v39, lI v44], ([], (mSH r tl, (G43, nk)))))) ?_ ?_
                    · intro g51
                      refine sm_go 11 (s' := (198, ([lR 56, lI p1, lI v2, lI v44, lI 1, lI x34, lI v39, lI v44], ([sI v2, sI 0, sR 69, sI 0, sR 67], (mSH r tl, (G43, nk)))))) ?_ rfl
                      refine sm_acp rfl rfl rfl rfl fun G52 => ?_
                      exact hk50 () v44 1 G52
                    · intro k53 hk53
                      refine sm_go 2 (s' := (172, ([lR 56, lI p1, lI v2, lI x32, lI x33, lI x34, lI v39, lI v44], ([sI x33], (mSH r tl, (G43, nk)))))) ?_ rfl
                      refine sm_if1 (t := (ieq x33 0)) (pt := 181) rfl rfl rfl (fun _ => ?_) (fun _ => ?_)
                      · exact hk53 ()
                      · refine sm_go 2 (s' := (178, ([lR 56, lI p1, lI v2, lI x32, lI x33, lI x34, lI v39, lI v44], ([sI x32, sI v44], (mSH r tl, (G43, nk)))))) ?_ rfl
                        refine sm_if2n (t := (ilt v44 x32)) (pt := 201) rfl rfl rfl (fun _ => ?_) (fun _ => ?_)
                        · exact hk53 ()
                        · exact hk50 () x32 x33 G43
            · exact hk31 (lI x33, lI x34, g36.1, g36.2) x32 G35
      · intro k56 hk56
        refine sm_go 2 (s' := (47, ([lR 56, lI p1, lI v2, lI v9, none, none, none, none], ([sI v2], (mSH r tl, (G8, nk)))))) ?_ rfl
        refine sm_if1n (t := (ieq v2 0)) (pt := 54) rfl rfl rfl (fun _ => ?_) (fun _ => ?_)
        · exact sm_go 2 (hk56 () 1) rfl
        · exact sm_go 1 (hk56 () 0) rfl
    · refine sm_go 1 (s' := (31, ([lR 56, lI p1, lI v2, none, none, none, none, none], ([sI 0], (mSH r tl, (z6.2, nk)))))) ?_ rfl
      exact sm_retI rfl rfl rfl
  · intro k57 hk57
    refine sm_go 2 (s' := (15, ([lR 56, lI p1, lI v2, none, none, none, none, none], ([sI 8, sI v2, sI (b2i v3), sR 56], (mSH r tl, (G, nk)))))) ?_ rfl
    refine sm_if2 (t := (ilt 8 v2)) (pt := 22) rfl rfl rfl (fun _ => ?_) (fun _ => ?_)
    · exact sm_go 1 (hk57 () 0) rfl
    · exact sm_go 2 (hk57 () 1) rfl
def P_X8_nextOf (t : Nat) (G : mG) : Option (Int) :=
loop1 LF (fun again3 (x1 : Int) =>
bif (ilt x1 (G 1 0)) then
(P_X8_hasLeft t x1 G).bind fun v4 =>
letK (again3 (x1 + 1)) fun k6 =>
bif v4 then
(P_X8_nextStep t x1 G).bind fun v7 =>
(ald G 7 30 v7).bind fun v8 =>
(ald G (t+3) 4 v8).bind fun v9 =>
(ald G 37 120 ((v8 * 30) + v9)).bind fun v10 =>
bif (ieq v10 v7) then
some x1
else
k6
else
k6
else
some (-1)) 0
set_option maxRecDepth 100000 in
theorem T_X8_nextOf_26 (scr : mScr) (d : Nat) (r : List (Option Nat)) (tl : List mSh) (nk : Nat × Nat) (G : mG)  : SimC scr (d + 2) 65 [sR 26, sR 37] (mSH r tl, (G, nk)) (e0I (mSH r tl, (G, nk))) (P_X8_nextOf 26 G) := by
  refine sm_callX (cs := mc_X8_nextOf) (maxL := 5) (rk := 0) (o := 8) (hs := []) (d := d + 1) [lR 26, lR 37, none, none, none] rfl rfl rfl rfl ?_
  unfold P_X8_nextOf
  refine sm_go 2 (s' := (2, ([lR 26, lR 37, lI 0, none, none], ([], (mSH r tl, (G, nk)))))) ?_ rfl
  refine sm_loop1 (S := fun (g2 : Option mV × Option mV) (x1 : Int) => (2, ([lR 26, lR 37, lI x1, g2.1, g2.2], ([], (mSH r tl, (G, nk)))))) ?_ LF (none, none) 0
  intro again3 hagain3 g2 x1
  refine sm_go 4 (s' := (10, ([lR 26, lR 37, lI x1, g2.1, g2.2], ([sI (G 1 0), sI x1], (mSH r tl, (G, nk)))))) ?_ rfl
  refine sm_if2n (t := (ilt x1 (G 1 0))) (pt := 65) rfl rfl rfl (fun _ => ?_) (fun _ => ?_)
  · refine sm_go 2 (s' := (15, ([lR 26, lR 37, lI x1, g2.1, g2.2], ([sI x1, sR 26], (mSH r tl, (G, nk)))))) ?_ rfl
    refine sm_callG (rest := []) (T_X8_hasLeft_26 scr d r tl nk G x1) rfl (Or.inl rfl) rfl rfl rfl rfl (fun _ => rfl) (fun v4 => (18, ([lR 26, lR 37, lI x1, g2.1, g2.2], ([sI (b2i v4)], (mSH r tl, (G, nk)))))) (fun _ => rfl) fun v4 => ?_
    refine sm_letK0 (S := fun (g5 : Option mV × Option mV) => (59, ([lR 26, lR 37, lI x1, g5.1, g5.2], ([], (mSH r tl, (G, nk)))))) ?_ ?_
    · intro g5
      exact sm_go 2 (hagain3 (g5.1, g5.2) (x1 + 1)) rfl
    · intro k6 hk6
      refine sm_if1n (t := v4) (pt := 59) (mCmpB_eq v4) rfl rfl (fun _ => ?_) (fun _ => ?_)
      · refine sm_go 2 (s' := (23, ([lR 26, lR 37, lI x1, g2.1, g2.2], ([sI x1, sR 26], (mSH r tl, (G, nk)))))) ?_ rfl
        refine sm_callG (rest := []) (T_X8_nextStep_26 scr d r tl nk G x1) rfl (Or.inl rfl) rfl rfl rfl rfl (fun _ => rfl) (fun v7 => (26, ([lR 26, lR 37, lI x1, g2.1, g2.2], ([sI v7], (mSH r tl, (G, nk)))))) (fun _ => rfl) fun v7 => ?_
        refine sm_go 5 (s' := (35, ([lR 26, lR 37, lI x1, lI v7, g2.2], ([sI v7, sR 7], (mSH r tl, (G, nk)))))) ?_ rfl
        refine sm_ald rfl rfl fun v8 => ?_
        refine sm_go 8 (s' := (50, ([lR 26, lR 37, lI x1, lI v7, lI v8], ([sI v8, sR 29, sI (v8 * 30), sR 37], (mSH r tl, (G, nk)))))) ?_ rfl
        refine sm_ald rfl rfl fun v9 => ?_
        refine sm_go 1 (s' := (52, ([lR 26, lR 37, lI x1, lI v7, lI v8], ([sI ((v8 * 30) + v9), sR 37], (mSH r tl, (G, nk)))))) ?_ rfl
        refine sm_ald rfl rfl fun v10 => ?_
        refine sm_go 1 (s' := (54, ([lR 26, lR 37, lI x1, lI v7, lI v8], ([sI v7, sI v10], (mSH r tl, (G, nk)))))) ?_ rfl
        refine sm_if2n (t := (ieq v10 v7)) (pt := 59) rfl rfl rfl (fun _ => ?_) (fun _ => ?_)
        · refine sm_go 1 (s' := (58, ([lR 26, lR 37, lI x1, lI v7, lI v8], ([sI x1], (mSH r tl, (G, nk)))))) ?_ rfl
          exact sm_retI rfl rfl rfl
        · exact hk6 (lI v7, lI v8)
      · exact hk6 (g2.1, g2.2)
  · refine sm_go 1 (s' := (66, ([lR 26, lR 37, lI x1, g2.1, g2.2], ([sI (-1)], (mSH r tl, (G, nk)))))) ?_ rfl
    exact sm_retI rfl rfl rfl
def P_X10_putSwapped (p1 : Int) (p2 : Int) (G : mG) : Option (Bool × mG) :=
(acp G 21 120 0 37 120 0 120).bind fun G3 =>
(ald G3 21 120 (((p1 * 30) + p2) + 1)).bind fun v4 =>
(ast G3 37 120 ((p1 * 30) + p2) v4).bind fun G5 =>
(ald G5 21 120 ((p1 * 30) + p2)).bind fun v6 =>
(ast G5 37 120 (((p1 * 30) + p2) + 1) v6).bind fun G7 =>
(P_X8_clear 26 G7).bind fun G8 =>
(P_X7_stepTotal G8).bind fun v9 =>
loop2 LF (fun again13 (x10 : Int) (G11 : mG) =>
bif (ilt x10 v9) then
(P_X8_nextOf 26 G11).bind fun v14 =>
bif (ieq v14 (-1)) then
some (false, G11)
else
(P_X8_put 26 v14 0 G11).bind fun G15 =>
again13 (x10 + 1) G15
else
some (true, G11)) 0 G8
set_option maxRecDepth 100000 in
theorem T_X10_putSwapped (scr : mScr) (d : Nat) (r : List (Option Nat)) (tl : List mSh) (nk : Nat × Nat) (G : mG)  (p1 : Int) (p2 : Int) : SimC scr (d + 5) 135 [sR 0, sI p1, sI p2] (mSH r tl, (G, nk)) (e1B r tl nk) (P_X10_putSwapped p1 p2 G) := by
  refine sm_callX (cs := mc_X10_putSwapped) (maxL := 7) (rk := 1) (o := 10) (hs := []) (d := d + 4) [lR 0, lI p1, lI p2, none, none, none, none] rfl rfl rfl rfl ?_
  unfold P_X10_putSwapped
  refine sm_go 10 (s' := (18, ([lR 0, lI p1, lI p2, none, none, none, none], ([sI 120, sI 0, sR 37, sI 0, sR 21], (mSH r tl, (G, nk)))))) ?_ rfl
  refine sm_acp rfl rfl rfl rfl fun G3 => ?_
  refine sm_go 15 (s' := (43, ([lR 0, lI p1, lI p2, lI ((p1 * 30) + p2), none, none, none], ([sI (((p1 * 30) + p2) + 1), sR 21, sI ((p1 * 30) + p2), sR 37], (mSH r tl, (G3, nk)))))) ?_ rfl
  refine sm_ald rfl rfl fun v4 => ?_
  refine sm_ast rfl rfl fun G5 => ?_
  refine sm_go 9 (s' := (60, ([lR 0, lI p1, lI p2, lI ((p1 * 30) + p2), none, none, none], ([sI ((p1 * 30) + p2), sR 21, sI (((p1 * 30) + p2) + 1), sR 37], (mSH r tl, (G5, nk)))))) ?_ rfl
  refine sm_ald rfl rfl fun v6 => ?_
  refine sm_ast rfl rfl fun G7 => ?_
  refine sm_go 2 (s' := (66, ([lR 0, lI p1, lI p2, lI ((p1 * 30) + p2), none, none, none], ([sR 26], (mSH r tl, (G7, nk)))))) ?_ rfl
  refine sm_callG (rest := []) (T_X8_clear_26 scr (d + 2) r tl nk G7) rfl (Or.inl rfl) rfl rfl rfl rfl (fun _ => rfl) (fun G8 => (69, ([lR 0, lI p1, lI p2, lI ((p1 * 30) + p2), none, none, none], ([], (mSH r tl, (G8, nk)))))) (fun _ => rfl) fun G8 => ?_
  refine sm_go 2 (s' := (73, ([lR 0, lI p1, lI p2, lI ((p1 * 30) + p2), none, none, none], ([sR 1], (mSH r tl, (G8, nk)))))) ?_ rfl
  refine sm_callG (rest := []) (T_X7_stepTotal scr (d + 3) r tl nk G8) rfl (Or.inl rfl) rfl rfl rfl rfl (fun _ => rfl) (fun v9 => (76, ([lR 0, lI p1, lI p2, lI ((p1 * 30) + p2), none, none, none], ([sI v9], (mSH r tl, (G8, nk)))))) (fun _ => rfl) fun v9 => ?_
  refine sm_go 3 (s' := (81, ([lR 0, lI p1, lI p2, lI ((p1 * 30) + p2), lI v9, lI 0, none], ([], (mSH r tl, (G8, nk)))))) ?_ rfl
  refine sm_loop2 (S := fun (g12 : Option mV) (x10 : Int) (G11 : mG) => (81, ([lR 0, lI p1, lI p2, lI ((p1 * 30) + p2), lI v9, lI x10, g12], ([], (mSH r tl, (G11, nk)))))) ?_ LF (none) 0 G8
  intro again13 hagain13 g12 x10 G11
  refine sm_go 2 (s' := (85, ([lR 0, lI p1, lI p2, lI ((p1 * 30) + p2), lI v9, lI x10, g12], ([sI v9, sI x10], (mSH r tl, (G11, nk)))))) ?_ rfl
  refine sm_if2n (t := (ilt x10 v9)) (pt := 125) rfl rfl rfl (fun _ => ?_) (fun _ => ?_)
  · refine sm_go 4 (s' := (96, ([lR 0, lI p1, lI p2, lI ((p1 * 30) + p2), lI v9, lI x10, g12], ([sR 37, sR 26], (mSH r tl, (G11, nk)))))) ?_ rfl
    refine sm_callG (rest := []) (T_X8_nextOf_26 scr (d + 2) r tl nk G11) rfl (Or.inl rfl) rfl rfl rfl rfl (fun _ => rfl) (fun v14 => (99, ([lR 0, lI p1, lI p2, lI ((p1 * 30) + p2), lI v9, lI x10, g12], ([sI v14], (mSH r tl, (G11, nk)))))) (fun _ => rfl) fun v14 => ?_
    refine sm_go 3 (s' := (104, ([lR 0, lI p1, lI p2, lI ((p1 * 30) + p2), lI v9, lI x10, lI v14], ([sI (-1), sI v14], (mSH r tl, (G11, nk)))))) ?_ rfl
    refine sm_if2n (t := (ieq v14 (-1))) (pt := 109) rfl rfl rfl (fun _ => ?_) (fun _ => ?_)
    · refine sm_go 1 (s' := (108, ([lR 0, lI p1, lI p2, lI ((p1 * 30) + p2), lI v9, lI x10, lI v14], ([sI 0], (mSH r tl, (G11, nk)))))) ?_ rfl
      exact sm_retB1 (b := false) rfl rfl
    · refine sm_go 4 (s' := (116, ([lR 0, lI p1, lI p2, lI ((p1 * 30) + p2), lI v9, lI x10, lI v14], ([sI 0, sI v14, sR 26], (mSH r tl, (G11, nk)))))) ?_ rfl
      refine sm_callG (rest := []) (T_X8_put_26 scr d r tl nk G11 v14 0) rfl (Or.inl rfl) rfl rfl rfl rfl (fun _ => rfl) (fun G15 => (119, ([lR 0, lI p1, lI p2, lI ((p1 * 30) + p2), lI v9, lI x10, lI v14], ([], (mSH r tl, (G15, nk)))))) (fun _ => rfl) fun G15 => ?_
      exact sm_go 2 (hagain13 (lI v14) (x10 + 1) G15) rfl
  · refine sm_go 1 (s' := (126, ([lR 0, lI p1, lI p2, lI ((p1 * 30) + p2), lI v9, lI x10, g12], ([sI 1], (mSH r tl, (G11, nk)))))) ?_ rfl
    exact sm_retB1 (b := true) rfl rfl
def P_X11_exchanges (p1 : Int) (G : mG) : Option (mG) :=
(ald G 57 282 p1).bind fun v2 =>
(ald G 57 282 (p1 + 1)).bind fun v3 =>
(ast G 57 282 p1 v3).bind fun G4 =>
(ast G4 57 282 (p1 + 1) v2).bind fun G5 =>
some G5
set_option maxRecDepth 100000 in
theorem T_X11_exchanges (scr : mScr) (d : Nat) (r : List (Option Nat)) (tl : List mSh) (nk : Nat × Nat) (G : mG)  (p1 : Int) : SimC scr (d + 1) 180 [sR 56, sI p1] (mSH r tl, (G, nk)) (e1U r tl nk) (P_X11_exchanges p1 G) := by
  refine sm_callX (cs := mc_X11_exchanges) (maxL := 3) (rk := 0) (o := 11) (hs := []) (d := d + 0) [lR 56, lI p1, none] rfl rfl rfl rfl ?_
  unfold P_X11_exchanges
  refine sm_go 3 (s' := (5, ([lR 56, lI p1, none], ([sI p1, sR 57], (mSH r tl, (G, nk)))))) ?_ rfl
  refine sm_ald rfl rfl fun v2 => ?_
  refine sm_go 9 (s' := (19, ([lR 56, lI p1, lI v2], ([sI (p1 + 1), sR 57, sI p1, sR 57], (mSH r tl, (G, nk)))))) ?_ rfl
  refine sm_ald rfl rfl fun v3 => ?_
  refine sm_ast rfl rfl fun G4 => ?_
  refine sm_go 6 (s' := (29, ([lR 56, lI p1, lI v2], ([sI v2, sI (p1 + 1), sR 57], (mSH r tl, (G4, nk)))))) ?_ rfl
  refine sm_ast rfl rfl fun G5 => ?_
  exact sm_retU rfl rfl
def P_X11_swap (p1 : Int) (p2 : Int) (G : mG) : Option (Int × mG) :=
(P_X11_in p1 0 3).bind fun v3 =>
letK (fun (x4 : Int) =>
letK (fun (x6 : Int) (G7 : mG) =>
(P_X11_fits x4 x6 1 G7).bind fun z9 =>
bif z9.1 then
(P_X11_keeps z9.2).bind fun G10 =>
(P_X11_exchanges (((152 + (p1 * 31)) + 1) + p2) G10).bind fun G11 =>
(P_X11_works G11).bind fun z12 =>
(P_X11_planEnd z12.2).bind fun v13 =>
some (v13, z12.2)
else
some (0, z9.2)) fun k14 =>
bif (ieq x4 0) then
k14 x4 G
else
(P_X11_exchanges (((152 + (p1 * 31)) + 1) + p2) G).bind fun G15 =>
(P_X11_works G15).bind fun z16 =>
(P_X11_exchanges (((152 + (p1 * 31)) + 1) + p2) z16.2).bind fun G17 =>
k14 (b2i z16.1) G17) fun k18 =>
letK (k18 0) fun k20 =>
bif v3 then
(ald G 57 282 (152 + (p1 * 31))).bind fun v21 =>
(P_X11_in p2 0 (v21 - 2)).bind fun v22 =>
bif v22 then
k18 1
else
k20
else
k20
set_option maxRecDepth 100000 in
theorem T_X11_swap (scr : mScr) (d : Nat) (r : List (Option Nat)) (tl : List mSh) (nk : Nat × Nat) (G : mG)  (p1 : Int) (p2 : Int) : SimC scr (d + 6) 181 [sR 56, sI p1, sI p2] (mSH r tl, (G, nk)) (e1I r tl nk) (P_X11_swap p1 p2 G) := by
  refine sm_callX (cs := mc_X11_swap) (maxL := 6) (rk := 0) (o := 11) (hs := []) (d := d + 5) [lR 56, lI p1, lI p2, none, none, none] rfl rfl rfl rfl ?_
  unfold P_X11_swap
  refine sm_go 3 (s' := (3, ([lR 56, lI p1, lI p2, none, none, none], ([sI 3, sI 0, sI p1], (mSH r tl, (G, nk)))))) ?_ rfl
  refine sm_callG (rest := []) (T_X11_in scr (d + 4) r tl nk G p1 0 3) rfl (Or.inr (Or.inl rfl)) rfl rfl rfl rfl (fun _ => rfl) (fun v3 => (6, ([lR 56, lI p1, lI p2, none, none, none], ([sI (b2i v3)], (mSH r tl, (G, nk)))))) (fun _ => rfl) fun v3 => ?_
  refine sm_letK1 (S := fun (g5 : Unit) (x4 : Int) => (37, ([lR 56, lI p1, lI p2, none, none, none], ([sI x4], (mSH r tl, (G, nk)))))) ?_ ?_
  · intro g5 x4
    refine sm_letK2 (S := fun (g8 : Option mV) (x6 : Int) (G7 : mG) => (77, ([lR 56, lI p1, lI p2, lI x4, lI x6, g8], ([], (mSH r tl, (G7, nk)))))) ?_ ?_
    · intro g8 x6 G7
      refine sm_go 4 (s' := (82, ([lR 56, lI p1, lI p2, lI x4, lI x6, g8], ([sI 1, sI x6, sI x4, sR 56], (mSH r tl, (G7, nk)))))) ?_ rfl
      refine sm_callG (rest := []) (T_X11_fits scr (d + 4) r tl nk G7 x4 x6 1) rfl (Or.inl rfl) rfl rfl rfl rfl (fun _ => rfl) (fun z9 => (85, ([lR 56, lI p1, lI p2, lI x4, lI x6, g8], ([sI (b2i z9.1)], (mSH r tl, (z9.2, nk)))))) (fun _ => rfl) fun z9 => ?_
      refine sm_if1 (t := z9.1) (pt := 90) (mCmpB_ne z9.1) rfl rfl (fun _ => ?_) (fun _ => ?_)
      · refine sm_go 1 (s' := (91, ([lR 56, lI p1, lI p2, lI x4, lI x6, g8], ([sR 56], (mSH r tl, (z9.2, nk)))))) ?_ rfl
        refine sm_callG (rest := []) (T_X11_keeps scr (d + 4) r tl nk z9.2) rfl (Or.inl rfl) rfl rfl rfl rfl (fun _ => rfl) (fun G10 => (94, ([lR 56, lI p1, lI p2, lI x4, lI x6, g8], ([], (mSH r tl, (G10, nk)))))) (fun _ => rfl) fun G10 => ?_
        refine sm_go 10 (s' := (107, ([lR 56, lI p1, lI p2, lI x4, lI x6, g8], ([sI (((152 + (p1 * 31)) + 1) + p2), sR 56], (mSH r tl, (G10, nk)))))) ?_ rfl
        refine sm_callG (rest := []) (T_X11_exchanges scr (d + 4) r tl nk G10 (((152 + (p1 * 31)) + 1) + p2)) rfl (Or.inl rfl) rfl rfl rfl rfl (fun _ => rfl) (fun G11 => (110, ([lR 56, lI p1, lI p2, lI x4, lI x6, g8], ([], (mSH r tl, (G11, nk)))))) (fun _ => rfl) fun G11 => ?_
        refine sm_go 1 (s' := (111, ([lR 56, lI p1, lI p2, lI x4, lI x6, g8], ([sR 56], (mSH r tl, (G11, nk)))))) ?_ rfl
        refine sm_callG (rest := []) (T_X11_works scr d r tl nk G11) rfl (Or.inl rfl) rfl rfl rfl rfl (fun _ => rfl) (fun z12 => (114, ([lR 56, lI p1, lI p2, lI x4, lI x6, g8], ([sI (b2i z12.1)], (mSH r tl, (z12.2, nk)))))) (fun _ => rfl) fun z12 => ?_
        refine sm_go 2 (s' := (117, ([lR 56, lI p1, lI p2, lI x4, lI (b2i z12.1), g8], ([sR 56], (mSH r tl, (z12.2, nk)))))) ?_ rfl
        refine sm_callG (rest := []) (T_X11_planEnd scr (d + 4) r tl nk z12.2) rfl (Or.inl rfl) rfl rfl rfl rfl (fun _ => rfl) (fun v13 => (120, ([lR 56, lI p1, lI p2, lI x4, lI (b2i z12.1), g8], ([sI v13], (mSH r tl, (z12.2, nk)))))) (fun _ => rfl) fun v13 => ?_
        exact sm_retI rfl rfl rfl
      · refine sm_go 1 (s' := (89, ([lR 56, lI p1, lI p2, lI x4, lI x6, g8], ([sI 0], (mSH r tl, (z9.2, nk)))))) ?_ rfl
        exact sm_retI rfl rfl rfl
    · intro k14 hk14
      refine sm_go 4 (s' := (42, ([lR 56, lI p1, lI p2, lI x4, lI x4, none], ([sI x4], (mSH r tl, (G, nk)))))) ?_ rfl
      refine sm_if1 (t := (ieq x4 0)) (pt := 77) rfl rfl rfl (fun _ => ?_) (fun _ => ?_)
      · exact hk14 (none) x4 G
      · refine sm_go 12 (s' := (62, ([lR 56, lI p1, lI p2, lI x4, lI x4, lI (((152 + (p1 * 31)) + 1) + p2)], ([sI (((152 + (p1 * 31)) + 1) + p2), sR 56], (mSH r tl, (G, nk)))))) ?_ rfl
        refine sm_callG (rest := []) (T_X11_exchanges scr (d + 4) r tl nk G (((152 + (p1 * 31)) + 1) + p2)) rfl (Or.inl rfl) rfl rfl rfl rfl (fun _ => rfl) (fun G15 => (65, ([lR 56, lI p1, lI p2, lI x4, lI x4, lI (((152 + (p1 * 31)) + 1) + p2)], ([], (mSH r tl, (G15, nk)))))) (fun _ => rfl) fun G15 => ?_
        refine sm_go 1 (s' := (66, ([lR 56, lI p1, lI p2, lI x4, lI x4, lI (((152 + (p1 * 31)) + 1) + p2)], ([sR 56], (mSH r tl, (G15, nk)))))) ?_ rfl
        refine sm_callG (rest := []) (T_X11_works scr d r tl nk G15) rfl (Or.inl rfl) rfl rfl rfl rfl (fun _ => rfl) (fun z16 => (69, ([lR 56, lI p1, lI p2, lI x4, lI x4, lI (((152 + (p1 * 31)) + 1) + p2)], ([sI (b2i z16.1)], (mSH r tl, (z16.2, nk)))))) (fun _ => rfl) fun z16 => ?_
        refine sm_go 3 (s' := (74, ([lR 56, lI p1, lI p2, lI x4, lI (b2i z16.1), lI (((152 + (p1 * 31)) + 1) + p2)], ([sI (((152 + (p1 * 31)) + 1) + p2), sR 56], (mSH r tl, (z16.2, nk)))))) ?_ rfl
        refine sm_callG (rest := []) (T_X11_exchanges scr (d + 4) r tl nk z16.2 (((152 + (p1 * 31)) + 1) + p2)) rfl (Or.inl rfl) rfl rfl rfl rfl (fun _ => rfl) (fun G17 => (77, ([lR 56, lI p1, lI p2, lI x4, lI (b2i z16.1), lI (((152 + (p1 * 31)) + 1) + p2)], ([], (mSH r tl, (G17, nk)))))) (fun _ => rfl) fun G17 => ?_
        exact hk14 (lI (((152 + (p1 * 31)) + 1) + p2)) (b2i z16.1) G17
  · intro k18 hk18
    refine sm_letK0 (S := fun (g19 : Unit) => (36, ([lR 56, lI p1, lI p2, none, none, none], ([], (mSH r tl, (G, nk)))))) ?_ ?_
    · intro g19
      exact sm_go 1 (hk18 () 0) rfl
    · intro k20 hk20
      refine sm_if1n (t := v3) (pt := 36) (mCmpB_eq v3) rfl rfl (fun _ => ?_) (fun _ => ?_)
      · refine sm_go 9 (s' := (23, ([lR 56, lI p1, lI p2, none, none, none], ([sI (152 + (p1 * 31)), sR 57, sI 0, sI p2], (mSH r tl, (G, nk)))))) ?_ rfl
        refine sm_ald rfl rfl fun v21 => ?_
        refine sm_go 2 (s' := (26, ([lR 56, lI p1, lI p2, none, none, none], ([sI (v21 - 2), sI 0, sI p2], (mSH r tl, (G, nk)))))) ?_ rfl
        refine sm_callG (rest := []) (T_X11_in scr (d + 4) r tl nk G p2 0 (v21 - 2)) rfl (Or.inr (Or.inl rfl)) rfl rfl rfl rfl (fun _ => rfl) (fun v22 => (29, ([lR 56, lI p1, lI p2, none, none, none], ([sI (b2i v22)], (mSH r tl, (G, nk)))))) (fun _ => rfl) fun v22 => ?_
        refine sm_if1n (t := v22) (pt := 36) (mCmpB_eq v22) rfl rfl (fun _ => ?_) (fun _ => ?_)
        · exact sm_go 2 (hk18 () 1) rfl
        · exact hk20 ()
      · exact hk20 ()
noncomputable def P_X10_needPlan (W : mW) : Option ((Unit ⊕ Nat) × mW) :=
bif (ieq (W.2.2.1 1 15) 0) then
some (.inr 2, (W.1, (W.2.1, (W.2.2.1, (W.2.2.2.1 + 1, W.2.2.2.2 + 6)))))
else
some (.inl (), W)
set_option maxRecDepth 100000 in
theorem T_X10_needPlan (scr : mScr) (d : Nat) (W : mW)  : SimC scr (d + 1) 129 [sR 0] (mkM W) (e2U) (P_X10_needPlan W) := by
  refine sm_callX (cs := mc_X10_needPlan) (maxL := 1) (rk := 0) (o := 10) (hs := []) (d := d + 0) [lR 0] rfl rfl rfl rfl ?_
  unfold P_X10_needPlan
  refine sm_go 3 (s' := (7, ([lR 0], ([sI (W.2.2.1 1 15)], (mSH W.1 W.2.1, (W.2.2.1, W.2.2.2)))))) ?_ rfl
  refine sm_if1n (t := (ieq (W.2.2.1 1 15) 0)) (pt := 21) rfl rfl rfl (fun _ => ?_) (fun _ => ?_)
  · exact sm_exc rfl rfl rfl rfl
  · exact sm_retU rfl rfl
