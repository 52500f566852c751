/-! ===== programs as functions, 25 10: printed by wip/whole/gen/gen_p_out.py ===== -/
def P_X11_laysRow (p1 : Int) (G : mG) : Option (mG) :=
loop2 LF (fun again5 (x2 : Int) (G3 : mG) =>
(ald G3 57 282 0).bind fun v6 =>
bif (ilt x2 v6) then
letK (fun (x7 : Int) =>
(ast G3 70 6 x7 x2).bind fun G9 =>
again5 (x2 + 1) G9) fun k10 =>
loop2 LF (fun again14 (x11 : Int) (x12 : Int) =>
(ald G3 57 282 0).bind fun v15 =>
bif (ilt x12 v15) then
letK (fun (x16 : Int) =>
again14 (x11 + x16) (x12 + 1)) fun k18 =>
letK (k18 0) fun k20 =>
bif (ieq x12 x2) then
k20
else
(P_X11_goesFirst p1 x12 x2 G3).bind fun v21 =>
bif v21 then
k18 1
else
k20
else
k10 x11) 0 0
else
some G3) 0 G
set_option maxRecDepth 100000 in
theorem T_X11_laysRow (scr : mScr) (d : Nat) (r : List (Option Nat)) (tl : List mSh) (nk : Nat × Nat) (G : mG)  (p1 : Int) : SimC scr (d + 6) 212 [sR 56, sI p1] (mSH r tl, (G, nk)) (e1U r tl nk) (P_X11_laysRow p1 G) := by
  refine sm_callX (cs := mc_X11_laysRow) (maxL := 5) (rk := 0) (o := 11) (hs := []) (d := d + 5) [lR 56, lI p1, none, none, none] rfl rfl rfl rfl ?_
  unfold P_X11_laysRow
  refine sm_go 2 (s' := (2, ([lR 56, lI p1, lI 0, none, none], ([], (mSH r tl, (G, nk)))))) ?_ rfl
  refine sm_loop2 (S := fun (g4 : Option mV × Option mV) (x2 : Int) (G3 : mG) => (2, ([lR 56, lI p1, lI x2, g4.1, g4.2], ([], (mSH r tl, (G3, nk)))))) ?_ LF (none, none) 0 G
  intro again5 hagain5 g4 x2 G3
  refine sm_go 4 (s' := (8, ([lR 56, lI p1, lI x2, g4.1, g4.2], ([sI 0, sR 57, sI x2], (mSH r tl, (G3, nk)))))) ?_ rfl
  refine sm_ald rfl rfl fun v6 => ?_
  refine sm_if2n (t := (ilt x2 v6)) (pt := 72) rfl rfl rfl (fun _ => ?_) (fun _ => ?_)
  · refine sm_go 4 (s' := (17, ([lR 56, lI p1, lI x2, lI 0, lI 0], ([], (mSH r tl, (G3, nk)))))) ?_ rfl
    refine sm_letK1 (S := fun (g8 : Option mV) (x7 : Int) => (59, ([lR 56, lI p1, lI x2, lI x7, g8], ([], (mSH r tl, (G3, nk)))))) ?_ ?_
    · intro g8 x7
      refine sm_go 4 (s' := (65, ([lR 56, lI p1, lI x2, lI x7, g8], ([sI x2, sI x7, sR 70], (mSH r tl, (G3, nk)))))) ?_ rfl
      refine sm_ast rfl rfl fun G9 => ?_
      exact sm_go 2 (hagain5 (lI x7, g8) (x2 + 1) G9) rfl
    · intro k10 hk10
      refine sm_loop2 (S := fun (g13 : Unit) (x11 : Int) (x12 : Int) => (17, ([lR 56, lI p1, lI x2, lI x11, lI x12], ([], (mSH r tl, (G3, nk)))))) ?_ LF () 0 0
      intro again14 hagain14 g13 x11 x12
      refine sm_go 4 (s' := (24, ([lR 56, lI p1, lI x2, lI x11, lI x12], ([sI 0, sR 57, sI x12], (mSH r tl, (G3, nk)))))) ?_ rfl
      refine sm_ald rfl rfl fun v15 => ?_
      refine sm_if2n (t := (ilt x12 v15)) (pt := 59) rfl rfl rfl (fun _ => ?_) (fun _ => ?_)
      · refine sm_letK1 (S := fun (g17 : Unit) (x16 : Int) => (51, ([lR 56, lI p1, lI x2, lI x11, lI x12], ([sI x16, sI x11], (mSH r tl, (G3, nk)))))) ?_ ?_
        · intro g17 x16
          exact sm_go 4 (hagain14 () (x11 + x16) (x12 + 1)) rfl
        · intro k18 hk18
          refine sm_letK0 (S := fun (g19 : Unit) => (50, ([lR 56, lI p1, lI x2, lI x11, lI x12], ([sI x11], (mSH r tl, (G3, nk)))))) ?_ ?_
          · intro g19
            exact sm_go 1 (hk18 () 0) rfl
          · intro k20 hk20
            refine sm_go 3 (s' := (32, ([lR 56, lI p1, lI x2, lI x11, lI x12], ([sI x2, sI x12, sI x11], (mSH r tl, (G3, nk)))))) ?_ rfl
            refine sm_if2 (t := (ieq x12 x2)) (pt := 50) rfl rfl rfl (fun _ => ?_) (fun _ => ?_)
            · exact hk20 ()
            · refine sm_go 4 (s' := (40, ([lR 56, lI p1, lI x2, lI x11, lI x12], ([sI x2, sI x12, sI p1, sR 56, sI x11], (mSH r tl, (G3, nk)))))) ?_ rfl
              refine sm_callG (rest := [sI x11]) (T_X11_goesFirst scr d r tl nk G3 p1 x12 x2) rfl (Or.inl rfl) rfl rfl rfl rfl (fun _ => rfl) (fun v21 => (43, ([lR 56, lI p1, lI x2, lI x11, lI x12], ([sI (b2i v21), sI x11], (mSH r tl, (G3, nk)))))) (fun _ => rfl) fun v21 => ?_
              refine sm_if1n (t := v21) (pt := 50) (mCmpB_eq v21) rfl rfl (fun _ => ?_) (fun _ => ?_)
              · exact sm_go 2 (hk18 () 1) rfl
              · exact hk20 ()
      · exact hk10 (lI x12) x11
  · exact sm_retU rfl rfl
def P_X11_leastSum (G : mG) : Option (Int × mG) :=
(pst G 56 3 0).bind fun G1 =>
(P_X11_laysRow 0 G1).bind fun G2 =>
loop3 LF (fun again7 (x3 : Int) (x4 : Int) (x5 : Int) =>
(ald G2 57 282 0).bind fun v8 =>
bif (ilt x5 v8) then
(ald G2 70 6 x5).bind fun v9 =>
(P_X11_length v9 G2).bind fun v10 =>
again7 (x3 + v10) (x4 + (x3 + v10)) (x5 + 1)
else
some (x4, G2)) 0 0 0
set_option maxRecDepth 100000 in
theorem T_X11_leastSum (scr : mScr) (d : Nat) (r : List (Option Nat)) (tl : List mSh) (nk : Nat × Nat) (G : mG)  : SimC scr (d + 7) 213 [sR 56] (mSH r tl, (G, nk)) (e1I r tl nk) (P_X11_leastSum G) := by
  refine sm_callX (cs := mc_X11_leastSum) (maxL := 4) (rk := 0) (o := 11) (hs := []) (d := d + 6) [lR 56, none, none, none] rfl rfl rfl rfl ?_
  unfold P_X11_leastSum
  refine sm_go 2 (s' := (2, ([lR 56, none, none, none], ([sI 0, sR 56], (mSH r tl, (G, nk)))))) ?_ rfl
  refine sm_pst rfl rfl rfl fun G1 => ?_
  refine sm_go 2 (s' := (7, ([lR 56, none, none, none], ([sI 0, sR 56], (mSH r tl, (G1, nk)))))) ?_ rfl
  refine sm_callG (rest := []) (T_X11_laysRow scr d r tl nk G1 0) rfl (Or.inl rfl) rfl rfl rfl rfl (fun _ => rfl) (fun G2 => (10, ([lR 56, none, none, none], ([], (mSH r tl, (G2, nk)))))) (fun _ => rfl) fun G2 => ?_
  refine sm_go 6 (s' := (16, ([lR 56, lI 0, lI 0, lI 0], ([], (mSH r tl, (G2, nk)))))) ?_ rfl
  refine sm_loop3 (S := fun (g6 : Unit) (x3 : Int) (x4 : Int) (x5 : Int) => (16, ([lR 56, lI x3, lI x4, lI x5], ([], (mSH r tl, (G2, nk)))))) ?_ LF () 0 0 0
  intro again7 hagain7 g6 x3 x4 x5
  refine sm_go 4 (s' := (22, ([lR 56, lI x3, lI x4, lI x5], ([sI 0, sR 57, sI x5], (mSH r tl, (G2, nk)))))) ?_ rfl
  refine sm_ald rfl rfl fun v8 => ?_
  refine sm_if2n (t := (ilt x5 v8)) (pt := 49) rfl rfl rfl (fun _ => ?_) (fun _ => ?_)
  · refine sm_go 5 (s' := (33, ([lR 56, lI x3, lI x4, lI x5], ([sI x5, sR 70, sR 56, sI x3], (mSH r tl, (G2, nk)))))) ?_ rfl
    refine sm_ald rfl rfl fun v9 => ?_
    refine sm_callG (rest := [sI x3]) (T_X11_length scr (d + 2) r tl nk G2 v9) rfl (Or.inl rfl) rfl rfl rfl rfl (fun _ => rfl) (fun v10 => (37, ([lR 56, lI x3, lI x4, lI x5], ([sI v10, sI x3], (mSH r tl, (G2, nk)))))) (fun _ => rfl) fun v10 => ?_
    exact sm_go 8 (hagain7 () (x3 + v10) (x4 + (x3 + v10)) (x5 + 1)) rfl
  · refine sm_go 1 (s' := (50, ([lR 56, lI x3, lI x4, lI x5], ([sI x4], (mSH r tl, (G2, nk)))))) ?_ rfl
    exact sm_retI rfl rfl rfl
def P_X5_sortByDue (G : mG) : Option (mG) :=
(P_X3_clear G).bind fun G1 =>
loop2 LF (fun again5 (x2 : Int) (G3 : mG) =>
bif (ilt x2 (G3 1 0)) then
(ald G3 3 6 x2).bind fun v6 =>
(P_X3_insert x2 v6 G3).bind fun G7 =>
again5 (x2 + 1) G7
else
some G3) 0 G1
set_option maxRecDepth 100000 in
theorem T_X5_sortByDue (scr : mScr) (d : Nat) (r : List (Option Nat)) (tl : List mSh) (nk : Nat × Nat) (G : mG)  : SimC scr (d + 2) 18 [sR 44] (mSH r tl, (G, nk)) (e1U r tl nk) (P_X5_sortByDue G) := by
  refine sm_callX (cs := mc_X5_sortByDue) (maxL := 2) (rk := 0) (o := 5) (hs := []) (d := d + 1) [lR 44, none] rfl rfl rfl rfl ?_
  unfold P_X5_sortByDue
  refine sm_go 2 (s' := (4, ([lR 44, none], ([sR 45], (mSH r tl, (G, nk)))))) ?_ rfl
  refine sm_callG (rest := []) (T_X3_clear scr d r tl nk G) rfl (Or.inl rfl) rfl rfl rfl rfl (fun _ => rfl) (fun G1 => (7, ([lR 44, none], ([], (mSH r tl, (G1, nk)))))) (fun _ => rfl) fun G1 => ?_
  refine sm_go 2 (s' := (9, ([lR 44, lI 0], ([], (mSH r tl, (G1, nk)))))) ?_ rfl
  refine sm_loop2 (S := fun (g4 : Unit) (x2 : Int) (G3 : mG) => (9, ([lR 44, lI x2], ([], (mSH r tl, (G3, nk)))))) ?_ LF () 0 G1
  intro again5 hagain5 g4 x2 G3
  refine sm_go 4 (s' := (17, ([lR 44, lI x2], ([sI (G3 1 0), sI x2], (mSH r tl, (G3, nk)))))) ?_ rfl
  refine sm_if2n (t := (ilt x2 (G3 1 0))) (pt := 43) rfl rfl rfl (fun _ => ?_) (fun _ => ?_)
  · refine sm_go 7 (s' := (33, ([lR 44, lI x2], ([sI x2, sR 3, sI x2, sR 45], (mSH r tl, (G3, nk)))))) ?_ rfl
    refine sm_ald rfl rfl fun v6 => ?_
    refine sm_callG (rest := []) (T_X3_insert scr d r tl nk G3 x2 v6) rfl (Or.inl rfl) rfl rfl rfl rfl (fun _ => rfl) (fun G7 => (37, ([lR 44, lI x2], ([], (mSH r tl, (G7, nk)))))) (fun _ => rfl) fun G7 => ?_
    exact sm_go 2 (hagain5 () (x2 + 1) G7) rfl
  · exact sm_retU rfl rfl
def P_X5_greatestLateness (G : mG) : Option (Int × mG) :=
(P_X5_sortByDue G).bind fun G1 =>
loop3 LF (fun again6 (x2 : Int) (x3 : Int) (x4 : Int) =>
bif (ilt x4 (G1 45 2)) then
(ald G1 46 6 x4).bind fun v7 =>
(P_X7_hoursFrom v7 0 G1).bind fun v8 =>
(ald G1 3 6 v7).bind fun v9 =>
letK (fun (x10 : Int) =>
again6 (x2 + v8) x10 (x4 + 1)) fun k12 =>
bif (ieq x4 0) then
k12 ((x2 + v8) - v9)
else
k12 (iMax x3 ((x2 + v8) - v9))
else
some (x3, G1)) 0 0 0
set_option maxRecDepth 100000 in
theorem T_X5_greatestLateness (scr : mScr) (d : Nat) (r : List (Option Nat)) (tl : List mSh) (nk : Nat × Nat) (G : mG)  : SimC scr (d + 3) 20 [sR 44] (mSH r tl, (G, nk)) (e1I r tl nk) (P_X5_greatestLateness G) := by
  refine sm_callX (cs := mc_X5_greatestLateness) (maxL := 6) (rk := 0) (o := 5) (hs := []) (d := d + 2) [lR 44, none, none, none, none, none] rfl rfl rfl rfl ?_
  unfold P_X5_greatestLateness
  refine sm_go 1 (s' := (1, ([lR 44, none, none, none, none, none], ([sR 44], (mSH r tl, (G, nk)))))) ?_ rfl
  refine sm_callG (rest := []) (T_X5_sortByDue scr d r tl nk G) rfl (Or.inl rfl) rfl rfl rfl rfl (fun _ => rfl) (fun G1 => (4, ([lR 44, none, none, none, none, none], ([], (mSH r tl, (G1, nk)))))) (fun _ => rfl) fun G1 => ?_
  refine sm_go 6 (s' := (10, ([lR 44, lI 0, lI 0, lI 0, none, none], ([], (mSH r tl, (G1, nk)))))) ?_ rfl
  refine sm_loop3 (S := fun (g5 : Option mV × Option mV) (x2 : Int) (x3 : Int) (x4 : Int) => (10, ([lR 44, lI x2, lI x3, lI x4, g5.1, g5.2], ([], (mSH r tl, (G1, nk)))))) ?_ LF (none, none) 0 0 0
  intro again6 hagain6 g5 x2 x3 x4
  refine sm_go 4 (s' := (18, ([lR 44, lI x2, lI x3, lI x4, g5.1, g5.2], ([sI (G1 45 2), sI x4], (mSH r tl, (G1, nk)))))) ?_ rfl
  refine sm_if2n (t := (ilt x4 (G1 45 2))) (pt := 81) rfl rfl rfl (fun _ => ?_) (fun _ => ?_)
  · refine sm_go 4 (s' := (29, ([lR 44, lI x2, lI x3, lI x4, g5.1, g5.2], ([sI x4, sR 46], (mSH r tl, (G1, nk)))))) ?_ rfl
    refine sm_ald rfl rfl fun v7 => ?_
    refine sm_go 6 (s' := (40, ([lR 44, lI x2, lI x3, lI x4, lI v7, g5.2], ([sI 0, sI v7, sR 1, sI x2], (mSH r tl, (G1, nk)))))) ?_ rfl
    refine sm_callG (rest := [sI x2]) (T_X7_hoursFrom scr (d + 1) r tl nk G1 v7 0) rfl (Or.inl rfl) rfl rfl rfl rfl (fun _ => rfl) (fun v8 => (43, ([lR 44, lI x2, lI x3, lI x4, lI v7, g5.2], ([sI v8, sI x2], (mSH r tl, (G1, nk)))))) (fun _ => rfl) fun v8 => ?_
    refine sm_go 7 (s' := (55, ([lR 44, lI (x2 + v8), lI x3, lI x4, lI v7, g5.2], ([sI v7, sR 3, sI (x2 + v8)], (mSH r tl, (G1, nk)))))) ?_ rfl
    refine sm_ald rfl rfl fun v9 => ?_
    refine sm_letK1 (S := fun (g11 : Unit) (x10 : Int) => (74, ([lR 44, lI (x2 + v8), lI x3, lI x4, lI v7, lI ((x2 + v8) - v9)], ([sI x10], (mSH r tl, (G1, nk)))))) ?_ ?_
    · intro g11 x10
      exact sm_go 3 (hagain6 (lI v7, lI ((x2 + v8) - v9)) (x2 + v8) x10 (x4 + 1)) rfl
    · intro k12 hk12
      refine sm_go 3 (s' := (60, ([lR 44, lI (x2 + v8), lI x3, lI x4, lI v7, lI ((x2 + v8) - v9)], ([sI x4], (mSH r tl, (G1, nk)))))) ?_ rfl
      refine sm_if1n (t := (ieq x4 0)) (pt := 68) rfl rfl rfl (fun _ => ?_) (fun _ => ?_)
      · exact sm_go 2 (hk12 () ((x2 + v8) - v9)) rfl
      · exact sm_go 3 (hk12 () (iMax x3 ((x2 + v8) - v9))) rfl
  · refine sm_go 1 (s' := (82, ([lR 44, lI x2, lI x3, lI x4, g5.1, g5.2], ([sI x3], (mSH r tl, (G1, nk)))))) ?_ rfl
    exact sm_retI rfl rfl rfl
def P_X10_leastLateness (G : mG) : Option (Int × mG) :=
(P_X5_greatestLateness G).bind fun z1 =>
some (z1.1, z1.2)
set_option maxRecDepth 100000 in
theorem T_X10_leastLateness (scr : mScr) (d : Nat) (r : List (Option Nat)) (tl : List mSh) (nk : Nat × Nat) (G : mG)  : SimC scr (d + 4) 105 [sR 0] (mSH r tl, (G, nk)) (e1I r tl nk) (P_X10_leastLateness G) := by
  refine sm_callX (cs := mc_X10_leastLateness) (maxL := 1) (rk := 0) (o := 10) (hs := []) (d := d + 3) [lR 0] rfl rfl rfl rfl ?_
  unfold P_X10_leastLateness
  refine sm_go 2 (s' := (4, ([lR 0], ([sR 44], (mSH r tl, (G, nk)))))) ?_ rfl
  refine sm_callG (rest := []) (T_X5_greatestLateness scr d r tl nk G) rfl (Or.inl rfl) rfl rfl rfl rfl (fun _ => rfl) (fun z1 => (7, ([lR 0], ([sI z1.1], (mSH r tl, (z1.2, nk)))))) (fun _ => rfl) fun z1 => ?_
  exact sm_retI rfl rfl rfl
def P_X11_leastLateness (G : mG) : Option (Int × mG) :=
(pst G 56 3 0).bind fun G1 =>
(P_X11_laysRow 1 G1).bind fun G2 =>
loop3 LF (fun again7 (x3 : Int) (x4 : Int) (x5 : Int) =>
(ald G2 57 282 0).bind fun v8 =>
bif (ilt x5 v8) then
(ald G2 70 6 x5).bind fun v9 =>
(P_X11_length v9 G2).bind fun v10 =>
letK (fun (x11 : Int) =>
again7 (x3 + v10) x11 (x5 + 1)) fun k13 =>
bif (ieq x5 0) then
(ald G2 70 6 x5).bind fun v16 =>
(P_X11_of v16 1 G2).bind fun v17 =>
k13 ((x3 + v10) - v17)
else
(ald G2 70 6 x5).bind fun v14 =>
(P_X11_of v14 1 G2).bind fun v15 =>
k13 (iMax x4 ((x3 + v10) - v15))
else
some (x4, G2)) 0 0 0
set_option maxRecDepth 100000 in
theorem T_X11_leastLateness (scr : mScr) (d : Nat) (r : List (Option Nat)) (tl : List mSh) (nk : Nat × Nat) (G : mG)  : SimC scr (d + 7) 214 [sR 56] (mSH r tl, (G, nk)) (e1I r tl nk) (P_X11_leastLateness G) := by
  refine sm_callX (cs := mc_X11_leastLateness) (maxL := 4) (rk := 0) (o := 11) (hs := []) (d := d + 6) [lR 56, none, none, none] rfl rfl rfl rfl ?_
  unfold P_X11_leastLateness
  refine sm_go 2 (s' := (2, ([lR 56, none, none, none], ([sI 0, sR 56], (mSH r tl, (G, nk)))))) ?_ rfl
  refine sm_pst rfl rfl rfl fun G1 => ?_
  refine sm_go 2 (s' := (7, ([lR 56, none, none, none], ([sI 1, sR 56], (mSH r tl, (G1, nk)))))) ?_ rfl
  refine sm_callG (rest := []) (T_X11_laysRow scr d r tl nk G1 1) rfl (Or.inl rfl) rfl rfl rfl rfl (fun _ => rfl) (fun G2 => (10, ([lR 56, none, none, none], ([], (mSH r tl, (G2, nk)))))) (fun _ => rfl) fun G2 => ?_
  refine sm_go 6 (s' := (16, ([lR 56, lI 0, lI 0, lI 0], ([], (mSH r tl, (G2, nk)))))) ?_ rfl
  refine sm_loop3 (S := fun (g6 : Unit) (x3 : Int) (x4 : Int) (x5 : Int) => (16, ([lR 56, lI x3, lI x4, lI x5], ([], (mSH r tl, (G2, nk)))))) ?_ LF () 0 0 0
  intro again7 hagain7 g6 x3 x4 x5
  refine sm_go 4 (s' := (22, ([lR 56, lI x3, lI x4, lI x5], ([sI 0, sR 57, sI x5], (mSH r tl, (G2, nk)))))) ?_ rfl
  refine sm_ald rfl rfl fun v8 => ?_
  refine sm_if2n (t := (ilt x5 v8)) (pt := 83) rfl rfl rfl (fun _ => ?_) (fun _ => ?_)
  · refine sm_go 5 (s' := (33, ([lR 56, lI x3, lI x4, lI x5], ([sI x5, sR 70, sR 56, sI x3], (mSH r tl, (G2, nk)))))) ?_ rfl
    refine sm_ald rfl rfl fun v9 => ?_
    refine sm_callG (rest := [sI x3]) (T_X11_length scr (d + 2) r tl nk G2 v9) rfl (Or.inl rfl) rfl rfl rfl rfl (fun _ => rfl) (fun v10 => (37, ([lR 56, lI x3, lI x4, lI x5], ([sI v10, sI x3], (mSH r tl, (G2, nk)))))) (fun _ => rfl) fun v10 => ?_
    refine sm_letK1 (S := fun (g12 : Unit) (x11 : Int) => (76, ([lR 56, lI (x3 + v10), lI x4, lI x5], ([sI x11], (mSH r tl, (G2, nk)))))) ?_ ?_
    · intro g12 x11
      exact sm_go 3 (hagain7 () (x3 + v10) x11 (x5 + 1)) rfl
    · intro k13 hk13
      refine sm_go 3 (s' := (40, ([lR 56, lI (x3 + v10), lI x4, lI x5], ([sI x5], (mSH r tl, (G2, nk)))))) ?_ rfl
      refine sm_if1n (t := (ieq x5 0)) (pt := 59) rfl rfl rfl (fun _ => ?_) (fun _ => ?_)
      · refine sm_go 5 (s' := (50, ([lR 56, lI (x3 + v10), lI x4, lI x5], ([sI x5, sR 70, sR 56, sI (x3 + v10)], (mSH r tl, (G2, nk)))))) ?_ rfl
        refine sm_ald rfl rfl fun v16 => ?_
        refine sm_go 1 (s' := (52, ([lR 56, lI (x3 + v10), lI x4, lI x5], ([sI 1, sI v16, sR 56, sI (x3 + v10)], (mSH r tl, (G2, nk)))))) ?_ rfl
        refine sm_callG (rest := [sI (x3 + v10)]) (T_X11_of scr (d + 5) r tl nk G2 v16 1) rfl (Or.inl rfl) rfl rfl rfl rfl (fun _ => rfl) (fun v17 => (55, ([lR 56, lI (x3 + v10), lI x4, lI x5], ([sI v17, sI (x3 + v10)], (mSH r tl, (G2, nk)))))) (fun _ => rfl) fun v17 => ?_
        exact sm_go 2 (hk13 () ((x3 + v10) - v17)) rfl
      · refine sm_go 6 (s' := (67, ([lR 56, lI (x3 + v10), lI x4, lI x5], ([sI x5, sR 70, sR 56, sI (x3 + v10), sI x4], (mSH r tl, (G2, nk)))))) ?_ rfl
        refine sm_ald rfl rfl fun v14 => ?_
        refine sm_go 1 (s' := (69, ([lR 56, lI (x3 + v10), lI x4, lI x5], ([sI 1, sI v14, sR 56, sI (x3 + v10), sI x4], (mSH r tl, (G2, nk)))))) ?_ rfl
        refine sm_callG (rest := [sI (x3 + v10), sI x4]) (T_X11_of scr (d + 5) r tl nk G2 v14 1) rfl (Or.inl rfl) rfl rfl rfl rfl (fun _ => rfl) (fun v15 => (72, ([lR 56, lI (x3 + v10), lI x4, lI x5], ([sI v15, sI (x3 + v10), sI x4], (mSH r tl, (G2, nk)))))) (fun _ => rfl) fun v15 => ?_
        exact sm_go 2 (hk13 () (iMax x4 ((x3 + v10) - v15))) rfl
  · refine sm_go 1 (s' := (84, ([lR 56, lI x3, lI x4, lI x5], ([sI x4], (mSH r tl, (G2, nk)))))) ?_ rfl
    exact sm_retI rfl rfl rfl
def P_X5_longestOf (p1 : Int) (G : mG) : Option (Int) :=
loop3 LF (fun again6 (x2 : Int) (x3 : Int) (x4 : Int) =>
bif (ilt x4 (G 1 0)) then
(P_X7_hoursFrom x4 0 G).bind fun v7 =>
letK (fun (x8 : Int) (x9 : Int) =>
again6 x8 x9 (x4 + 1)) fun k11 =>
bif (ieq (iAnd p1 (iShl 1 x4)) 0) then
k11 x2 x3
else
bif (ilt v7 x3) then
k11 x2 x3
else
k11 x4 v7
else
some x2) 0 (-1) 0
set_option maxRecDepth 100000 in
theorem T_X5_longestOf (scr : mScr) (d : Nat) (r : List (Option Nat)) (tl : List mSh) (nk : Nat × Nat) (G : mG)  (p1 : Int) : SimC scr (d + 2) 22 [sR 44, sI p1] (mSH r tl, (G, nk)) (e0I (mSH r tl, (G, nk))) (P_X5_longestOf p1 G) := by
  refine sm_callX (cs := mc_X5_longestOf) (maxL := 6) (rk := 0) (o := 5) (hs := []) (d := d + 1) [lR 44, lI p1, none, none, none, none] rfl rfl rfl rfl ?_
  unfold P_X5_longestOf
  refine sm_go 6 (s' := (7, ([lR 44, lI p1, lI 0, lI (-1), lI 0, none], ([], (mSH r tl, (G, nk)))))) ?_ rfl
  refine sm_loop3 (S := fun (g5 : Option mV) (x2 : Int) (x3 : Int) (x4 : Int) => (7, ([lR 44, lI p1, lI x2, lI x3, lI x4, g5], ([], (mSH r tl, (G, nk)))))) ?_ LF (none) 0 (-1) 0
  intro again6 hagain6 g5 x2 x3 x4
  refine sm_go 4 (s' := (16, ([lR 44, lI p1, lI x2, lI x3, lI x4, g5], ([sI (G 1 0), sI x4], (mSH r tl, (G, nk)))))) ?_ rfl
  refine sm_if2n (t := (ilt x4 (G 1 0))) (pt := 58) rfl rfl rfl (fun _ => ?_) (fun _ => ?_)
  · refine sm_go 4 (s' := (26, ([lR 44, lI p1, lI x2, lI x3, lI x4, g5], ([sI 0, sI x4, sR 1], (mSH r tl, (G, nk)))))) ?_ rfl
    refine sm_callG (rest := []) (T_X7_hoursFrom scr d r tl nk G x4 0) rfl (Or.inl rfl) rfl rfl rfl rfl (fun _ => rfl) (fun v7 => (29, ([lR 44, lI p1, lI x2, lI x3, lI x4, g5], ([sI v7], (mSH r tl, (G, nk)))))) (fun _ => rfl) fun v7 => ?_
    refine sm_letK2 (S := fun (g10 : Unit) (x8 : Int) (x9 : Int) => (52, ([lR 44, lI p1, lI x8, lI x9, lI x4, lI v7], ([], (mSH r tl, (G, nk)))))) ?_ ?_
    · intro g10 x8 x9
      exact sm_go 2 (hagain6 (lI v7) x8 x9 (x4 + 1)) rfl
    · intro k11 hk11
      refine sm_go 6 (s' := (37, ([lR 44, lI p1, lI x2, lI x3, lI x4, lI v7], ([sI (iAnd p1 (iShl 1 x4))], (mSH r tl, (G, nk)))))) ?_ rfl
      refine sm_if1 (t := (ieq (iAnd p1 (iShl 1 x4)) 0)) (pt := 52) rfl rfl rfl (fun _ => ?_) (fun _ => ?_)
      · exact hk11 () x2 x3
      · refine sm_go 2 (s' := (43, ([lR 44, lI p1, lI x2, lI x3, lI x4, lI v7], ([sI x3, sI v7], (mSH r tl, (G, nk)))))) ?_ rfl
        refine sm_if2 (t := (ilt v7 x3)) (pt := 52) rfl rfl rfl (fun _ => ?_) (fun _ => ?_)
        · exact hk11 () x2 x3
        · exact sm_go 4 (hk11 () x4 v7) rfl
  · refine sm_go 1 (s' := (59, ([lR 44, lI p1, lI x2, lI x3, lI x4, g5], ([sI x2], (mSH r tl, (G, nk)))))) ?_ rfl
    exact sm_retI rfl rfl rfl
def P_X5_droppedJobs (G : mG) : Option (Int × mG) :=
(P_X5_sortByDue G).bind fun G1 =>
loop4 LF (fun again7 (x2 : Int) (x3 : Int) (x4 : Int) (x5 : Int) =>
bif (ilt x5 (G1 45 2)) then
(ald G1 46 6 x5).bind fun v8 =>
(P_X7_hoursFrom v8 0 G1).bind fun v9 =>
(ald G1 3 6 v8).bind fun v10 =>
letK (fun (x11 : Int) (x12 : Int) (x13 : Int) =>
again7 x11 x12 x13 (x5 + 1)) fun k15 =>
bif (ilt v10 (x2 + v9)) then
(P_X5_longestOf (iOr x3 (iShl 1 v8)) G1).bind fun v16 =>
(P_X7_hoursFrom v16 0 G1).bind fun v17 =>
k15 ((x2 + v9) - v17) (iAnd (iOr x3 (iShl 1 v8)) (iXor (iShl 1 v16) (-1))) (iOr x4 (iShl 1 v16))
else
k15 (x2 + v9) (iOr x3 (iShl 1 v8)) x4
else
some (x4, G1)) 0 0 0 0
set_option maxRecDepth 100000 in
theorem T_X5_droppedJobs (scr : mScr) (d : Nat) (r : List (Option Nat)) (tl : List mSh) (nk : Nat × Nat) (G : mG)  : SimC scr (d + 3) 21 [sR 44] (mSH r tl, (G, nk)) (e1I r tl nk) (P_X5_droppedJobs G) := by
  refine sm_callX (cs := mc_X5_droppedJobs) (maxL := 7) (rk := 0) (o := 5) (hs := []) (d := d + 2) [lR 44, none, none, none, none, none, none] rfl rfl rfl rfl ?_
  unfold P_X5_droppedJobs
  refine sm_go 1 (s' := (1, ([lR 44, none, none, none, none, none, none], ([sR 44], (mSH r tl, (G, nk)))))) ?_ rfl
  refine sm_callG (rest := []) (T_X5_sortByDue scr d r tl nk G) rfl (Or.inl rfl) rfl rfl rfl rfl (fun _ => rfl) (fun G1 => (4, ([lR 44, none, none, none, none, none, none], ([], (mSH r tl, (G1, nk)))))) (fun _ => rfl) fun G1 => ?_
  refine sm_go 8 (s' := (13, ([lR 44, lI 0, lI 0, lI 0, lI 0, none, none], ([], (mSH r tl, (G1, nk)))))) ?_ rfl
  refine sm_loop4 (S := fun (g6 : Option mV × Option mV) (x2 : Int) (x3 : Int) (x4 : Int) (x5 : Int) => (13, ([lR 44, lI x2, lI x3, lI x4, lI x5, g6.1, g6.2], ([], (mSH r tl, (G1, nk)))))) ?_ LF (none, none) 0 0 0 0
  intro again7 hagain7 g6 x2 x3 x4 x5
  refine sm_go 4 (s' := (22, ([lR 44, lI x2, lI x3, lI x4, lI x5, g6.1, g6.2], ([sI (G1 45 2), sI x5], (mSH r tl, (G1, nk)))))) ?_ rfl
  refine sm_if2n (t := (ilt x5 (G1 45 2))) (pt := 113) rfl rfl rfl (fun _ => ?_) (fun _ => ?_)
  · refine sm_go 4 (s' := (34, ([lR 44, lI x2, lI x3, lI x4, lI x5, g6.1, g6.2], ([sI x5, sR 46], (mSH r tl, (G1, nk)))))) ?_ rfl
    refine sm_ald rfl rfl fun v8 => ?_
    refine sm_go 12 (s' := (52, ([lR 44, lI x2, lI (iOr x3 (iShl 1 v8)), lI x4, lI x5, lI v8, g6.2], ([sI 0, sI v8, sR 1, sI x2], (mSH r tl, (G1, nk)))))) ?_ rfl
    refine sm_callG (rest := [sI x2]) (T_X7_hoursFrom scr (d + 1) r tl nk G1 v8 0) rfl (Or.inl rfl) rfl rfl rfl rfl (fun _ => rfl) (fun v9 => (55, ([lR 44, lI x2, lI (iOr x3 (iShl 1 v8)), lI x4, lI x5, lI v8, g6.2], ([sI v9, sI x2], (mSH r tl, (G1, nk)))))) (fun _ => rfl) fun v9 => ?_
    refine sm_go 7 (s' := (67, ([lR 44, lI (x2 + v9), lI (iOr x3 (iShl 1 v8)), lI x4, lI x5, lI v8, g6.2], ([sI v8, sR 3, sI (x2 + v9)], (mSH r tl, (G1, nk)))))) ?_ rfl
    refine sm_ald rfl rfl fun v10 => ?_
    refine sm_letK3 (S := fun (g14 : Option mV) (x11 : Int) (x12 : Int) (x13 : Int) => (107, ([lR 44, lI x11, lI x12, lI x13, lI x5, lI v8, g14], ([], (mSH r tl, (G1, nk)))))) ?_ ?_
    · intro g14 x11 x12 x13
      exact sm_go 2 (hagain7 (lI v8, g14) x11 x12 x13 (x5 + 1)) rfl
    · intro k15 hk15
      refine sm_if2n (t := (ilt v10 (x2 + v9))) (pt := 107) rfl rfl rfl (fun _ => ?_) (fun _ => ?_)
      · refine sm_go 2 (s' := (73, ([lR 44, lI (x2 + v9), lI (iOr x3 (iShl 1 v8)), lI x4, lI x5, lI v8, g6.2], ([sI (iOr x3 (iShl 1 v8)), sR 44], (mSH r tl, (G1, nk)))))) ?_ rfl
        refine sm_callG (rest := []) (T_X5_longestOf scr d r tl nk G1 (iOr x3 (iShl 1 v8))) rfl (Or.inl rfl) rfl rfl rfl rfl (fun _ => rfl) (fun v16 => (76, ([lR 44, lI (x2 + v9), lI (iOr x3 (iShl 1 v8)), lI x4, lI x5, lI v8, g6.2], ([sI v16], (mSH r tl, (G1, nk)))))) (fun _ => rfl) fun v16 => ?_
        refine sm_go 20 (s' := (102, ([lR 44, lI (x2 + v9), lI (iAnd (iOr x3 (iShl 1 v8)) (iXor (iShl 1 v16) (-1))), lI (iOr x4 (iShl 1 v16)), lI x5, lI v8, lI v16], ([sI 0, sI v16, sR 1, sI (x2 + v9)], (mSH r tl, (G1, nk)))))) ?_ rfl
        refine sm_callG (rest := [sI (x2 + v9)]) (T_X7_hoursFrom scr (d + 1) r tl nk G1 v16 0) rfl (Or.inl rfl) rfl rfl rfl rfl (fun _ => rfl) (fun v17 => (105, ([lR 44, lI (x2 + v9), lI (iAnd (iOr x3 (iShl 1 v8)) (iXor (iShl 1 v16) (-1))), lI (iOr x4 (iShl 1 v16)), lI x5, lI v8, lI v16], ([sI v17, sI (x2 + v9)], (mSH r tl, (G1, nk)))))) (fun _ => rfl) fun v17 => ?_
        exact sm_go 2 (hk15 (lI v16) ((x2 + v9) - v17) (iAnd (iOr x3 (iShl 1 v8)) (iXor (iShl 1 v16) (-1))) (iOr x4 (iShl 1 v16))) rfl
      · exact hk15 (g6.2) (x2 + v9) (iOr x3 (iShl 1 v8)) x4
  · refine sm_go 1 (s' := (114, ([lR 44, lI x2, lI x3, lI x4, lI x5, g6.1, g6.2], ([sI x4], (mSH r tl, (G1, nk)))))) ?_ rfl
    exact sm_retI rfl rfl rfl
def P_J6_bitCount_0f7a4 (p1 : Int) : Option (Int) :=
some (iAnd (((iAnd (((iAnd (p1 - (iAnd (iUshr p1 1) 1431655765)) 858993459) + (iAnd (iUshr (p1 - (iAnd (iUshr p1 1) 1431655765)) 2) 858993459)) + (iUshr ((iAnd (p1 - (iAnd (iUshr p1 1) 1431655765)) 858993459) + (iAnd (iUshr (p1 - (iAnd (iUshr p1 1) 1431655765)) 2) 858993459)) 4)) 252645135) + (iUshr (iAnd (((iAnd (p1 - (iAnd (iUshr p1 1) 1431655765)) 858993459) + (iAnd (iUshr (p1 - (iAnd (iUshr p1 1) 1431655765)) 2) 858993459)) + (iUshr ((iAnd (p1 - (iAnd (iUshr p1 1) 1431655765)) 858993459) + (iAnd (iUshr (p1 - (iAnd (iUshr p1 1) 1431655765)) 2) 858993459)) 4)) 252645135) 8)) + (iUshr ((iAnd (((iAnd (p1 - (iAnd (iUshr p1 1) 1431655765)) 858993459) + (iAnd (iUshr (p1 - (iAnd (iUshr p1 1) 1431655765)) 2) 858993459)) + (iUshr ((iAnd (p1 - (iAnd (iUshr p1 1) 1431655765)) 858993459) + (iAnd (iUshr (p1 - (iAnd (iUshr p1 1) 1431655765)) 2) 858993459)) 4)) 252645135) + (iUshr (iAnd (((iAnd (p1 - (iAnd (iUshr p1 1) 1431655765)) 858993459) + (iAnd (iUshr (p1 - (iAnd (iUshr p1 1) 1431655765)) 2) 858993459)) + (iUshr ((iAnd (p1 - (iAnd (iUshr p1 1) 1431655765)) 858993459) + (iAnd (iUshr (p1 - (iAnd (iUshr p1 1) 1431655765)) 2) 858993459)) 4)) 252645135) 8)) 16)) 63)
set_option maxRecDepth 100000 in
theorem T_J6_bitCount_0f7a4 (scr : mScr) (d : Nat) (r : List (Option Nat)) (tl : List mSh) (nk : Nat × Nat) (G : mG)  (p1 : Int) : SimC scr (d + 1) 237 [sI p1] (mSH r tl, (G, nk)) (e0I (mSH r tl, (G, nk))) (P_J6_bitCount_0f7a4 p1) := by
  refine sm_callX (cs := mc_J6_bitCount_0f7a4) (maxL := 1) (rk := 0) (o := 113) (hs := []) (d := d + 0) [lI p1] rfl rfl rfl rfl ?_
  unfold P_J6_bitCount_0f7a4
  refine sm_go 41 (s' := (52, ([lI (((iAnd (((iAnd (p1 - (iAnd (iUshr p1 1) 1431655765)) 858993459) + (iAnd (iUshr (p1 - (iAnd (iUshr p1 1) 1431655765)) 2) 858993459)) + (iUshr ((iAnd (p1 - (iAnd (iUshr p1 1) 1431655765)) 858993459) + (iAnd (iUshr (p1 - (iAnd (iUshr p1 1) 1431655765)) 2) 858993459)) 4)) 252645135) + (iUshr (iAnd (((iAnd (p1 - (iAnd (iUshr p1 1) 1431655765)) 858993459) + (iAnd (iUshr (p1 - (iAnd (iUshr p1 1) 1431655765)) 2) 858993459)) + (iUshr ((iAnd (p1 - (iAnd (iUshr p1 1) 1431655765)) 858993459) + (iAnd (iUshr (p1 - (iAnd (iUshr p1 1) 1431655765)) 2) 858993459)) 4)) 252645135) 8)) + (iUshr ((iAnd (((iAnd (p1 - (iAnd (iUshr p1 1) 1431655765)) 858993459) + (iAnd (iUshr (p1 - (iAnd (iUshr p1 1) 1431655765)) 2) 858993459)) + (iUshr ((iAnd (p1 - (iAnd (iUshr p1 1) 1431655765)) 858993459) + (iAnd (iUshr (p1 - (iAnd (iUshr p1 1) 1431655765)) 2) 858993459)) 4)) 252645135) + (iUshr (iAnd (((iAnd (p1 - (iAnd (iUshr p1 1) 1431655765)) 858993459) + (iAnd (iUshr (p1 - (iAnd (iUshr p1 1) 1431655765)) 2) 858993459)) + (iUshr ((iAnd (p1 - (iAnd (iUshr p1 1) 1431655765)) 858993459) + (iAnd (iUshr (p1 - (iAnd (iUshr p1 1) 1431655765)) 2) 858993459)) 4)) 252645135) 8)) 16))], ([sI (iAnd (((iAnd (((iAnd (p1 - (iAnd (iUshr p1 1) 1431655765)) 858993459) + (iAnd (iUshr (p1 - (iAnd (iUshr p1 1) 1431655765)) 2) 858993459)) + (iUshr ((iAnd (p1 - (iAnd (iUshr p1 1) 1431655765)) 858993459) + (iAnd (iUshr (p1 - (iAnd (iUshr p1 1) 1431655765)) 2) 858993459)) 4)) 252645135) + (iUshr (iAnd (((iAnd (p1 - (iAnd (iUshr p1 1) 1431655765)) 858993459) + (iAnd (iUshr (p1 - (iAnd (iUshr p1 1) 1431655765)) 2) 858993459)) + (iUshr ((iAnd (p1 - (iAnd (iUshr p1 1) 1431655765)) 858993459) + (iAnd (iUshr (p1 - (iAnd (iUshr p1 1) 1431655765)) 2) 858993459)) 4)) 252645135) 8)) + (iUshr ((iAnd (((iAnd (p1 - (iAnd (iUshr p1 1) 1431655765)) 858993459) + (iAnd (iUshr (p1 - (iAnd (iUshr p1 1) 1431655765)) 2) 858993459)) + (iUshr ((iAnd (p1 - (iAnd (iUshr p1 1) 1431655765)) 858993459) + (iAnd (iUshr (p1 - (iAnd (iUshr p1 1) 1431655765)) 2) 858993459)) 4)) 252645135) + (iUshr (iAnd (((iAnd (p1 - (iAnd (iUshr p1 1) 1431655765)) 858993459) + (iAnd (iUshr (p1 - (iAnd (iUshr p1 1) 1431655765)) 2) 858993459)) + (iUshr ((iAnd (p1 - (iAnd (iUshr p1 1) 1431655765)) 858993459) + (iAnd (iUshr (p1 - (iAnd (iUshr p1 1) 1431655765)) 2) 858993459)) 4)) 252645135) 8)) 16)) 63)], (mSH r tl, (G, nk)))))) ?_ rfl
  exact sm_retI rfl rfl rfl
def P_X10_fewestLate (G : mG) : Option (Int × mG) :=
(P_X5_droppedJobs G).bind fun z1 =>
(P_J6_bitCount_0f7a4 z1.1).bind fun v2 =>
some (v2, z1.2)
set_option maxRecDepth 100000 in
theorem T_X10_fewestLate (scr : mScr) (d : Nat) (r : List (Option Nat)) (tl : List mSh) (nk : Nat × Nat) (G : mG)  : SimC scr (d + 4) 106 [sR 0] (mSH r tl, (G, nk)) (e1I r tl nk) (P_X10_fewestLate G) := by
  refine sm_callX (cs := mc_X10_fewestLate) (maxL := 1) (rk := 0) (o := 10) (hs := []) (d := d + 3) [lR 0] rfl rfl rfl rfl ?_
  unfold P_X10_fewestLate
  refine sm_go 2 (s' := (4, ([lR 0], ([sR 44], (mSH r tl, (G, nk)))))) ?_ rfl
  refine sm_callG (rest := []) (T_X5_droppedJobs scr d r tl nk G) rfl (Or.inl rfl) rfl rfl rfl rfl (fun _ => rfl) (fun z1 => (7, ([lR 0], ([sI z1.1], (mSH r tl, (z1.2, nk)))))) (fun _ => rfl) fun z1 => ?_
  refine sm_callG (rest := []) (T_J6_bitCount_0f7a4 scr (d + 2) r tl nk z1.2 z1.1) rfl (Or.inr (Or.inl rfl)) rfl rfl rfl rfl (fun _ => rfl) (fun v2 => (10, ([lR 0], ([sI v2], (mSH r tl, (z1.2, nk)))))) (fun _ => rfl) fun v2 => ?_
  exact sm_retI rfl rfl rfl
def P_X11_dropped (G : mG) : Option (Int × mG) :=
(P_X11_laysRow 1 G).bind fun G1 =>
loop3 LF (fun again6 (x2 : Int) (x3 : Int) (x4 : Int) =>
(ald G1 57 282 0).bind fun v7 =>
bif (ilt x4 v7) then
(ald G1 70 6 x4).bind fun v8 =>
letK (fun (x9 : Int) (x10 : Int) =>
(ald G1 70 6 x4).bind fun v12 =>
(P_X11_of v12 1 G1).bind fun v13 =>
letK (fun (x14 : Int) (x15 : Int) =>
again6 x14 x15 (x4 + 1)) fun k17 =>
bif (ilt v13 x9) then
k17 (iAnd (iOr x2 (iShl 1 v8)) (iXor (iShl 1 x10) (-1))) (iOr x3 (iShl 1 x10))
else
k17 (iOr x2 (iShl 1 v8)) x3) fun k18 =>
loop3 LF (fun again23 (x19 : Int) (x20 : Int) (x21 : Int) =>
(ald G1 57 282 0).bind fun v24 =>
bif (ilt x21 v24) then
letK (fun (x25 : Int) (x26 : Int) =>
again23 x25 x26 (x21 + 1)) fun k28 =>
bif (ieq (iAnd (iShr (iOr x2 (iShl 1 v8)) x21) 1) 0) then
k28 x19 x20
else
(P_X11_length x21 G1).bind fun v29 =>
letK (k28 (x19 + v29) x21) fun k31 =>
bif (ieq x20 (-1)) then
k31
else
(P_X11_length x21 G1).bind fun v32 =>
(P_X11_length x20 G1).bind fun v33 =>
bif (ilt v32 v33) then
k28 (x19 + v29) x20
else
k31
else
k18 x19 x20) 0 (-1) 0
else
some (x3, G1)) 0 0 0
set_option maxRecDepth 100000 in
theorem T_X11_dropped (scr : mScr) (d : Nat) (r : List (Option Nat)) (tl : List mSh) (nk : Nat × Nat) (G : mG)  : SimC scr (d + 7) 215 [sR 56] (mSH r tl, (G, nk)) (e1I r tl nk) (P_X11_dropped G) := by
  refine sm_callX (cs := mc_X11_dropped) (maxL := 7) (rk := 0) (o := 11) (hs := []) (d := d + 6) [lR 56, none, none, none, none, none, none] rfl rfl rfl rfl ?_
  unfold P_X11_dropped
  refine sm_go 2 (s' := (2, ([lR 56, none, none, none, none, none, none], ([sI 1, sR 56], (mSH r tl, (G, nk)))))) ?_ rfl
  refine sm_callG (rest := []) (T_X11_laysRow scr d r tl nk G 1) rfl (Or.inl rfl) rfl rfl rfl rfl (fun _ => rfl) (fun G1 => (5, ([lR 56, none, none, none, none, none, none], ([], (mSH r tl, (G1, nk)))))) (fun _ => rfl) fun G1 => ?_
  refine sm_go 6 (s' := (11, ([lR 56, lI 0, lI 0, lI 0, none, none, none], ([], (mSH r tl, (G1, nk)))))) ?_ rfl
  refine sm_loop3 (S := fun (g5 : Option mV × Option mV × Option mV) (x2 : Int) (x3 : Int) (x4 : Int) => (11, ([lR 56, lI x2, lI x3, lI x4, g5.1, g5.2.1, g5.2.2], ([], (mSH r tl, (G1, nk)))))) ?_ LF (none, none, none) 0 0 0
  intro again6 hagain6 g5 x2 x3 x4
  refine sm_go 4 (s' := (17, ([lR 56, lI x2, lI x3, lI x4, g5.1, g5.2.1, g5.2.2], ([sI 0, sR 57, sI x4], (mSH r tl, (G1, nk)))))) ?_ rfl
  refine sm_ald rfl rfl fun v7 => ?_
  refine sm_if2n (t := (ilt x4 v7)) (pt := 147) rfl rfl rfl (fun _ => ?_) (fun _ => ?_)
  · refine sm_go 5 (s' := (28, ([lR 56, lI x2, lI x3, lI x4, g5.1, g5.2.1, g5.2.2], ([sI x4, sR 70, sI 1, sI x2], (mSH r tl, (G1, nk)))))) ?_ rfl
    refine sm_ald rfl rfl fun v8 => ?_
    refine sm_go 9 (s' := (41, ([lR 56, lI (iOr x2 (iShl 1 v8)), lI x3, lI x4, lI 0, lI (-1), lI 0], ([], (mSH r tl, (G1, nk)))))) ?_ rfl
    refine sm_letK2 (S := fun (g11 : Option mV) (x9 : Int) (x10 : Int) => (106, ([lR 56, lI (iOr x2 (iShl 1 v8)), lI x3, lI x4, lI x9, lI x10, g11], ([], (mSH r tl, (G1, nk)))))) ?_ ?_
    · intro g11 x9 x10
      refine sm_go 5 (s' := (114, ([lR 56, lI (iOr x2 (iShl 1 v8)), lI x3, lI x4, lI x9, lI x10, g11], ([sI x4, sR 70, sR 56, sI x9], (mSH r tl, (G1, nk)))))) ?_ rfl
      refine sm_ald rfl rfl fun v12 => ?_
      refine sm_go 1 (s' := (116, ([lR 56, lI (iOr x2 (iShl 1 v8)), lI x3, lI x4, lI x9, lI x10, g11], ([sI 1, sI v12, sR 56, sI x9], (mSH r tl, (G1, nk)))))) ?_ rfl
      refine sm_callG (rest := [sI x9]) (T_X11_of scr (d + 5) r tl nk G1 v12 1) rfl (Or.inl rfl) rfl rfl rfl rfl (fun _ => rfl) (fun v13 => (119, ([lR 56, lI (iOr x2 (iShl 1 v8)), lI x3, lI x4, lI x9, lI x10, g11], ([sI v13, sI x9], (mSH r tl, (G1, nk)))))) (fun _ => rfl) fun v13 => ?_
      refine sm_letK2 (S := fun (g16 : Unit) (x14 : Int) (x15 : Int) => (141, ([lR 56, lI x14, lI x15, lI x4, lI x9, lI x10, g11], ([], (mSH r tl, (G1, nk)))))) ?_ ?_
      · intro g16 x14 x15
        exact sm_go 2 (hagain6 (lI x9, lI x10, g11) x14 x15 (x4 + 1)) rfl
      · intro k17 hk17
        refine sm_if2 (t := (ilt v13 x9)) (pt := 125) rfl rfl rfl (fun _ => ?_) (fun _ => ?_)
        · exact sm_go 14 (hk17 () (iAnd (iOr x2 (iShl 1 v8)) (iXor (iShl 1 x10) (-1))) (iOr x3 (iShl 1 x10))) rfl
        · exact sm_go 1 (hk17 () (iOr x2 (iShl 1 v8)) x3) rfl
    · intro k18 hk18
      refine sm_loop3 (S := fun (g22 : Unit) (x19 : Int) (x20 : Int) (x21 : Int) => (41, ([lR 56, lI (iOr x2 (iShl 1 v8)), lI x3, lI x4, lI x19, lI x20, lI x21], ([], (mSH r tl, (G1, nk)))))) ?_ LF () 0 (-1) 0
      intro again23 hagain23 g22 x19 x20 x21
      refine sm_go 4 (s' := (48, ([lR 56, lI (iOr x2 (iShl 1 v8)), lI x3, lI x4, lI x19, lI x20, lI x21], ([sI 0, sR 57, sI x21], (mSH r tl, (G1, nk)))))) ?_ rfl
      refine sm_ald rfl rfl fun v24 => ?_
      refine sm_if2n (t := (ilt x21 v24)) (pt := 106) rfl rfl rfl (fun _ => ?_) (fun _ => ?_)
      · refine sm_letK2 (S := fun (g27 : Unit) (x25 : Int) (x26 : Int) => (100, ([lR 56, lI (iOr x2 (iShl 1 v8)), lI x3, lI x4, lI x25, lI x26, lI x21], ([], (mSH r tl, (G1, nk)))))) ?_ ?_
        · intro g27 x25 x26
          exact sm_go 2 (hagain23 () x25 x26 (x21 + 1)) rfl
        · intro k28 hk28
          refine sm_go 5 (s' := (58, ([lR 56, lI (iOr x2 (iShl 1 v8)), lI x3, lI x4, lI x19, lI x20, lI x21], ([sI (iAnd (iShr (iOr x2 (iShl 1 v8)) x21) 1)], (mSH r tl, (G1, nk)))))) ?_ rfl
          refine sm_if1n (t := (ieq (iAnd (iShr (iOr x2 (iShl 1 v8)) x21) 1) 0)) (pt := 64) rfl rfl rfl (fun _ => ?_) (fun _ => ?_)
          · exact sm_go 1 (hk28 () x19 x20) rfl
          · refine sm_go 3 (s' := (69, ([lR 56, lI (iOr x2 (iShl 1 v8)), lI x3, lI x4, lI x19, lI x20, lI x21], ([sI x21, sR 56, sI x19], (mSH r tl, (G1, nk)))))) ?_ rfl
            refine sm_callG (rest := [sI x19]) (T_X11_length scr (d + 2) r tl nk G1 x21) rfl (Or.inl rfl) rfl rfl rfl rfl (fun _ => rfl) (fun v29 => (72, ([lR 56, lI (iOr x2 (iShl 1 v8)), lI x3, lI x4, lI x19, lI x20, lI x21], ([sI v29, sI x19], (mSH r tl, (G1, nk)))))) (fun _ => rfl) fun v29 => ?_
            refine sm_letK0 (S := fun (g30 : Unit) => (96, ([lR 56, lI (iOr x2 (iShl 1 v8)), lI x3, lI x4, lI (x19 + v29), lI x20, lI x21], ([], (mSH r tl, (G1, nk)))))) ?_ ?_
            · intro g30
              exact sm_go 2 (hk28 () (x19 + v29) x21) rfl
            · intro k31 hk31
              refine sm_go 4 (s' := (78, ([lR 56, lI (iOr x2 (iShl 1 v8)), lI x3, lI x4, lI (x19 + v29), lI x20, lI x21], ([sI (-1), sI x20], (mSH r tl, (G1, nk)))))) ?_ rfl
              refine sm_if2 (t := (ieq x20 (-1))) (pt := 96) rfl rfl rfl (fun _ => ?_) (fun _ => ?_)
              · exact hk31 ()
              · refine sm_go 2 (s' := (84, ([lR 56, lI (iOr x2 (iShl 1 v8)), lI x3, lI x4, lI (x19 + v29), lI x20, lI x21], ([sI x21, sR 56], (mSH r tl, (G1, nk)))))) ?_ rfl
                refine sm_callG (rest := []) (T_X11_length scr (d + 2) r tl nk G1 x21) rfl (Or.inl rfl) rfl rfl rfl rfl (fun _ => rfl) (fun v32 => (87, ([lR 56, lI (iOr x2 (iShl 1 v8)), lI x3, lI x4, lI (x19 + v29), lI x20, lI x21], ([sI v32], (mSH r tl, (G1, nk)))))) (fun _ => rfl) fun v32 => ?_
                refine sm_go 2 (s' := (90, ([lR 56, lI (iOr x2 (iShl 1 v8)), lI x3, lI x4, lI (x19 + v29), lI x20, lI x21], ([sI x20, sR 56, sI v32], (mSH r tl, (G1, nk)))))) ?_ rfl
                refine sm_callG (rest := [sI v32]) (T_X11_length scr (d + 2) r tl nk G1 x20) rfl (Or.inl rfl) rfl rfl rfl rfl (fun _ => rfl) (fun v33 => (93, ([lR 56, lI (iOr x2 (iShl 1 v8)), lI x3, lI x4, lI (x19 + v29), lI x20, lI x21], ([sI v33, sI v32], (mSH r tl, (G1, nk)))))) (fun _ => rfl) fun v33 => ?_
                refine sm_if2 (t := (ilt v32 v33)) (pt := 100) rfl rfl rfl (fun _ => ?_) (fun _ => ?_)
                · exact hk28 () (x19 + v29) x20
                · exact hk31 ()
      · exact hk18 (lI x21) x19 x20
  · refine sm_go 1 (s' := (148, ([lR 56, lI x2, lI x3, lI x4, g5.1, g5.2.1, g5.2.2], ([sI x3], (mSH r tl, (G1, nk)))))) ?_ rfl
    exact sm_retI rfl rfl rfl
def P_X11_fewestLate (G : mG) : Option (Int × mG) :=
(pst G 56 3 0).bind fun G1 =>
(P_X11_dropped G1).bind fun z2 =>
loop2 LF (fun again6 (x3 : Int) (x4 : Int) =>
bif (ilt x4 6) then
again6 (x3 + (iAnd (iShr z2.1 x4) 1)) (x4 + 1)
else
some (x3, z2.2)) 0 0
set_option maxRecDepth 100000 in
theorem T_X11_fewestLate (scr : mScr) (d : Nat) (r : List (Option Nat)) (tl : List mSh) (nk : Nat × Nat) (G : mG)  : SimC scr (d + 8) 216 [sR 56] (mSH r tl, (G, nk)) (e1I r tl nk) (P_X11_fewestLate G) := by
  refine sm_callX (cs := mc_X11_fewestLate) (maxL := 4) (rk := 0) (o := 11) (hs := []) (d := d + 7) [lR 56, none, none, none] rfl rfl rfl rfl ?_
  unfold P_X11_fewestLate
  refine sm_go 2 (s' := (2, ([lR 56, none, none, none], ([sI 0, sR 56], (mSH r tl, (G, nk)))))) ?_ rfl
  refine sm_pst rfl rfl rfl fun G1 => ?_
  refine sm_go 1 (s' := (6, ([lR 56, none, none, none], ([sR 56], (mSH r tl, (G1, nk)))))) ?_ rfl
  refine sm_callG (rest := []) (T_X11_dropped scr d r tl nk G1) rfl (Or.inl rfl) rfl rfl rfl rfl (fun _ => rfl) (fun z2 => (9, ([lR 56, none, none, none], ([sI z2.1], (mSH r tl, (z2.2, nk)))))) (fun _ => rfl) fun z2 => ?_
  refine sm_go 5 (s' := (14, ([lR 56, lI z2.1, lI 0, lI 0], ([], (mSH r tl, (z2.2, nk)))))) ?_ rfl
  refine sm_loop2 (S := fun (g5 : Unit) (x3 : Int) (x4 : Int) => (14, ([lR 56, lI z2.1, lI x3, lI x4], ([], (mSH r tl, (z2.2, nk)))))) ?_ LF () 0 0
  intro again6 hagain6 g5 x3 x4
  refine sm_go 2 (s' := (17, ([lR 56, lI z2.1, lI x3, lI x4], ([sI 6, sI x4], (mSH r tl, (z2.2, nk)))))) ?_ rfl
  refine sm_if2n (t := (ilt x4 6)) (pt := 34) rfl rfl rfl (fun _ => ?_) (fun _ => ?_)
  · exact sm_go 10 (hagain6 () (x3 + (iAnd (iShr z2.1 x4) 1)) (x4 + 1)) rfl
  · refine sm_go 1 (s' := (35, ([lR 56, lI z2.1, lI x3, lI x4], ([sI x3], (mSH r tl, (z2.2, nk)))))) ?_ rfl
    exact sm_retI rfl rfl rfl
noncomputable def P_X10_isDropped (p1 : Int) (W : mW) : Option ((Bool ⊕ Nat) × mW) :=
thrB (P_X10_needJob p1 W) fun v2 W3 =>
(P_X5_droppedJobs W3.2.2.1).bind fun z4 =>
bif (ieq (iAnd z4.1 (iShl 1 p1)) 0) then
some (.inl false, (W3.1, (W3.2.1, (z4.2, W3.2.2.2))))
else
some (.inl true, (W3.1, (W3.2.1, (z4.2, W3.2.2.2))))
set_option maxRecDepth 100000 in
theorem T_X10_isDropped (scr : mScr) (d : Nat) (W : mW)  (p1 : Int) : SimC scr (d + 4) 107 [sR 0, sI p1] (mkM W) (e2B) (P_X10_isDropped p1 W) := by
  refine sm_callX (cs := mc_X10_isDropped) (maxL := 2) (rk := 1) (o := 10) (hs := []) (d := d + 3) [lR 0, lI p1] rfl rfl rfl rfl ?_
  unfold P_X10_isDropped
  refine sm_go 2 (s' := (2, ([lR 0, lI p1], ([sI p1, sR 0], (mSH W.1 W.2.1, (W.2.2.1, W.2.2.2)))))) ?_ rfl
  refine sm_thr (rest := []) (T_X10_needJob scr (d + 2) W p1) rfl (Or.inl rfl) rfl rfl rfl rfl (fun _ _ => rfl) (fun _ _ => rfl) (fun v2 W3 => (5, ([lR 0, lI p1], ([], (mSH W3.1 W3.2.1, (W3.2.2.1, W3.2.2.2)))))) (fun _ _ => rfl) fun v2 W3 => ?_
  refine sm_go 2 (s' := (9, ([lR 0, lI p1], ([sR 44], (mSH W3.1 W3.2.1, (W3.2.2.1, W3.2.2.2)))))) ?_ rfl
  refine sm_callG (rest := []) (T_X5_droppedJobs scr d W3.1 W3.2.1 W3.2.2.2 W3.2.2.1) rfl (Or.inl rfl) rfl rfl rfl rfl (fun _ => rfl) (fun z4 => (12, ([lR 0, lI p1], ([sI z4.1], (mSH W3.1 W3.2.1, (z4.2, W3.2.2.2)))))) (fun _ => rfl) fun z4 => ?_
  refine sm_go 4 (s' := (16, ([lR 0, lI p1], ([sI (iAnd z4.1 (iShl 1 p1))], (mSH W3.1 W3.2.1, (z4.2, W3.2.2.2)))))) ?_ rfl
  refine sm_if1 (t := (ieq (iAnd z4.1 (iShl 1 p1)) 0)) (pt := 23) rfl rfl rfl (fun _ => ?_) (fun _ => ?_)
  · refine sm_go 1 (s' := (24, ([lR 0, lI p1], ([sI 0], (mSH W3.1 W3.2.1, (z4.2, W3.2.2.2)))))) ?_ rfl
    exact sm_retB1 (b := false) rfl rfl
  · refine sm_go 2 (s' := (24, ([lR 0, lI p1], ([sI 1], (mSH W3.1 W3.2.1, (z4.2, W3.2.2.2)))))) ?_ rfl
    exact sm_retB1 (b := true) rfl rfl
noncomputable def P_L_isDropped (p1 : Int) (W : mW) : Option ((Int ⊕ Nat) × mW) :=
ctcB (P_X10_isDropped p1 W) (fun v2 W3 =>
bif v2 then
(ast W3.2.2.1 74 1 0 1).bind fun G6 =>
some (.inl 0, (W3.1, (W3.2.1, (G6, W3.2.2.2))))
else
(ast W3.2.2.1 74 1 0 0).bind fun G5 =>
some (.inl 0, (W3.1, (W3.2.1, (G5, W3.2.2.2))))) (fun W4 =>
some (.inl 1, W4)) (fun _ => none) (fun _ => none)
set_option maxRecDepth 100000 in
theorem T_L_isDropped (scr : mScr) (d : Nat) (W : mW)  (p1 : Int) : SimC scr (d + 5) 268 [sR 0, sI p1, sR 74] (mkM W) (e2I) (P_L_isDropped p1 W) := by
  refine sm_callX (cs := mc_L_isDropped) (maxL := 4) (rk := 0) (o := 112) (hs := [(0, (16, (19, 0)))]) (d := d + 4) [lR 0, lI p1, lR 74, none] rfl rfl rfl rfl ?_
  unfold P_L_isDropped
  refine sm_go 4 (s' := (4, ([lR 0, lI p1, lR 74, none], ([sI p1, sR 0, sI 0, sR 74], (mSH W.1 W.2.1, (W.2.2.1, W.2.2.2)))))) ?_ rfl
  refine sm_ctc (rest := [sI 0, sR 74]) (T_X10_isDropped scr d W p1) rfl (Or.inl rfl) rfl rfl rfl rfl (fun _ _ => rfl) (fun v2 W3 => (7, ([lR 0, lI p1, lR 74, none], ([sI (b2i v2), sI 0, sR 74], (mSH W3.1 W3.2.1, (W3.2.2.1, W3.2.2.2)))))) (fun _ _ => rfl) (fun v2 W3 => ?_) (Or.inl ⟨19, rfl, fun W4 => ?_⟩) (Or.inr rfl) (Or.inr rfl)
  · refine sm_if1n (t := v2) (pt := 14) (mCmpB_eq v2) rfl rfl (fun _ => ?_) (fun _ => ?_)
    · refine sm_go 2 (s' := (15, ([lR 0, lI p1, lR 74, none], ([sL 1, sI 0, sR 74], (mSH W3.1 W3.2.1, (W3.2.2.1, W3.2.2.2)))))) ?_ rfl
      refine sm_lst rfl rfl fun G6 => ?_
      refine sm_go 1 (s' := (22, ([lR 0, lI p1, lR 74, none], ([], (mSH W3.1 W3.2.1, (G6, W3.2.2.2)))))) ?_ rfl
      refine sm_go 1 (s' := (23, ([lR 0, lI p1, lR 74, none], ([sI 0], (mSH W3.1 W3.2.1, (G6, W3.2.2.2)))))) ?_ rfl
      exact sm_retI rfl rfl rfl
    · refine sm_go 1 (s' := (15, ([lR 0, lI p1, lR 74, none], ([sL 0, sI 0, sR 74], (mSH W3.1 W3.2.1, (W3.2.2.1, W3.2.2.2)))))) ?_ rfl
      refine sm_lst rfl rfl fun G5 => ?_
      refine sm_go 1 (s' := (22, ([lR 0, lI p1, lR 74, none], ([], (mSH W3.1 W3.2.1, (G5, W3.2.2.2)))))) ?_ rfl
      refine sm_go 1 (s' := (23, ([lR 0, lI p1, lR 74, none], ([sI 0], (mSH W3.1 W3.2.1, (G5, W3.2.2.2)))))) ?_ rfl
      exact sm_retI rfl rfl rfl
  · refine sm_go 2 (s' := (21, ([lR 0, lI p1, lR 74, lO], ([sI 1], (mSH W4.1 W4.2.1, (W4.2.2.1, W4.2.2.2)))))) ?_ rfl
    exact sm_retI rfl rfl rfl
def P_X11_isDropped (p1 : Int) (G : mG) : Option (Bool × mG) :=
(P_X11_isJob p1 G).bind fun v2 =>
(P_X11_fits (b2i v2) 1 1 G).bind fun z3 =>
letK (fun (G4 : mG) =>
some (false, G4)) fun k6 =>
bif z3.1 then
(P_X11_dropped z3.2).bind fun z7 =>
bif (ieq (iAnd (iShr z7.1 p1) 1) 1) then
some (true, z7.2)
else
k6 z7.2
else
k6 z3.2
set_option maxRecDepth 100000 in
theorem T_X11_isDropped (scr : mScr) (d : Nat) (r : List (Option Nat)) (tl : List mSh) (nk : Nat × Nat) (G : mG)  (p1 : Int) : SimC scr (d + 8) 217 [sR 56, sI p1] (mSH r tl, (G, nk)) (e1B r tl nk) (P_X11_isDropped p1 G) := by
  refine sm_callX (cs := mc_X11_isDropped) (maxL := 2) (rk := 1) (o := 11) (hs := []) (d := d + 7) [lR 56, lI p1] rfl rfl rfl rfl ?_
  unfold P_X11_isDropped
  refine sm_go 3 (s' := (3, ([lR 56, lI p1], ([sI p1, sR 56, sR 56], (mSH r tl, (G, nk)))))) ?_ rfl
  refine sm_callG (rest := [sR 56]) (T_X11_isJob scr (d + 5) r tl nk G p1) rfl (Or.inl rfl) rfl rfl rfl rfl (fun _ => rfl) (fun v2 => (6, ([lR 56, lI p1], ([sI (b2i v2), sR 56], (mSH r tl, (G, nk)))))) (fun _ => rfl) fun v2 => ?_
  refine sm_go 2 (s' := (8, ([lR 56, lI p1], ([sI 1, sI 1, sI (b2i v2), sR 56], (mSH r tl, (G, nk)))))) ?_ rfl
  refine sm_callG (rest := []) (T_X11_fits scr (d + 6) r tl nk G (b2i v2) 1 1) rfl (Or.inl rfl) rfl rfl rfl rfl (fun _ => rfl) (fun z3 => (11, ([lR 56, lI p1], ([sI (b2i z3.1)], (mSH r tl, (z3.2, nk)))))) (fun _ => rfl) fun z3 => ?_
  refine sm_letK1 (S := fun (g5 : Unit) (G4 : mG) => (30, ([lR 56, lI p1], ([], (mSH r tl, (G4, nk)))))) ?_ ?_
  · intro g5 G4
    refine sm_go 1 (s' := (31, ([lR 56, lI p1], ([sI 0], (mSH r tl, (G4, nk)))))) ?_ rfl
    exact sm_retB1 (b := false) rfl rfl
  · intro k6 hk6
    refine sm_if1n (t := z3.1) (pt := 30) (mCmpB_eq z3.1) rfl rfl (fun _ => ?_) (fun _ => ?_)
    · refine sm_go 1 (s' := (15, ([lR 56, lI p1], ([sR 56], (mSH r tl, (z3.2, nk)))))) ?_ rfl
      refine sm_callG (rest := []) (T_X11_dropped scr d r tl nk z3.2) rfl (Or.inl rfl) rfl rfl rfl rfl (fun _ => rfl) (fun z7 => (18, ([lR 56, lI p1], ([sI z7.1], (mSH r tl, (z7.2, nk)))))) (fun _ => rfl) fun z7 => ?_
      refine sm_go 5 (s' := (23, ([lR 56, lI p1], ([sI 1, sI (iAnd (iShr z7.1 p1) 1)], (mSH r tl, (z7.2, nk)))))) ?_ rfl
      refine sm_if2n (t := (ieq (iAnd (iShr z7.1 p1) 1) 1)) (pt := 30) rfl rfl rfl (fun _ => ?_) (fun _ => ?_)
      · refine sm_go 2 (s' := (31, ([lR 56, lI p1], ([sI 1], (mSH r tl, (z7.2, nk)))))) ?_ rfl
        exact sm_retB1 (b := true) rfl rfl
      · exact hk6 () z7.2
    · exact hk6 () z3.2
def P_X5_hoursOfStep (p1 : Int) (p2 : Int) (G : mG) : Option (Int) :=
(ald G 6 6 p1).bind fun v3 =>
bif (ilt p2 v3) then
(ald G 8 30 ((p1 * 5) + p2)).bind fun v4 =>
some v4
else
some 0
set_option maxRecDepth 100000 in
theorem T_X5_hoursOfStep (scr : mScr) (d : Nat) (r : List (Option Nat)) (tl : List mSh) (nk : Nat × Nat) (G : mG)  (p1 : Int) (p2 : Int) : SimC scr (d + 1) 23 [sR 44, sI p1, sI p2] (mSH r tl, (G, nk)) (e0I (mSH r tl, (G, nk))) (P_X5_hoursOfStep p1 p2 G) := by
  refine sm_callX (cs := mc_X5_hoursOfStep) (maxL := 3) (rk := 0) (o := 5) (hs := []) (d := d + 0) [lR 44, lI p1, lI p2] rfl rfl rfl rfl ?_
  unfold P_X5_hoursOfStep
  refine sm_go 5 (s' := (9, ([lR 44, lI p1, lI p2], ([sI p1, sR 6, sI p2], (mSH r tl, (G, nk)))))) ?_ rfl
  refine sm_ald rfl rfl fun v3 => ?_
  refine sm_if2n (t := (ilt p2 v3)) (pt := 29) rfl rfl rfl (fun _ => ?_) (fun _ => ?_)
  · refine sm_go 8 (s' := (25, ([lR 44, lI p1, lI p2], ([sI ((p1 * 5) + p2), sR 8], (mSH r tl, (G, nk)))))) ?_ rfl
    refine sm_ald rfl rfl fun v4 => ?_
    refine sm_go 1 (s' := (30, ([lR 44, lI p1, lI p2], ([sI v4], (mSH r tl, (G, nk)))))) ?_ rfl
    exact sm_retI rfl rfl rfl
  · refine sm_go 1 (s' := (30, ([lR 44, lI p1, lI p2], ([sI 0], (mSH r tl, (G, nk)))))) ?_ rfl
    exact sm_retI rfl rfl rfl
def P_X5_sortForTwo (G : mG) : Option (mG) :=
(P_X3_clear G).bind fun G1 =>
loop2 LF (fun again5 (x2 : Int) (G3 : mG) =>
bif (ilt x2 (G3 1 0)) then
(P_X5_hoursOfStep x2 0 G3).bind fun v6 =>
(P_X5_hoursOfStep x2 1 G3).bind fun v7 =>
letK (fun (x8 : Int) =>
(P_X3_insert x2 x8 G3).bind fun G10 =>
again5 (x2 + 1) G10) fun k11 =>
bif (ilt v6 v7) then
k11 v6
else
k11 (101 - v7)
else
some G3) 0 G1
set_option maxRecDepth 100000 in
theorem T_X5_sortForTwo (scr : mScr) (d : Nat) (r : List (Option Nat)) (tl : List mSh) (nk : Nat × Nat) (G : mG)  : SimC scr (d + 2) 24 [sR 44] (mSH r tl, (G, nk)) (e1U r tl nk) (P_X5_sortForTwo G) := by
  refine sm_callX (cs := mc_X5_sortForTwo) (maxL := 4) (rk := 0) (o := 5) (hs := []) (d := d + 1) [lR 44, none, none, none] rfl rfl rfl rfl ?_
  unfold P_X5_sortForTwo
  refine sm_go 2 (s' := (4, ([lR 44, none, none, none], ([sR 45], (mSH r tl, (G, nk)))))) ?_ rfl
  refine sm_callG (rest := []) (T_X3_clear scr d r tl nk G) rfl (Or.inl rfl) rfl rfl rfl rfl (fun _ => rfl) (fun G1 => (7, ([lR 44, none, none, none], ([], (mSH r tl, (G1, nk)))))) (fun _ => rfl) fun G1 => ?_
  refine sm_go 2 (s' := (9, ([lR 44, lI 0, none, none], ([], (mSH r tl, (G1, nk)))))) ?_ rfl
  refine sm_loop2 (S := fun (g4 : Option mV × Option mV) (x2 : Int) (G3 : mG) => (9, ([lR 44, lI x2, g4.1, g4.2], ([], (mSH r tl, (G3, nk)))))) ?_ LF (none, none) 0 G1
  intro again5 hagain5 g4 x2 G3
  refine sm_go 4 (s' := (17, ([lR 44, lI x2, g4.1, g4.2], ([sI (G3 1 0), sI x2], (mSH r tl, (G3, nk)))))) ?_ rfl
  refine sm_if2n (t := (ilt x2 (G3 1 0))) (pt := 61) rfl rfl rfl (fun _ => ?_) (fun _ => ?_)
  · refine sm_go 3 (s' := (23, ([lR 44, lI x2, g4.1, g4.2], ([sI 0, sI x2, sR 44], (mSH r tl, (G3, nk)))))) ?_ rfl
    refine sm_callG (rest := []) (T_X5_hoursOfStep scr d r tl nk G3 x2 0) rfl (Or.inl rfl) rfl rfl rfl rfl (fun _ => rfl) (fun v6 => (26, ([lR 44, lI x2, g4.1, g4.2], ([sI v6], (mSH r tl, (G3, nk)))))) (fun _ => rfl) fun v6 => ?_
    refine sm_go 4 (s' := (30, ([lR 44, lI x2, lI v6, g4.2], ([sI 1, sI x2, sR 44], (mSH r tl, (G3, nk)))))) ?_ rfl
    refine sm_callG (rest := []) (T_X5_hoursOfStep scr d r tl nk G3 x2 1) rfl (Or.inl rfl) rfl rfl rfl rfl (fun _ => rfl) (fun v7 => (33, ([lR 44, lI x2, lI v6, g4.2], ([sI v7], (mSH r tl, (G3, nk)))))) (fun _ => rfl) fun v7 => ?_
    refine sm_letK1 (S := fun (g9 : Unit) (x8 : Int) => (52, ([lR 44, lI x2, lI v6, lI v7], ([sI x8, sI x2, sR 45], (mSH r tl, (G3, nk)))))) ?_ ?_
    · intro g9 x8
      refine sm_callG (rest := []) (T_X3_insert scr d r tl nk G3 x2 x8) rfl (Or.inl rfl) rfl rfl rfl rfl (fun _ => rfl) (fun G10 => (55, ([lR 44, lI x2, lI v6, lI v7], ([], (mSH r tl, (G10, nk)))))) (fun _ => rfl) fun G10 => ?_
      exact sm_go 2 (hagain5 (lI v6, lI v7) (x2 + 1) G10) rfl
    · intro k11 hk11
      refine sm_go 6 (s' := (41, ([lR 44, lI x2, lI v6, lI v7], ([sI v7, sI v6, sI x2, sR 45], (mSH r tl, (G3, nk)))))) ?_ rfl
      refine sm_if2n (t := (ilt v6 v7)) (pt := 48) rfl rfl rfl (fun _ => ?_) (fun _ => ?_)
      · exact sm_go 2 (hk11 () v6) rfl
      · exact sm_go 3 (hk11 () (101 - v7)) rfl
  · exact sm_retU rfl rfl
def P_X5_endOnTwo (G : mG) : Option (Int × mG) :=
(P_X5_sortForTwo G).bind fun G1 =>
loop3 LF (fun again6 (x2 : Int) (x3 : Int) (x4 : Int) =>
bif (ilt x4 (G1 45 2)) then
(ald G1 46 6 x4).bind fun v7 =>
(P_X5_hoursOfStep v7 0 G1).bind fun v8 =>
(ald G1 46 6 x4).bind fun v9 =>
(P_X5_hoursOfStep v9 1 G1).bind fun v10 =>
again6 (x2 + v8) ((iMax (x2 + v8) x3) + v10) (x4 + 1)
else
some (x3, G1)) 0 0 0
set_option maxRecDepth 100000 in
theorem T_X5_endOnTwo (scr : mScr) (d : Nat) (r : List (Option Nat)) (tl : List mSh) (nk : Nat × Nat) (G : mG)  : SimC scr (d + 3) 25 [sR 44] (mSH r tl, (G, nk)) (e1I r tl nk) (P_X5_endOnTwo G) := by
  refine sm_callX (cs := mc_X5_endOnTwo) (maxL := 4) (rk := 0) (o := 5) (hs := []) (d := d + 2) [lR 44, none, none, none] rfl rfl rfl rfl ?_
  unfold P_X5_endOnTwo
  refine sm_go 1 (s' := (1, ([lR 44, none, none, none], ([sR 44], (mSH r tl, (G, nk)))))) ?_ rfl
  refine sm_callG (rest := []) (T_X5_sortForTwo scr d r tl nk G) rfl (Or.inl rfl) rfl rfl rfl rfl (fun _ => rfl) (fun G1 => (4, ([lR 44, none, none, none], ([], (mSH r tl, (G1, nk)))))) (fun _ => rfl) fun G1 => ?_
  refine sm_go 6 (s' := (10, ([lR 44, lI 0, lI 0, lI 0], ([], (mSH r tl, (G1, nk)))))) ?_ rfl
  refine sm_loop3 (S := fun (g5 : Unit) (x2 : Int) (x3 : Int) (x4 : Int) => (10, ([lR 44, lI x2, lI x3, lI x4], ([], (mSH r tl, (G1, nk)))))) ?_ LF () 0 0 0
  intro again6 hagain6 g5 x2 x3 x4
  refine sm_go 4 (s' := (18, ([lR 44, lI x2, lI x3, lI x4], ([sI (G1 45 2), sI x4], (mSH r tl, (G1, nk)))))) ?_ rfl
  refine sm_if2n (t := (ilt x4 (G1 45 2))) (pt := 65) rfl rfl rfl (fun _ => ?_) (fun _ => ?_)
  · refine sm_go 6 (s' := (31, ([lR 44, lI x2, lI x3, lI x4], ([sI x4, sR 46, sR 44, sI x2], (mSH r tl, (G1, nk)))))) ?_ rfl
    refine sm_ald rfl rfl fun v7 => ?_
    refine sm_go 1 (s' := (33, ([lR 44, lI x2, lI x3, lI x4], ([sI 0, sI v7, sR 44, sI x2], (mSH r tl, (G1, nk)))))) ?_ rfl
    refine sm_callG (rest := [sI x2]) (T_X5_hoursOfStep scr (d + 1) r tl nk G1 v7 0) rfl (Or.inl rfl) rfl rfl rfl rfl (fun _ => rfl) (fun v8 => (36, ([lR 44, lI x2, lI x3, lI x4], ([sI v8, sI x2], (mSH r tl, (G1, nk)))))) (fun _ => rfl) fun v8 => ?_
    refine sm_go 10 (s' := (52, ([lR 44, lI (x2 + v8), lI x3, lI x4], ([sI x4, sR 46, sR 44, sI (iMax (x2 + v8) x3)], (mSH r tl, (G1, nk)))))) ?_ rfl
    refine sm_ald rfl rfl fun v9 => ?_
    refine sm_go 1 (s' := (54, ([lR 44, lI (x2 + v8), lI x3, lI x4], ([sI 1, sI v9, sR 44, sI (iMax (x2 + v8) x3)], (mSH r tl, (G1, nk)))))) ?_ rfl
    refine sm_callG (rest := [sI (iMax (x2 + v8) x3)]) (T_X5_hoursOfStep scr (d + 1) r tl nk G1 v9 1) rfl (Or.inl rfl) rfl rfl rfl rfl (fun _ => rfl) (fun v10 => (57, ([lR 44, lI (x2 + v8), lI x3, lI x4], ([sI v10, sI (iMax (x2 + v8) x3)], (mSH r tl, (G1, nk)))))) (fun _ => rfl) fun v10 => ?_
    exact sm_go 4 (hagain6 () (x2 + v8) ((iMax (x2 + v8) x3) + v10) (x4 + 1)) rfl
  · refine sm_go 1 (s' := (66, ([lR 44, lI x2, lI x3, lI x4], ([sI x3], (mSH r tl, (G1, nk)))))) ?_ rfl
    exact sm_retI rfl rfl rfl
def P_X10_leastEnd (G : mG) : Option (Int × mG) :=
(P_X5_endOnTwo G).bind fun z1 =>
some (z1.1, z1.2)
set_option maxRecDepth 100000 in
theorem T_X10_leastEnd (scr : mScr) (d : Nat) (r : List (Option Nat)) (tl : List mSh) (nk : Nat × Nat) (G : mG)  : SimC scr (d + 4) 108 [sR 0] (mSH r tl, (G, nk)) (e1I r tl nk) (P_X10_leastEnd G) := by
  refine sm_callX (cs := mc_X10_leastEnd) (maxL := 1) (rk := 0) (o := 10) (hs := []) (d := d + 3) [lR 0] rfl rfl rfl rfl ?_
  unfold P_X10_leastEnd
  refine sm_go 2 (s' := (4, ([lR 0], ([sR 44], (mSH r tl, (G, nk)))))) ?_ rfl
  refine sm_callG (rest := []) (T_X5_endOnTwo scr d r tl nk G) rfl (Or.inl rfl) rfl rfl rfl rfl (fun _ => rfl) (fun z1 => (7, ([lR 0], ([sI z1.1], (mSH r tl, (z1.2, nk)))))) (fun _ => rfl) fun z1 => ?_
  exact sm_retI rfl rfl rfl
def P_X11_leastEnd (G : mG) : Option (Int × mG) :=
(pst G 56 3 0).bind fun G1 =>
(P_X11_laysRow 2 G1).bind fun G2 =>
loop3 LF (fun again7 (x3 : Int) (x4 : Int) (x5 : Int) =>
(ald G2 57 282 0).bind fun v8 =>
bif (ilt x5 v8) then
(ald G2 70 6 x5).bind fun v9 =>
(P_X11_part v9 0 G2).bind fun v10 =>
(ald G2 70 6 x5).bind fun v11 =>
(P_X11_part v11 1 G2).bind fun v12 =>
again7 (x3 + v10) ((iMax x4 (x3 + v10)) + v12) (x5 + 1)
else
some (x4, G2)) 0 0 0
set_option maxRecDepth 100000 in
theorem T_X11_leastEnd (scr : mScr) (d : Nat) (r : List (Option Nat)) (tl : List mSh) (nk : Nat × Nat) (G : mG)  : SimC scr (d + 7) 218 [sR 56] (mSH r tl, (G, nk)) (e1I r tl nk) (P_X11_leastEnd G) := by
  refine sm_callX (cs := mc_X11_leastEnd) (maxL := 4) (rk := 0) (o := 11) (hs := []) (d := d + 6) [lR 56, none, none, none] rfl rfl rfl rfl ?_
  unfold P_X11_leastEnd
  refine sm_go 2 (s' := (2, ([lR 56, none, none, none], ([sI 0, sR 56], (mSH r tl, (G, nk)))))) ?_ rfl
  refine sm_pst rfl rfl rfl fun G1 => ?_
  refine sm_go 2 (s' := (7, ([lR 56, none, none, none], ([sI 2, sR 56], (mSH r tl, (G1, nk)))))) ?_ rfl
  refine sm_callG (rest := []) (T_X11_laysRow scr d r tl nk G1 2) rfl (Or.inl rfl) rfl rfl rfl rfl (fun _ => rfl) (fun G2 => (10, ([lR 56, none, none, none], ([], (mSH r tl, (G2, nk)))))) (fun _ => rfl) fun G2 => ?_
  refine sm_go 6 (s' := (16, ([lR 56, lI 0, lI 0, lI 0], ([], (mSH r tl, (G2, nk)))))) ?_ rfl
  refine sm_loop3 (S := fun (g6 : Unit) (x3 : Int) (x4 : Int) (x5 : Int) => (16, ([lR 56, lI x3, lI x4, lI x5], ([], (mSH r tl, (G2, nk)))))) ?_ LF () 0 0 0
  intro again7 hagain7 g6 x3 x4 x5
  refine sm_go 4 (s' := (22, ([lR 56, lI x3, lI x4, lI x5], ([sI 0, sR 57, sI x5], (mSH r tl, (G2, nk)))))) ?_ rfl
  refine sm_ald rfl rfl fun v8 => ?_
  refine sm_if2n (t := (ilt x5 v8)) (pt := 64) rfl rfl rfl (fun _ => ?_) (fun _ => ?_)
  · refine sm_go 5 (s' := (33, ([lR 56, lI x3, lI x4, lI x5], ([sI x5, sR 70, sR 56, sI x3], (mSH r tl, (G2, nk)))))) ?_ rfl
    refine sm_ald rfl rfl fun v9 => ?_
    refine sm_go 1 (s' := (35, ([lR 56, lI x3, lI x4, lI x5], ([sI 0, sI v9, sR 56, sI x3], (mSH r tl, (G2, nk)))))) ?_ rfl
    refine sm_callG (rest := [sI x3]) (T_X11_part scr (d + 3) r tl nk G2 v9 0) rfl (Or.inl rfl) rfl rfl rfl rfl (fun _ => rfl) (fun v10 => (38, ([lR 56, lI x3, lI x4, lI x5], ([sI v10, sI x3], (mSH r tl, (G2, nk)))))) (fun _ => rfl) fun v10 => ?_
    refine sm_go 9 (s' := (51, ([lR 56, lI (x3 + v10), lI x4, lI x5], ([sI x5, sR 70, sR 56, sI (iMax x4 (x3 + v10))], (mSH r tl, (G2, nk)))))) ?_ rfl
    refine sm_ald rfl rfl fun v11 => ?_
    refine sm_go 1 (s' := (53, ([lR 56, lI (x3 + v10), lI x4, lI x5], ([sI 1, sI v11, sR 56, sI (iMax x4 (x3 + v10))], (mSH r tl, (G2, nk)))))) ?_ rfl
    refine sm_callG (rest := [sI (iMax x4 (x3 + v10))]) (T_X11_part scr (d + 3) r tl nk G2 v11 1) rfl (Or.inl rfl) rfl rfl rfl rfl (fun _ => rfl) (fun v12 => (56, ([lR 56, lI (x3 + v10), lI x4, lI x5], ([sI v12, sI (iMax x4 (x3 + v10))], (mSH r tl, (G2, nk)))))) (fun _ => rfl) fun v12 => ?_
    exact sm_go 4 (hagain7 () (x3 + v10) ((iMax x4 (x3 + v10)) + v12) (x5 + 1)) rfl
  · refine sm_go 1 (s' := (65, ([lR 56, lI x3, lI x4, lI x5], ([sI x4], (mSH r tl, (G2, nk)))))) ?_ rfl
    exact sm_retI rfl rfl rfl
noncomputable def P_X10_needPlaceOfJob (p1 : Int) (W : mW) : Option ((Unit ⊕ Nat) × mW) :=
letK (some (.inr 0, (W.1, (W.2.1, (W.2.2.1, (W.2.2.2.1 + 1, W.2.2.2.2 + 6)))))) fun k3 =>
bif (ilt p1 0) then
k3
else
bif (ilt p1 (W.2.2.1 1 0)) then
some (.inl (), W)
else
k3
set_option maxRecDepth 100000 in
theorem T_X10_needPlaceOfJob (scr : mScr) (d : Nat) (W : mW)  (p1 : Int) : SimC scr (d + 1) 123 [sR 0, sI p1] (mkM W) (e2U) (P_X10_needPlaceOfJob p1 W) := by
  refine sm_callX (cs := mc_X10_needPlaceOfJob) (maxL := 2) (rk := 0) (o := 10) (hs := []) (d := d + 0) [lR 0, lI p1] rfl rfl rfl rfl ?_
  unfold P_X10_needPlaceOfJob
  refine sm_letK0 (S := fun (g2 : Unit) => (15, ([lR 0, lI p1], ([], (mSH W.1 W.2.1, (W.2.2.1, W.2.2.2)))))) ?_ ?_
  · intro g2
    exact sm_exc rfl rfl rfl rfl
  · intro k3 hk3
    refine sm_go 1 (s' := (1, ([lR 0, lI p1], ([sI p1], (mSH W.1 W.2.1, (W.2.2.1, W.2.2.2)))))) ?_ rfl
    refine sm_if1 (t := (ilt p1 0)) (pt := 15) rfl rfl rfl (fun _ => ?_) (fun _ => ?_)
    · exact hk3 ()
    · refine sm_go 4 (s' := (12, ([lR 0, lI p1], ([sI (W.2.2.1 1 0), sI p1], (mSH W.1 W.2.1, (W.2.2.1, W.2.2.2)))))) ?_ rfl
      refine sm_if2 (t := (ilt p1 (W.2.2.1 1 0))) (pt := 26) rfl rfl rfl (fun _ => ?_) (fun _ => ?_)
      · exact sm_retU rfl rfl
      · exact hk3 ()
def P_X5_jobOnTwo (p1 : Int) (G : mG) : Option (Int × mG) :=
(P_X5_sortForTwo G).bind fun G2 =>
letK (some ((-1), G2)) fun k4 =>
bif (ilt p1 0) then
k4
else
bif (ilt p1 (G2 45 2)) then
(ald G2 46 6 p1).bind fun v5 =>
some (v5, G2)
else
k4
set_option maxRecDepth 100000 in
theorem T_X5_jobOnTwo (scr : mScr) (d : Nat) (r : List (Option Nat)) (tl : List mSh) (nk : Nat × Nat) (G : mG)  (p1 : Int) : SimC scr (d + 3) 26 [sR 44, sI p1] (mSH r tl, (G, nk)) (e1I r tl nk) (P_X5_jobOnTwo p1 G) := by
  refine sm_callX (cs := mc_X5_jobOnTwo) (maxL := 2) (rk := 0) (o := 5) (hs := []) (d := d + 2) [lR 44, lI p1] rfl rfl rfl rfl ?_
  unfold P_X5_jobOnTwo
  refine sm_go 1 (s' := (1, ([lR 44, lI p1], ([sR 44], (mSH r tl, (G, nk)))))) ?_ rfl
  refine sm_callG (rest := []) (T_X5_sortForTwo scr d r tl nk G) rfl (Or.inl rfl) rfl rfl rfl rfl (fun _ => rfl) (fun G2 => (4, ([lR 44, lI p1], ([], (mSH r tl, (G2, nk)))))) (fun _ => rfl) fun G2 => ?_
  refine sm_letK0 (S := fun (g3 : Unit) => (31, ([lR 44, lI p1], ([], (mSH r tl, (G2, nk)))))) ?_ ?_
  · intro g3
    refine sm_go 1 (s' := (32, ([lR 44, lI p1], ([sI (-1)], (mSH r tl, (G2, nk)))))) ?_ rfl
    exact sm_retI rfl rfl rfl
  · intro k4 hk4
    refine sm_go 1 (s' := (5, ([lR 44, lI p1], ([sI p1], (mSH r tl, (G2, nk)))))) ?_ rfl
    refine sm_if1 (t := (ilt p1 0)) (pt := 31) rfl rfl rfl (fun _ => ?_) (fun _ => ?_)
    · exact hk4 ()
    · refine sm_go 4 (s' := (16, ([lR 44, lI p1], ([sI (G2 45 2), sI p1], (mSH r tl, (G2, nk)))))) ?_ rfl
      refine sm_if2n (t := (ilt p1 (G2 45 2))) (pt := 31) rfl rfl rfl (fun _ => ?_) (fun _ => ?_)
      · refine sm_go 4 (s' := (27, ([lR 44, lI p1], ([sI p1, sR 46], (mSH r tl, (G2, nk)))))) ?_ rfl
        refine sm_ald rfl rfl fun v5 => ?_
        refine sm_go 1 (s' := (32, ([lR 44, lI p1], ([sI v5], (mSH r tl, (G2, nk)))))) ?_ rfl
        exact sm_retI rfl rfl rfl
      · exact hk4 ()
