/-! ===== programs as functions, 25 8: printed by wip/whole/gen/gen_p_out.py ===== -/
def P_X11_doneIn (p1 : Int) (p2 : Int) (G : mG) : Option (Int × mG) :=
(P_X11_in p1 0 3).bind fun v3 =>
(P_X11_in p2 0 5000).bind fun v4 =>
(P_X11_isPlanned G).bind fun z5 =>
(P_X11_fits (b2i v3) (b2i v4) (b2i z5.1) z5.2).bind fun z6 =>
bif z6.1 then
loop2 LF (fun again10 (x7 : Int) (x8 : Int) =>
(ald z6.2 57 282 0).bind fun v11 =>
bif (ilt x8 v11) then
letK (fun (x12 : Int) =>
again10 x12 (x8 + 1)) fun k14 =>
loop2 LF (fun again18 (x15 : Int) (x16 : Int) =>
(P_X11_of x8 4 z6.2).bind fun v19 =>
bif (ilt x16 v19) then
(P_X11_machineOf x8 x16 z6.2).bind fun v20 =>
letK (fun (x21 : Int) =>
again18 x21 (x16 + 1)) fun k23 =>
bif (ieq v20 p1) then
(P_X11_isDone x8 x16 p2 z6.2).bind fun v24 =>
bif v24 then
k23 x8
else
k23 x15
else
k23 x15
else
k14 x15) x7 0
else
some (x7, z6.2)) (-1) 0
else
some (0, z6.2)
set_option maxRecDepth 100000 in
theorem T_X11_doneIn (scr : mScr) (d : Nat) (r : List (Option Nat)) (tl : List mSh) (nk : Nat × Nat) (G : mG)  (p1 : Int) (p2 : Int) : SimC scr (d + 7) 197 [sR 56, sI p1, sI p2] (mSH r tl, (G, nk)) (e1I r tl nk) (P_X11_doneIn p1 p2 G) := by
  refine sm_callX (cs := mc_X11_doneIn) (maxL := 6) (rk := 0) (o := 11) (hs := []) (d := d + 6) [lR 56, lI p1, lI p2, none, none, none] rfl rfl rfl rfl ?_
  unfold P_X11_doneIn
  refine sm_go 4 (s' := (4, ([lR 56, lI p1, lI p2, none, none, none], ([sI 3, sI 0, sI p1, sR 56], (mSH r tl, (G, nk)))))) ?_ rfl
  refine sm_callG (rest := [sR 56]) (T_X11_in scr (d + 5) r tl nk G p1 0 3) rfl (Or.inr (Or.inl rfl)) rfl rfl rfl rfl (fun _ => rfl) (fun v3 => (7, ([lR 56, lI p1, lI p2, none, none, none], ([sI (b2i v3), sR 56], (mSH r tl, (G, nk)))))) (fun _ => rfl) fun v3 => ?_
  refine sm_go 3 (s' := (12, ([lR 56, lI p1, lI p2, none, none, none], ([sI 5000, sI 0, sI p2, sI (b2i v3), sR 56], (mSH r tl, (G, nk)))))) ?_ rfl
  refine sm_callG (rest := [sI (b2i v3), sR 56]) (T_X11_in scr (d + 5) r tl nk G p2 0 5000) rfl (Or.inr (Or.inl rfl)) rfl rfl rfl rfl (fun _ => rfl) (fun v4 => (15, ([lR 56, lI p1, lI p2, none, none, none], ([sI (b2i v4), sI (b2i v3), sR 56], (mSH r tl, (G, nk)))))) (fun _ => rfl) fun v4 => ?_
  refine sm_go 1 (s' := (16, ([lR 56, lI p1, lI p2, none, none, none], ([sR 56, sI (b2i v4), sI (b2i v3), sR 56], (mSH r tl, (G, nk)))))) ?_ rfl
  refine sm_callG (rest := [sI (b2i v4), sI (b2i v3), sR 56]) (T_X11_isPlanned scr d r tl nk G) rfl (Or.inl rfl) rfl rfl rfl rfl (fun _ => rfl) (fun z5 => (19, ([lR 56, lI p1, lI p2, none, none, none], ([sI (b2i z5.1), sI (b2i v4), sI (b2i v3), sR 56], (mSH r tl, (z5.2, nk)))))) (fun _ => rfl) fun z5 => ?_
  refine sm_callG (rest := []) (T_X11_fits scr (d + 5) r tl nk z5.2 (b2i v3) (b2i v4) (b2i z5.1)) rfl (Or.inl rfl) rfl rfl rfl rfl (fun _ => rfl) (fun z6 => (22, ([lR 56, lI p1, lI p2, none, none, none], ([sI (b2i z6.1)], (mSH r tl, (z6.2, nk)))))) (fun _ => rfl) fun z6 => ?_
  refine sm_if1 (t := z6.1) (pt := 27) (mCmpB_ne z6.1) rfl rfl (fun _ => ?_) (fun _ => ?_)
  · refine sm_go 4 (s' := (32, ([lR 56, lI p1, lI p2, lI (-1), lI 0, none], ([], (mSH r tl, (z6.2, nk)))))) ?_ rfl
    refine sm_loop2 (S := fun (g9 : Option mV) (x7 : Int) (x8 : Int) => (32, ([lR 56, lI p1, lI p2, lI x7, lI x8, g9], ([], (mSH r tl, (z6.2, nk)))))) ?_ LF (none) (-1) 0
    intro again10 hagain10 g9 x7 x8
    refine sm_go 4 (s' := (39, ([lR 56, lI p1, lI p2, lI x7, lI x8, g9], ([sI 0, sR 57, sI x8], (mSH r tl, (z6.2, nk)))))) ?_ rfl
    refine sm_ald rfl rfl fun v11 => ?_
    refine sm_if2n (t := (ilt x8 v11)) (pt := 97) rfl rfl rfl (fun _ => ?_) (fun _ => ?_)
    · refine sm_go 2 (s' := (46, ([lR 56, lI p1, lI p2, lI x7, lI x8, lI 0], ([], (mSH r tl, (z6.2, nk)))))) ?_ rfl
      refine sm_letK1 (S := fun (g13 : Option mV) (x12 : Int) => (91, ([lR 56, lI p1, lI p2, lI x12, lI x8, g13], ([], (mSH r tl, (z6.2, nk)))))) ?_ ?_
      · intro g13 x12
        exact sm_go 2 (hagain10 (g13) x12 (x8 + 1)) rfl
      · intro k14 hk14
        refine sm_loop2 (S := fun (g17 : Unit) (x15 : Int) (x16 : Int) => (46, ([lR 56, lI p1, lI p2, lI x15, lI x8, lI x16], ([], (mSH r tl, (z6.2, nk)))))) ?_ LF () x7 0
        intro again18 hagain18 g17 x15 x16
        refine sm_go 4 (s' := (52, ([lR 56, lI p1, lI p2, lI x15, lI x8, lI x16], ([sI 4, sI x8, sR 56, sI x16], (mSH r tl, (z6.2, nk)))))) ?_ rfl
        refine sm_callG (rest := [sI x16]) (T_X11_of scr (d + 5) r tl nk z6.2 x8 4) rfl (Or.inl rfl) rfl rfl rfl rfl (fun _ => rfl) (fun v19 => (55, ([lR 56, lI p1, lI p2, lI x15, lI x8, lI x16], ([sI v19, sI x16], (mSH r tl, (z6.2, nk)))))) (fun _ => rfl) fun v19 => ?_
        refine sm_if2n (t := (ilt x16 v19)) (pt := 91) rfl rfl rfl (fun _ => ?_) (fun _ => ?_)
        · refine sm_go 3 (s' := (63, ([lR 56, lI p1, lI p2, lI x15, lI x8, lI x16], ([sI x16, sI x8, sR 56], (mSH r tl, (z6.2, nk)))))) ?_ rfl
          refine sm_callG (rest := []) (T_X11_machineOf scr (d + 4) r tl nk z6.2 x8 x16) rfl (Or.inl rfl) rfl rfl rfl rfl (fun _ => rfl) (fun v20 => (66, ([lR 56, lI p1, lI p2, lI x15, lI x8, lI x16], ([sI v20], (mSH r tl, (z6.2, nk)))))) (fun _ => rfl) fun v20 => ?_
          refine sm_letK1 (S := fun (g22 : Unit) (x21 : Int) => (85, ([lR 56, lI p1, lI p2, lI x21, lI x8, lI x16], ([], (mSH r tl, (z6.2, nk)))))) ?_ ?_
          · intro g22 x21
            exact sm_go 2 (hagain18 () x21 (x16 + 1)) rfl
          · intro k23 hk23
            refine sm_go 1 (s' := (67, ([lR 56, lI p1, lI p2, lI x15, lI x8, lI x16], ([sI p1, sI v20], (mSH r tl, (z6.2, nk)))))) ?_ rfl
            refine sm_if2n (t := (ieq v20 p1)) (pt := 85) rfl rfl rfl (fun _ => ?_) (fun _ => ?_)
            · refine sm_go 4 (s' := (76, ([lR 56, lI p1, lI p2, lI x15, lI x8, lI x16], ([sI p2, sI x16, sI x8, sR 56], (mSH r tl, (z6.2, nk)))))) ?_ rfl
              refine sm_callG (rest := []) (T_X11_isDone scr (d + 2) r tl nk z6.2 x8 x16 p2) rfl (Or.inl rfl) rfl rfl rfl rfl (fun _ => rfl) (fun v24 => (79, ([lR 56, lI p1, lI p2, lI x15, lI x8, lI x16], ([sI (b2i v24)], (mSH r tl, (z6.2, nk)))))) (fun _ => rfl) fun v24 => ?_
              refine sm_if1n (t := v24) (pt := 85) (mCmpB_eq v24) rfl rfl (fun _ => ?_) (fun _ => ?_)
              · exact sm_go 2 (hk23 () x8) rfl
              · exact hk23 () x15
            · exact hk23 () x15
        · exact hk14 (lI x16) x15
    · refine sm_go 1 (s' := (98, ([lR 56, lI p1, lI p2, lI x7, lI x8, g9], ([sI x7], (mSH r tl, (z6.2, nk)))))) ?_ rfl
      exact sm_retI rfl rfl rfl
  · refine sm_go 1 (s' := (26, ([lR 56, lI p1, lI p2, none, none, none], ([sI 0], (mSH r tl, (z6.2, nk)))))) ?_ rfl
    exact sm_retI rfl rfl rfl
def P_X9_latestStep (G : mG) : Option (Int) :=
loop2 LF (fun again4 (x1 : Int) (x2 : Int) =>
bif (ilt x2 (G 1 0)) then
(ald G 19 6 x2).bind fun v5 =>
letK (fun (x6 : Int) =>
again4 x6 (x2 + 1)) fun k8 =>
bif (ilt 0 v5) then
(ald G 19 6 x2).bind fun v9 =>
letK (k8 (((x2 * 5) + v9) - 1)) fun k11 =>
bif (ieq x1 (-1)) then
k11
else
(P_X8_endOfStep 17 (((x2 * 5) + v9) - 1) G).bind fun v12 =>
(P_X8_endOfStep 17 x1 G).bind fun v13 =>
bif (ilt v13 v12) then
k11
else
k8 x1
else
k8 x1
else
some x1) (-1) 0
set_option maxRecDepth 100000 in
theorem T_X9_latestStep (scr : mScr) (d : Nat) (r : List (Option Nat)) (tl : List mSh) (nk : Nat × Nat) (G : mG)  : SimC scr (d + 2) 72 [sR 40] (mSH r tl, (G, nk)) (e0I (mSH r tl, (G, nk))) (P_X9_latestStep G) := by
  refine sm_callX (cs := mc_X9_latestStep) (maxL := 4) (rk := 0) (o := 9) (hs := []) (d := d + 1) [lR 40, none, none, none] rfl rfl rfl rfl ?_
  unfold P_X9_latestStep
  refine sm_go 4 (s' := (4, ([lR 40, lI (-1), lI 0, none], ([], (mSH r tl, (G, nk)))))) ?_ rfl
  refine sm_loop2 (S := fun (g3 : Option mV) (x1 : Int) (x2 : Int) => (4, ([lR 40, lI x1, lI x2, g3], ([], (mSH r tl, (G, nk)))))) ?_ LF (none) (-1) 0
  intro again4 hagain4 g3 x1 x2
  refine sm_go 4 (s' := (12, ([lR 40, lI x1, lI x2, g3], ([sI (G 1 0), sI x2], (mSH r tl, (G, nk)))))) ?_ rfl
  refine sm_if2n (t := (ilt x2 (G 1 0))) (pt := 75) rfl rfl rfl (fun _ => ?_) (fun _ => ?_)
  · refine sm_go 4 (s' := (23, ([lR 40, lI x1, lI x2, g3], ([sI x2, sR 19], (mSH r tl, (G, nk)))))) ?_ rfl
    refine sm_ald rfl rfl fun v5 => ?_
    refine sm_letK1 (S := fun (g7 : Option mV) (x6 : Int) => (69, ([lR 40, lI x6, lI x2, g7], ([], (mSH r tl, (G, nk)))))) ?_ ?_
    · intro g7 x6
      exact sm_go 2 (hagain4 (g7) x6 (x2 + 1)) rfl
    · intro k8 hk8
      refine sm_if1n (t := (ilt 0 v5)) (pt := 69) rfl rfl rfl (fun _ => ?_) (fun _ => ?_)
      · refine sm_go 7 (s' := (38, ([lR 40, lI x1, lI x2, g3], ([sI x2, sR 19, sI (x2 * 5)], (mSH r tl, (G, nk)))))) ?_ rfl
        refine sm_ald rfl rfl fun v9 => ?_
        refine sm_letK0 (S := fun (g10 : Unit) => (67, ([lR 40, lI x1, lI x2, lI (((x2 * 5) + v9) - 1)], ([], (mSH r tl, (G, nk)))))) ?_ ?_
        · intro g10
          exact sm_go 2 (hk8 (lI (((x2 * 5) + v9) - 1)) (((x2 * 5) + v9) - 1)) rfl
        · intro k11 hk11
          refine sm_go 6 (s' := (45, ([lR 40, lI x1, lI x2, lI (((x2 * 5) + v9) - 1)], ([sI (-1), sI x1], (mSH r tl, (G, nk)))))) ?_ rfl
          refine sm_if2 (t := (ieq x1 (-1))) (pt := 67) rfl rfl rfl (fun _ => ?_) (fun _ => ?_)
          · exact hk11 ()
          · refine sm_go 3 (s' := (53, ([lR 40, lI x1, lI x2, lI (((x2 * 5) + v9) - 1)], ([sI (((x2 * 5) + v9) - 1), sR 17], (mSH r tl, (G, nk)))))) ?_ rfl
            refine sm_callG (rest := []) (T_X8_endOfStep_17 scr d r tl nk G (((x2 * 5) + v9) - 1)) rfl (Or.inl rfl) rfl rfl rfl rfl (fun _ => rfl) (fun v12 => (56, ([lR 40, lI x1, lI x2, lI (((x2 * 5) + v9) - 1)], ([sI v12], (mSH r tl, (G, nk)))))) (fun _ => rfl) fun v12 => ?_
            refine sm_go 3 (s' := (61, ([lR 40, lI x1, lI x2, lI (((x2 * 5) + v9) - 1)], ([sI x1, sR 17, sI v12], (mSH r tl, (G, nk)))))) ?_ rfl
            refine sm_callG (rest := [sI v12]) (T_X8_endOfStep_17 scr d r tl nk G x1) rfl (Or.inl rfl) rfl rfl rfl rfl (fun _ => rfl) (fun v13 => (64, ([lR 40, lI x1, lI x2, lI (((x2 * 5) + v9) - 1)], ([sI v13, sI v12], (mSH r tl, (G, nk)))))) (fun _ => rfl) fun v13 => ?_
            refine sm_if2n (t := (ilt v13 v12)) (pt := 69) rfl rfl rfl (fun _ => ?_) (fun _ => ?_)
            · exact hk11 ()
            · exact hk8 (lI (((x2 * 5) + v9) - 1)) x1
      · exact hk8 (g3) x1
  · refine sm_go 1 (s' := (76, ([lR 40, lI x1, lI x2, g3], ([sI x1], (mSH r tl, (G, nk)))))) ?_ rfl
    exact sm_retI rfl rfl rfl
def P_X9_stepAheadOf (p1 : Int) (G : mG) : Option (Int) :=
letK ((ald G 23 30 p1).bind fun v3 =>
bif (ieq v3 (-1)) then
some (-1)
else
(P_X8_endOfStep 17 v3 G).bind fun v4 =>
(ald G 24 30 p1).bind fun v5 =>
(ald G 22 30 p1).bind fun v6 =>
bif (ieq (v4 + v5) v6) then
some v3
else
some (-1)) fun k7 =>
bif (ilt 0 (iRem p1 5)) then
(P_X8_endOfStep 17 (p1 - 1) G).bind fun v8 =>
(ald G 22 30 p1).bind fun v9 =>
bif (ieq v8 v9) then
some (p1 - 1)
else
k7
else
k7
set_option maxRecDepth 100000 in
theorem T_X9_stepAheadOf (scr : mScr) (d : Nat) (r : List (Option Nat)) (tl : List mSh) (nk : Nat × Nat) (G : mG)  (p1 : Int) : SimC scr (d + 2) 73 [sR 40, sI p1] (mSH r tl, (G, nk)) (e0I (mSH r tl, (G, nk))) (P_X9_stepAheadOf p1 G) := by
  refine sm_callX (cs := mc_X9_stepAheadOf) (maxL := 3) (rk := 0) (o := 9) (hs := []) (d := d + 1) [lR 40, lI p1, none] rfl rfl rfl rfl ?_
  unfold P_X9_stepAheadOf
  refine sm_letK0 (S := fun (g2 : Unit) => (32, ([lR 40, lI p1, none], ([], (mSH r tl, (G, nk)))))) ?_ ?_
  · intro g2
    refine sm_go 4 (s' := (40, ([lR 40, lI p1, none], ([sI p1, sR 23], (mSH r tl, (G, nk)))))) ?_ rfl
    refine sm_ald rfl rfl fun v3 => ?_
    refine sm_go 3 (s' := (44, ([lR 40, lI p1, lI v3], ([sI (-1), sI v3], (mSH r tl, (G, nk)))))) ?_ rfl
    refine sm_if2 (t := (ieq v3 (-1))) (pt := 79) rfl rfl rfl (fun _ => ?_) (fun _ => ?_)
    · refine sm_go 1 (s' := (80, ([lR 40, lI p1, lI v3], ([sI (-1)], (mSH r tl, (G, nk)))))) ?_ rfl
      exact sm_retI rfl rfl rfl
    · refine sm_go 3 (s' := (52, ([lR 40, lI p1, lI v3], ([sI v3, sR 17], (mSH r tl, (G, nk)))))) ?_ rfl
      refine sm_callG (rest := []) (T_X8_endOfStep_17 scr d r tl nk G v3) rfl (Or.inl rfl) rfl rfl rfl rfl (fun _ => rfl) (fun v4 => (55, ([lR 40, lI p1, lI v3], ([sI v4], (mSH r tl, (G, nk)))))) (fun _ => rfl) fun v4 => ?_
      refine sm_go 4 (s' := (63, ([lR 40, lI p1, lI v3], ([sI p1, sR 24, sI v4], (mSH r tl, (G, nk)))))) ?_ rfl
      refine sm_ald rfl rfl fun v5 => ?_
      refine sm_go 5 (s' := (73, ([lR 40, lI p1, lI v3], ([sI p1, sR 22, sI (v4 + v5)], (mSH r tl, (G, nk)))))) ?_ rfl
      refine sm_ald rfl rfl fun v6 => ?_
      refine sm_if2n (t := (ieq (v4 + v5) v6)) (pt := 79) rfl rfl rfl (fun _ => ?_) (fun _ => ?_)
      · refine sm_go 1 (s' := (78, ([lR 40, lI p1, lI v3], ([sI v3], (mSH r tl, (G, nk)))))) ?_ rfl
        exact sm_retI rfl rfl rfl
      · refine sm_go 1 (s' := (80, ([lR 40, lI p1, lI v3], ([sI (-1)], (mSH r tl, (G, nk)))))) ?_ rfl
        exact sm_retI rfl rfl rfl
  · intro k7 hk7
    refine sm_go 3 (s' := (3, ([lR 40, lI p1, none], ([sI (iRem p1 5)], (mSH r tl, (G, nk)))))) ?_ rfl
    refine sm_if1n (t := (ilt 0 (iRem p1 5))) (pt := 32) rfl rfl rfl (fun _ => ?_) (fun _ => ?_)
    · refine sm_go 5 (s' := (13, ([lR 40, lI p1, none], ([sI (p1 - 1), sR 17], (mSH r tl, (G, nk)))))) ?_ rfl
      refine sm_callG (rest := []) (T_X8_endOfStep_17 scr d r tl nk G (p1 - 1)) rfl (Or.inl rfl) rfl rfl rfl rfl (fun _ => rfl) (fun v8 => (16, ([lR 40, lI p1, none], ([sI v8], (mSH r tl, (G, nk)))))) (fun _ => rfl) fun v8 => ?_
      refine sm_go 4 (s' := (24, ([lR 40, lI p1, none], ([sI p1, sR 22, sI v8], (mSH r tl, (G, nk)))))) ?_ rfl
      refine sm_ald rfl rfl fun v9 => ?_
      refine sm_if2n (t := (ieq v8 v9)) (pt := 32) rfl rfl rfl (fun _ => ?_) (fun _ => ?_)
      · refine sm_go 3 (s' := (31, ([lR 40, lI p1, none], ([sI (p1 - 1)], (mSH r tl, (G, nk)))))) ?_ rfl
        exact sm_retI rfl rfl rfl
      · exact hk7 ()
    · exact hk7 ()
def P_X9_trace (G : mG) : Option (mG) :=
(pst G 40 3 0).bind fun G1 =>
(pst G1 40 4 0).bind fun G2 =>
(pst G2 40 5 0).bind fun G3 =>
(P_X9_latestStep G3).bind fun v4 =>
loop4 LF (fun again10 (x5 : Int) (x6 : Int) (x7 : Int) (G8 : mG) =>
bif (ieq x7 (-1)) then
some G8
else
bif (ilt (G8 40 3) 30) then
(ast G8 41 30 (G8 40 3) x7).bind fun G11 =>
(pst G11 40 3 ((G11 40 3) + 1)).bind fun G12 =>
(ald G12 7 30 x7).bind fun v13 =>
letK (fun (x14 : Int) =>
letK (fun (x16 : Int) =>
(pst G12 40 4 ((G12 40 4) + x16)).bind fun G18 =>
letK (fun (x19 : Int) =>
(pst G18 40 5 (iMax (G18 40 5) x19)).bind fun G21 =>
(ald G21 7 30 x7).bind fun v22 =>
(P_X9_stepAheadOf x7 G21).bind fun v23 =>
again10 x19 v22 v23 G21) fun k24 =>
bif (ieq x14 0) then
k24 1
else
k24 (x5 + 1)) fun k25 =>
bif (ieq x14 0) then
k25 1
else
k25 0) fun k26 =>
bif (ieq v13 x6) then
k26 1
else
k26 0
else
some G8) 0 (-1) v4 G3
set_option maxRecDepth 100000 in
theorem T_X9_trace (scr : mScr) (d : Nat) (r : List (Option Nat)) (tl : List mSh) (nk : Nat × Nat) (G : mG)  : SimC scr (d + 3) 71 [sR 40] (mSH r tl, (G, nk)) (e1U r tl nk) (P_X9_trace G) := by
  refine sm_callX (cs := mc_X9_trace) (maxL := 5) (rk := 0) (o := 9) (hs := []) (d := d + 2) [lR 40, none, none, none, none] rfl rfl rfl rfl ?_
  unfold P_X9_trace
  refine sm_go 2 (s' := (2, ([lR 40, none, none, none, none], ([sI 0, sR 40], (mSH r tl, (G, nk)))))) ?_ rfl
  refine sm_pst rfl rfl rfl fun G1 => ?_
  refine sm_go 2 (s' := (7, ([lR 40, none, none, none, none], ([sI 0, sR 40], (mSH r tl, (G1, nk)))))) ?_ rfl
  refine sm_pst rfl rfl rfl fun G2 => ?_
  refine sm_go 2 (s' := (12, ([lR 40, none, none, none, none], ([sI 0, sR 40], (mSH r tl, (G2, nk)))))) ?_ rfl
  refine sm_pst rfl rfl rfl fun G3 => ?_
  refine sm_go 5 (s' := (20, ([lR 40, lI 0, lI (-1), none, none], ([sR 40], (mSH r tl, (G3, nk)))))) ?_ rfl
  refine sm_callG (rest := []) (T_X9_latestStep scr d r tl nk G3) rfl (Or.inl rfl) rfl rfl rfl rfl (fun _ => rfl) (fun v4 => (23, ([lR 40, lI 0, lI (-1), none, none], ([sI v4], (mSH r tl, (G3, nk)))))) (fun _ => rfl) fun v4 => ?_
  refine sm_go 1 (s' := (24, ([lR 40, lI 0, lI (-1), lI v4, none], ([], (mSH r tl, (G3, nk)))))) ?_ rfl
  refine sm_loop4 (S := fun (g9 : Option mV) (x5 : Int) (x6 : Int) (x7 : Int) (G8 : mG) => (24, ([lR 40, lI x5, lI x6, lI x7, g9], ([], (mSH r tl, (G8, nk)))))) ?_ LF (none) 0 (-1) v4 G3
  intro again10 hagain10 g9 x5 x6 x7 G8
  refine sm_go 2 (s' := (26, ([lR 40, lI x5, lI x6, lI x7, g9], ([sI (-1), sI x7], (mSH r tl, (G8, nk)))))) ?_ rfl
  refine sm_if2 (t := (ieq x7 (-1))) (pt := 141) rfl rfl rfl (fun _ => ?_) (fun _ => ?_)
  · exact sm_retU rfl rfl
  · refine sm_go 3 (s' := (35, ([lR 40, lI x5, lI x6, lI x7, g9], ([sI 30, sI (G8 40 3)], (mSH r tl, (G8, nk)))))) ?_ rfl
    refine sm_if2n (t := (ilt (G8 40 3) 30)) (pt := 141) rfl rfl rfl (fun _ => ?_) (fun _ => ?_)
    · refine sm_go 5 (s' := (47, ([lR 40, lI x5, lI x6, lI x7, g9], ([sI x7, sI (G8 40 3), sR 41], (mSH r tl, (G8, nk)))))) ?_ rfl
      refine sm_ast rfl rfl fun G11 => ?_
      refine sm_go 5 (s' := (55, ([lR 40, lI x5, lI x6, lI x7, g9], ([sI ((G11 40 3) + 1), sR 40], (mSH r tl, (G11, nk)))))) ?_ rfl
      refine sm_pst rfl rfl rfl fun G12 => ?_
      refine sm_go 4 (s' := (66, ([lR 40, lI x5, lI x6, lI x7, g9], ([sI x7, sR 7], (mSH r tl, (G12, nk)))))) ?_ rfl
      refine sm_ald rfl rfl fun v13 => ?_
      refine sm_letK1 (S := fun (g15 : Unit) (x14 : Int) => (76, ([lR 40, lI x5, lI x6, lI x7, g9], ([sI x14], (mSH r tl, (G12, nk)))))) ?_ ?_
      · intro g15 x14
        refine sm_letK1 (S := fun (g17 : Unit) (x16 : Int) => (93, ([lR 40, lI x5, lI x6, lI x7, lI x14], ([sI x16, sI (G12 40 4), sR 40], (mSH r tl, (G12, nk)))))) ?_ ?_
        · intro g17 x16
          refine sm_go 1 (s' := (94, ([lR 40, lI x5, lI x6, lI x7, lI x14], ([sI ((G12 40 4) + x16), sR 40], (mSH r tl, (G12, nk)))))) ?_ rfl
          refine sm_pst rfl rfl rfl fun G18 => ?_
          refine sm_letK1 (S := fun (g20 : Unit) (x19 : Int) => (109, ([lR 40, lI x5, lI x6, lI x7, lI x14], ([sI x19], (mSH r tl, (G18, nk)))))) ?_ ?_
          · intro g20 x19
            refine sm_go 6 (s' := (119, ([lR 40, lI x19, lI x6, lI x7, lI x14], ([sI (iMax (G18 40 5) x19), sR 40], (mSH r tl, (G18, nk)))))) ?_ rfl
            refine sm_pst rfl rfl rfl fun G21 => ?_
            refine sm_go 4 (s' := (130, ([lR 40, lI x19, lI x6, lI x7, lI x14], ([sI x7, sR 7], (mSH r tl, (G21, nk)))))) ?_ rfl
            refine sm_ald rfl rfl fun v22 => ?_
            refine sm_go 3 (s' := (134, ([lR 40, lI x19, lI v22, lI x7, lI x14], ([sI x7, sR 40], (mSH r tl, (G21, nk)))))) ?_ rfl
            refine sm_callG (rest := []) (T_X9_stepAheadOf scr d r tl nk G21 x7) rfl (Or.inl rfl) rfl rfl rfl rfl (fun _ => rfl) (fun v23 => (137, ([lR 40, lI x19, lI v22, lI x7, lI x14], ([sI v23], (mSH r tl, (G21, nk)))))) (fun _ => rfl) fun v23 => ?_
            exact sm_go 2 (hagain10 (lI x14) x19 v22 v23 G21) rfl
          · intro k24 hk24
            refine sm_go 1 (s' := (99, ([lR 40, lI x5, lI x6, lI x7, lI x14], ([sI x14], (mSH r tl, (G18, nk)))))) ?_ rfl
            refine sm_if1 (t := (ieq x14 0)) (pt := 108) rfl rfl rfl (fun _ => ?_) (fun _ => ?_)
            · exact sm_go 1 (hk24 () 1) rfl
            · exact sm_go 4 (hk24 () (x5 + 1)) rfl
        · intro k25 hk25
          refine sm_go 5 (s' := (85, ([lR 40, lI x5, lI x6, lI x7, lI x14], ([sI x14, sI (G12 40 4), sR 40], (mSH r tl, (G12, nk)))))) ?_ rfl
          refine sm_if1 (t := (ieq x14 0)) (pt := 92) rfl rfl rfl (fun _ => ?_) (fun _ => ?_)
          · exact sm_go 1 (hk25 () 1) rfl
          · exact sm_go 2 (hk25 () 0) rfl
      · intro k26 hk26
        refine sm_go 1 (s' := (68, ([lR 40, lI x5, lI x6, lI x7, g9], ([sI x6, sI v13], (mSH r tl, (G12, nk)))))) ?_ rfl
        refine sm_if2n (t := (ieq v13 x6)) (pt := 75) rfl rfl rfl (fun _ => ?_) (fun _ => ?_)
        · exact sm_go 2 (hk26 () 1) rfl
        · exact sm_go 1 (hk26 () 0) rfl
    · exact sm_retU rfl rfl
noncomputable def P_X10_wayLength (W : mW) : Option ((Int ⊕ Nat) × mW) :=
thrB (P_X10_needPlan W) fun v1 W2 =>
(P_X9_trace W2.2.2.1).bind fun G3 =>
some (.inl (G3 40 3), (W2.1, (W2.2.1, (G3, W2.2.2.2))))
set_option maxRecDepth 100000 in
theorem T_X10_wayLength (scr : mScr) (d : Nat) (W : mW)  : SimC scr (d + 4) 98 [sR 0] (mkM W) (e2I) (P_X10_wayLength W) := by
  refine sm_callX (cs := mc_X10_wayLength) (maxL := 1) (rk := 0) (o := 10) (hs := []) (d := d + 3) [lR 0] rfl rfl rfl rfl ?_
  unfold P_X10_wayLength
  refine sm_go 1 (s' := (1, ([lR 0], ([sR 0], (mSH W.1 W.2.1, (W.2.2.1, W.2.2.2)))))) ?_ rfl
  refine sm_thr (rest := []) (T_X10_needPlan scr (d + 2) W) rfl (Or.inl rfl) rfl rfl rfl rfl (fun _ _ => rfl) (fun _ _ => rfl) (fun v1 W2 => (4, ([lR 0], ([], (mSH W2.1 W2.2.1, (W2.2.2.1, W2.2.2.2)))))) (fun _ _ => rfl) fun v1 W2 => ?_
  refine sm_go 2 (s' := (8, ([lR 0], ([sR 40], (mSH W2.1 W2.2.1, (W2.2.2.1, W2.2.2.2)))))) ?_ rfl
  refine sm_callG (rest := []) (T_X9_trace scr d W2.1 W2.2.1 W2.2.2.2 W2.2.2.1) rfl (Or.inl rfl) rfl rfl rfl rfl (fun _ => rfl) (fun G3 => (11, ([lR 0], ([], (mSH W2.1 W2.2.1, (G3, W2.2.2.2)))))) (fun _ => rfl) fun G3 => ?_
  refine sm_go 3 (s' := (18, ([lR 0], ([sI (G3 40 3)], (mSH W2.1 W2.2.1, (G3, W2.2.2.2)))))) ?_ rfl
  exact sm_retI rfl rfl rfl
noncomputable def P_L_wayLength (W : mW) : Option ((Int ⊕ Nat) × mW) :=
ctcB (P_X10_wayLength W) (fun v1 W2 =>
(ast W2.2.2.1 74 1 0 (w32 v1)).bind fun G4 =>
some (.inl 0, (W2.1, (W2.2.1, (G4, W2.2.2.2))))) (fun _ => none) (fun _ => none) (fun W3 =>
some (.inl 1, W3))
set_option maxRecDepth 100000 in
theorem T_L_wayLength (scr : mScr) (d : Nat) (W : mW)  : SimC scr (d + 5) 262 [sR 0, sR 74] (mkM W) (e2I) (P_L_wayLength W) := by
  refine sm_callX (cs := mc_L_wayLength) (maxL := 3) (rk := 0) (o := 112) (hs := [(0, (8, (11, 2)))]) (d := d + 4) [lR 0, lR 74, none] rfl rfl rfl rfl ?_
  unfold P_L_wayLength
  refine sm_go 3 (s' := (3, ([lR 0, lR 74, none], ([sR 0, sI 0, sR 74], (mSH W.1 W.2.1, (W.2.2.1, W.2.2.2)))))) ?_ rfl
  refine sm_ctc (rest := [sI 0, sR 74]) (T_X10_wayLength scr d W) rfl (Or.inl rfl) rfl rfl rfl rfl (fun _ _ => rfl) (fun v1 W2 => (6, ([lR 0, lR 74, none], ([sI v1, sI 0, sR 74], (mSH W2.1 W2.2.1, (W2.2.2.1, W2.2.2.2)))))) (fun _ _ => rfl) (fun v1 W2 => ?_) (Or.inr rfl) (Or.inr rfl) (Or.inl ⟨11, rfl, fun W3 => ?_⟩)
  · refine sm_go 1 (s' := (7, ([lR 0, lR 74, none], ([sL (w32 v1), sI 0, sR 74], (mSH W2.1 W2.2.1, (W2.2.2.1, W2.2.2.2)))))) ?_ rfl
    refine sm_lst rfl rfl fun G4 => ?_
    refine sm_go 1 (s' := (14, ([lR 0, lR 74, none], ([], (mSH W2.1 W2.2.1, (G4, W2.2.2.2)))))) ?_ rfl
    refine sm_go 1 (s' := (15, ([lR 0, lR 74, none], ([sI 0], (mSH W2.1 W2.2.1, (G4, W2.2.2.2)))))) ?_ rfl
    exact sm_retI rfl rfl rfl
  · refine sm_go 2 (s' := (13, ([lR 0, lR 74, lO], ([sI 1], (mSH W3.1 W3.2.1, (W3.2.2.1, W3.2.2.2)))))) ?_ rfl
    exact sm_retI rfl rfl rfl
def P_X11_readyAt (p1 : Int) (G : mG) : Option (Int × mG) :=
(P_X11_machineOf (iDiv p1 10) (iRem p1 10) G).bind fun v2 =>
(ast G 62 4 v2 (-1)).bind fun G3 =>
(ast G3 64 4 v2 0).bind fun G4 =>
letK (fun (G5 : mG) =>
(ald G5 62 4 v2).bind fun v7 =>
bif (ieq v7 (-1)) then
some ((-1), G5)
else
(ald G5 62 4 v2).bind fun v8 =>
(ald G5 62 4 v2).bind fun v9 =>
(P_X11_stepEnd (iDiv v8 10) (iRem v9 10) G5).bind fun v10 =>
(P_X11_hoursOf (iDiv p1 10) (iRem p1 10) G5).bind fun v11 =>
(P_X11_between v2 (iDiv p1 10) v11 G5).bind fun v12 =>
some ((v10 + v12), G5)) fun k13 =>
loop2 LF (fun again17 (x14 : Int) (G15 : mG) =>
(ald G15 57 282 (((152 + (v2 * 31)) + 1) + x14)).bind fun v18 =>
bif (ieq v18 p1) then
k13 G15
else
(ald G15 57 282 (((152 + (v2 * 31)) + 1) + x14)).bind fun v19 =>
(P_X11_hoursOf (iDiv v19 10) (iRem v19 10) G15).bind fun v20 =>
(P_X11_isChanged v2 v20 G15).bind fun v21 =>
letK (fun (x22 : Int) =>
(ast G15 64 4 v2 x22).bind fun G24 =>
(ast G24 62 4 v2 v19).bind fun G25 =>
again17 (x14 + 1) G25) fun k26 =>
bif v21 then
k26 v20
else
(ald G15 64 4 v2).bind fun v27 =>
k26 (v27 + v20)) 0 G4
set_option maxRecDepth 100000 in
theorem T_X11_readyAt (scr : mScr) (d : Nat) (r : List (Option Nat)) (tl : List mSh) (nk : Nat × Nat) (G : mG)  (p1 : Int) : SimC scr (d + 4) 201 [sR 56, sI p1] (mSH r tl, (G, nk)) (e1I r tl nk) (P_X11_readyAt p1 G) := by
  refine sm_callX (cs := mc_X11_readyAt) (maxL := 9) (rk := 0) (o := 11) (hs := []) (d := d + 3) [lR 56, lI p1, none, none, none, none, none, none, none] rfl rfl rfl rfl ?_
  unfold P_X11_readyAt
  refine sm_go 11 (s' := (13, ([lR 56, lI p1, lI (iDiv p1 10), lI (iRem p1 10), none, none, none, none, none], ([sI (iRem p1 10), sI (iDiv p1 10), sR 56], (mSH r tl, (G, nk)))))) ?_ rfl
  refine sm_callG (rest := []) (T_X11_machineOf scr (d + 1) r tl nk G (iDiv p1 10) (iRem p1 10)) rfl (Or.inl rfl) rfl rfl rfl rfl (fun _ => rfl) (fun v2 => (16, ([lR 56, lI p1, lI (iDiv p1 10), lI (iRem p1 10), none, none, none, none, none], ([sI v2], (mSH r tl, (G, nk)))))) (fun _ => rfl) fun v2 => ?_
  refine sm_go 11 (s' := (36, ([lR 56, lI p1, lI (iDiv p1 10), lI (iRem p1 10), lI v2, lI (152 + (v2 * 31)), none, none, none], ([sI (-1), sI v2, sR 62], (mSH r tl, (G, nk)))))) ?_ rfl
  refine sm_ast rfl rfl fun G3 => ?_
  refine sm_go 4 (s' := (44, ([lR 56, lI p1, lI (iDiv p1 10), lI (iRem p1 10), lI v2, lI (152 + (v2 * 31)), none, none, none], ([sI 0, sI v2, sR 64], (mSH r tl, (G3, nk)))))) ?_ rfl
  refine sm_ast rfl rfl fun G4 => ?_
  refine sm_go 2 (s' := (48, ([lR 56, lI p1, lI (iDiv p1 10), lI (iRem p1 10), lI v2, lI (152 + (v2 * 31)), lI 0, none, none], ([], (mSH r tl, (G4, nk)))))) ?_ rfl
  refine sm_letK1 (S := fun (g6 : Option mV × Option mV × Option mV) (G5 : mG) => (142, ([lR 56, lI p1, lI (iDiv p1 10), lI (iRem p1 10), lI v2, lI (152 + (v2 * 31)), g6.1, g6.2.1, g6.2.2], ([], (mSH r tl, (G5, nk)))))) ?_ ?_
  · intro g6 G5
    refine sm_go 3 (s' := (148, ([lR 56, lI p1, lI (iDiv p1 10), lI (iRem p1 10), lI v2, lI (152 + (v2 * 31)), g6.1, g6.2.1, g6.2.2], ([sI v2, sR 62], (mSH r tl, (G5, nk)))))) ?_ rfl
    refine sm_ald rfl rfl fun v7 => ?_
    refine sm_go 1 (s' := (150, ([lR 56, lI p1, lI (iDiv p1 10), lI (iRem p1 10), lI v2, lI (152 + (v2 * 31)), g6.1, g6.2.1, g6.2.2], ([sI (-1), sI v7], (mSH r tl, (G5, nk)))))) ?_ rfl
    refine sm_if2n (t := (ieq v7 (-1))) (pt := 157) rfl rfl rfl (fun _ => ?_) (fun _ => ?_)
    · refine sm_go 2 (s' := (195, ([lR 56, lI p1, lI (iDiv p1 10), lI (iRem p1 10), lI v2, lI (152 + (v2 * 31)), g6.1, g6.2.1, g6.2.2], ([sI (-1)], (mSH r tl, (G5, nk)))))) ?_ rfl
      exact sm_retI rfl rfl rfl
    · refine sm_go 4 (s' := (164, ([lR 56, lI p1, lI (iDiv p1 10), lI (iRem p1 10), lI v2, lI (152 + (v2 * 31)), g6.1, g6.2.1, g6.2.2], ([sI v2, sR 62, sR 56], (mSH r tl, (G5, nk)))))) ?_ rfl
      refine sm_ald rfl rfl fun v8 => ?_
      refine sm_go 5 (s' := (174, ([lR 56, lI p1, lI (iDiv p1 10), lI (iRem p1 10), lI v2, lI (152 + (v2 * 31)), g6.1, g6.2.1, g6.2.2], ([sI v2, sR 62, sI (iDiv v8 10), sR 56], (mSH r tl, (G5, nk)))))) ?_ rfl
      refine sm_ald rfl rfl fun v9 => ?_
      refine sm_go 2 (s' := (178, ([lR 56, lI p1, lI (iDiv p1 10), lI (iRem p1 10), lI v2, lI (152 + (v2 * 31)), g6.1, g6.2.1, g6.2.2], ([sI (iRem v9 10), sI (iDiv v8 10), sR 56], (mSH r tl, (G5, nk)))))) ?_ rfl
      refine sm_callG (rest := []) (T_X11_stepEnd scr d r tl nk G5 (iDiv v8 10) (iRem v9 10)) rfl (Or.inl rfl) rfl rfl rfl rfl (fun _ => rfl) (fun v10 => (181, ([lR 56, lI p1, lI (iDiv p1 10), lI (iRem p1 10), lI v2, lI (152 + (v2 * 31)), g6.1, g6.2.1, g6.2.2], ([sI v10], (mSH r tl, (G5, nk)))))) (fun _ => rfl) fun v10 => ?_
      refine sm_go 6 (s' := (188, ([lR 56, lI p1, lI (iDiv p1 10), lI (iRem p1 10), lI v2, lI (152 + (v2 * 31)), g6.1, g6.2.1, g6.2.2], ([sI (iRem p1 10), sI (iDiv p1 10), sR 56, sI (iDiv p1 10), sI v2, sR 56, sI v10], (mSH r tl, (G5, nk)))))) ?_ rfl
      refine sm_callG (rest := [sI (iDiv p1 10), sI v2, sR 56, sI v10]) (T_X11_hoursOf scr (d + 1) r tl nk G5 (iDiv p1 10) (iRem p1 10)) rfl (Or.inl rfl) rfl rfl rfl rfl (fun _ => rfl) (fun v11 => (191, ([lR 56, lI p1, lI (iDiv p1 10), lI (iRem p1 10), lI v2, lI (152 + (v2 * 31)), g6.1, g6.2.1, g6.2.2], ([sI v11, sI (iDiv p1 10), sI v2, sR 56, sI v10], (mSH r tl, (G5, nk)))))) (fun _ => rfl) fun v11 => ?_
      refine sm_callG (rest := [sI v10]) (T_X11_between scr (d + 1) r tl nk G5 v2 (iDiv p1 10) v11) rfl (Or.inl rfl) rfl rfl rfl rfl (fun _ => rfl) (fun v12 => (194, ([lR 56, lI p1, lI (iDiv p1 10), lI (iRem p1 10), lI v2, lI (152 + (v2 * 31)), g6.1, g6.2.1, g6.2.2], ([sI v12, sI v10], (mSH r tl, (G5, nk)))))) (fun _ => rfl) fun v12 => ?_
      refine sm_go 1 (s' := (195, ([lR 56, lI p1, lI (iDiv p1 10), lI (iRem p1 10), lI v2, lI (152 + (v2 * 31)), g6.1, g6.2.1, g6.2.2], ([sI (v10 + v12)], (mSH r tl, (G5, nk)))))) ?_ rfl
      exact sm_retI rfl rfl rfl
  · intro k13 hk13
    refine sm_loop2 (S := fun (g16 : Option mV × Option mV) (x14 : Int) (G15 : mG) => (48, ([lR 56, lI p1, lI (iDiv p1 10), lI (iRem p1 10), lI v2, lI (152 + (v2 * 31)), lI x14, g16.1, g16.2], ([], (mSH r tl, (G15, nk)))))) ?_ LF (none, none) 0 G4
    intro again17 hagain17 g16 x14 G15
    refine sm_go 7 (s' := (59, ([lR 56, lI p1, lI (iDiv p1 10), lI (iRem p1 10), lI v2, lI (152 + (v2 * 31)), lI x14, g16.1, g16.2], ([sI (((152 + (v2 * 31)) + 1) + x14), sR 57], (mSH r tl, (G15, nk)))))) ?_ rfl
    refine sm_ald rfl rfl fun v18 => ?_
    refine sm_go 1 (s' := (61, ([lR 56, lI p1, lI (iDiv p1 10), lI (iRem p1 10), lI v2, lI (152 + (v2 * 31)), lI x14, g16.1, g16.2], ([sI p1, sI v18], (mSH r tl, (G15, nk)))))) ?_ rfl
    refine sm_if2 (t := (ieq v18 p1)) (pt := 142) rfl rfl rfl (fun _ => ?_) (fun _ => ?_)
    · exact hk13 (lI x14, g16.1, g16.2) G15
    · refine sm_go 7 (s' := (75, ([lR 56, lI p1, lI (iDiv p1 10), lI (iRem p1 10), lI v2, lI (152 + (v2 * 31)), lI x14, g16.1, g16.2], ([sI (((152 + (v2 * 31)) + 1) + x14), sR 57], (mSH r tl, (G15, nk)))))) ?_ rfl
      refine sm_ald rfl rfl fun v19 => ?_
      refine sm_go 8 (s' := (89, ([lR 56, lI p1, lI (iDiv p1 10), lI (iRem p1 10), lI v2, lI (152 + (v2 * 31)), lI x14, lI v19, g16.2], ([sI (iRem v19 10), sI (iDiv v19 10), sR 56], (mSH r tl, (G15, nk)))))) ?_ rfl
      refine sm_callG (rest := []) (T_X11_hoursOf scr (d + 1) r tl nk G15 (iDiv v19 10) (iRem v19 10)) rfl (Or.inl rfl) rfl rfl rfl rfl (fun _ => rfl) (fun v20 => (92, ([lR 56, lI p1, lI (iDiv p1 10), lI (iRem p1 10), lI v2, lI (152 + (v2 * 31)), lI x14, lI v19, g16.2], ([sI v20], (mSH r tl, (G15, nk)))))) (fun _ => rfl) fun v20 => ?_
      refine sm_go 7 (s' := (105, ([lR 56, lI p1, lI (iDiv p1 10), lI (iRem p1 10), lI v2, lI (152 + (v2 * 31)), lI x14, lI v19, lI v20], ([sI v20, sI v2, sR 56, sI v2, sR 64], (mSH r tl, (G15, nk)))))) ?_ rfl
      refine sm_callG (rest := [sI v2, sR 64]) (T_X11_isChanged scr (d + 2) r tl nk G15 v2 v20) rfl (Or.inl rfl) rfl rfl rfl rfl (fun _ => rfl) (fun v21 => (108, ([lR 56, lI p1, lI (iDiv p1 10), lI (iRem p1 10), lI v2, lI (152 + (v2 * 31)), lI x14, lI v19, lI v20], ([sI (b2i v21), sI v2, sR 64], (mSH r tl, (G15, nk)))))) (fun _ => rfl) fun v21 => ?_
      refine sm_letK1 (S := fun (g23 : Unit) (x22 : Int) => (126, ([lR 56, lI p1, lI (iDiv p1 10), lI (iRem p1 10), lI v2, lI (152 + (v2 * 31)), lI x14, lI v19, lI v20], ([sI x22, sI v2, sR 64], (mSH r tl, (G15, nk)))))) ?_ ?_
      · intro g23 x22
        refine sm_ast rfl rfl fun G24 => ?_
        refine sm_go 4 (s' := (135, ([lR 56, lI p1, lI (iDiv p1 10), lI (iRem p1 10), lI v2, lI (152 + (v2 * 31)), lI x14, lI v19, lI v20], ([sI v19, sI v2, sR 62], (mSH r tl, (G24, nk)))))) ?_ rfl
        refine sm_ast rfl rfl fun G25 => ?_
        exact sm_go 2 (hagain17 (lI v19, lI v20) (x14 + 1) G25) rfl
      · intro k26 hk26
        refine sm_if1n (t := v21) (pt := 116) (mCmpB_eq v21) rfl rfl (fun _ => ?_) (fun _ => ?_)
        · exact sm_go 2 (hk26 () v20) rfl
        · refine sm_go 3 (s' := (122, ([lR 56, lI p1, lI (iDiv p1 10), lI (iRem p1 10), lI v2, lI (152 + (v2 * 31)), lI x14, lI v19, lI v20], ([sI v2, sR 64, sI v2, sR 64], (mSH r tl, (G15, nk)))))) ?_ rfl
          refine sm_ald rfl rfl fun v27 => ?_
          exact sm_go 2 (hk26 () (v27 + v20)) rfl
def P_X11_aheadOf (p1 : Int) (G : mG) : Option (Int) :=
(P_X11_machineOf (iDiv p1 10) (iRem p1 10) G).bind fun v2 =>
loop2 LF (fun again6 (x3 : Int) (x4 : Int) =>
(ald G 57 282 (152 + (v2 * 31))).bind fun v7 =>
bif (ilt x4 v7) then
(ald G 57 282 (((152 + (v2 * 31)) + 1) + x4)).bind fun v8 =>
bif (ieq v8 p1) then
some x3
else
(ald G 57 282 (((152 + (v2 * 31)) + 1) + x4)).bind fun v9 =>
again6 v9 (x4 + 1)
else
some x3) (-1) 0
set_option maxRecDepth 100000 in
theorem T_X11_aheadOf (scr : mScr) (d : Nat) (r : List (Option Nat)) (tl : List mSh) (nk : Nat × Nat) (G : mG)  (p1 : Int) : SimC scr (d + 3) 200 [sR 56, sI p1] (mSH r tl, (G, nk)) (e0I (mSH r tl, (G, nk))) (P_X11_aheadOf p1 G) := by
  refine sm_callX (cs := mc_X11_aheadOf) (maxL := 6) (rk := 0) (o := 11) (hs := []) (d := d + 2) [lR 56, lI p1, none, none, none, none] rfl rfl rfl rfl ?_
  unfold P_X11_aheadOf
  refine sm_go 7 (s' := (9, ([lR 56, lI p1, none, none, none, none], ([sI (iRem p1 10), sI (iDiv p1 10), sR 56], (mSH r tl, (G, nk)))))) ?_ rfl
  refine sm_callG (rest := []) (T_X11_machineOf scr d r tl nk G (iDiv p1 10) (iRem p1 10)) rfl (Or.inl rfl) rfl rfl rfl rfl (fun _ => rfl) (fun v2 => (12, ([lR 56, lI p1, none, none, none, none], ([sI v2], (mSH r tl, (G, nk)))))) (fun _ => rfl) fun v2 => ?_
  refine sm_go 11 (s' := (28, ([lR 56, lI p1, lI v2, lI (152 + (v2 * 31)), lI (-1), lI 0], ([], (mSH r tl, (G, nk)))))) ?_ rfl
  refine sm_loop2 (S := fun (g5 : Unit) (x3 : Int) (x4 : Int) => (28, ([lR 56, lI p1, lI v2, lI (152 + (v2 * 31)), lI x3, lI x4], ([], (mSH r tl, (G, nk)))))) ?_ LF () (-1) 0
  intro again6 hagain6 g5 x3 x4
  refine sm_go 4 (s' := (35, ([lR 56, lI p1, lI v2, lI (152 + (v2 * 31)), lI x3, lI x4], ([sI (152 + (v2 * 31)), sR 57, sI x4], (mSH r tl, (G, nk)))))) ?_ rfl
  refine sm_ald rfl rfl fun v7 => ?_
  refine sm_if2n (t := (ilt x4 v7)) (pt := 73) rfl rfl rfl (fun _ => ?_) (fun _ => ?_)
  · refine sm_go 7 (s' := (49, ([lR 56, lI p1, lI v2, lI (152 + (v2 * 31)), lI x3, lI x4], ([sI (((152 + (v2 * 31)) + 1) + x4), sR 57], (mSH r tl, (G, nk)))))) ?_ rfl
    refine sm_ald rfl rfl fun v8 => ?_
    refine sm_go 1 (s' := (51, ([lR 56, lI p1, lI v2, lI (152 + (v2 * 31)), lI x3, lI x4], ([sI p1, sI v8], (mSH r tl, (G, nk)))))) ?_ rfl
    refine sm_if2 (t := (ieq v8 p1)) (pt := 73) rfl rfl rfl (fun _ => ?_) (fun _ => ?_)
    · refine sm_go 1 (s' := (75, ([lR 56, lI p1, lI v2, lI (152 + (v2 * 31)), lI x3, lI x4], ([sI x3], (mSH r tl, (G, nk)))))) ?_ rfl
      exact sm_retI rfl rfl rfl
    · refine sm_go 7 (s' := (64, ([lR 56, lI p1, lI v2, lI (152 + (v2 * 31)), lI x3, lI x4], ([sI (((152 + (v2 * 31)) + 1) + x4), sR 57], (mSH r tl, (G, nk)))))) ?_ rfl
      refine sm_ald rfl rfl fun v9 => ?_
      exact sm_go 3 (hagain6 () v9 (x4 + 1)) rfl
  · refine sm_go 1 (s' := (75, ([lR 56, lI p1, lI v2, lI (152 + (v2 * 31)), lI x3, lI x4], ([sI x3], (mSH r tl, (G, nk)))))) ?_ rfl
    exact sm_retI rfl rfl rfl
def P_X11_laysWay (G : mG) : Option (mG) :=
(pst G 56 19 0).bind fun G1 =>
letK (fun (x2 : Int) =>
loop2 LF (fun again7 (x4 : Int) (G5 : mG) =>
bif (ieq x4 (-1)) then
some G5
else
(ast G5 73 30 (G5 56 19) x4).bind fun G8 =>
(pst G8 56 19 ((G8 56 19) + 1)).bind fun G9 =>
(ald G9 59 30 (((iDiv x4 10) * 5) + (iRem x4 10))).bind fun v10 =>
letK (fun (x11 : Int) (G12 : mG) =>
again7 x11 G12) fun k14 =>
letK ((P_X11_readyAt x4 G9).bind fun z16 =>
letK (fun (x17 : Int) =>
k14 x17 z16.2) fun k19 =>
bif (ieq z16.1 v10) then
(P_X11_aheadOf x4 z16.2).bind fun v20 =>
k19 v20
else
k19 (-1)) fun k21 =>
bif (ilt 0 (iRem x4 10)) then
(P_X11_stepEnd (iDiv x4 10) ((iRem x4 10) - 1) G9).bind fun v22 =>
bif (ieq v22 v10) then
k14 (x4 + (-1)) G9
else
k21
else
k21) x2 G1) fun k23 =>
loop2 LF (fun again27 (x24 : Int) (x25 : Int) =>
(ald G1 57 282 0).bind fun v28 =>
bif (ilt x25 v28) then
(P_X11_of x25 4 G1).bind fun v29 =>
letK (fun (x30 : Int) =>
again27 x30 (x25 + 1)) fun k32 =>
bif (ilt (v29 - 1) 0) then
k32 x24
else
letK (k32 ((10 * x25) + (v29 - 1))) fun k34 =>
bif (ieq x24 (-1)) then
k34
else
(P_X11_stepEnd x25 (v29 - 1) G1).bind fun v35 =>
(P_X11_stepEnd (iDiv x24 10) (iRem x24 10) G1).bind fun v36 =>
bif (ilt v36 v35) then
k34
else
k32 x24
else
k23 x24) (-1) 0
set_option maxRecDepth 100000 in
theorem T_X11_laysWay (scr : mScr) (d : Nat) (r : List (Option Nat)) (tl : List mSh) (nk : Nat × Nat) (G : mG)  : SimC scr (d + 5) 202 [sR 56] (mSH r tl, (G, nk)) (e1U r tl nk) (P_X11_laysWay G) := by
  refine sm_callX (cs := mc_X11_laysWay) (maxL := 5) (rk := 0) (o := 11) (hs := []) (d := d + 4) [lR 56, none, none, none, none] rfl rfl rfl rfl ?_
  unfold P_X11_laysWay
  refine sm_go 2 (s' := (2, ([lR 56, none, none, none, none], ([sI 0, sR 56], (mSH r tl, (G, nk)))))) ?_ rfl
  refine sm_pst rfl rfl rfl fun G1 => ?_
  refine sm_go 4 (s' := (9, ([lR 56, lI (-1), lI 0, none, none], ([], (mSH r tl, (G1, nk)))))) ?_ rfl
  refine sm_letK1 (S := fun (g3 : Option mV × Option mV) (x2 : Int) => (71, ([lR 56, lI x2, g3.1, g3.2, none], ([], (mSH r tl, (G1, nk)))))) ?_ ?_
  · intro g3 x2
    refine sm_loop2 (S := fun (g6 : Option mV × Option mV × Option mV) (x4 : Int) (G5 : mG) => (71, ([lR 56, lI x4, g6.1, g6.2.1, g6.2.2], ([], (mSH r tl, (G5, nk)))))) ?_ LF (g3.1, g3.2, none) x2 G1
    intro again7 hagain7 g6 x4 G5
    refine sm_go 2 (s' := (73, ([lR 56, lI x4, g6.1, g6.2.1, g6.2.2], ([sI (-1), sI x4], (mSH r tl, (G5, nk)))))) ?_ rfl
    refine sm_if2 (t := (ieq x4 (-1))) (pt := 164) rfl rfl rfl (fun _ => ?_) (fun _ => ?_)
    · exact sm_retU rfl rfl
    · refine sm_go 5 (s' := (85, ([lR 56, lI x4, g6.1, g6.2.1, g6.2.2], ([sI x4, sI (G5 56 19), sR 73], (mSH r tl, (G5, nk)))))) ?_ rfl
      refine sm_ast rfl rfl fun G8 => ?_
      refine sm_go 5 (s' := (93, ([lR 56, lI x4, g6.1, g6.2.1, g6.2.2], ([sI ((G8 56 19) + 1), sR 56], (mSH r tl, (G8, nk)))))) ?_ rfl
      refine sm_pst rfl rfl rfl fun G9 => ?_
      refine sm_go 15 (s' := (115, ([lR 56, lI x4, lI (iDiv x4 10), lI (iRem x4 10), g6.2.2], ([sI (((iDiv x4 10) * 5) + (iRem x4 10)), sR 59], (mSH r tl, (G9, nk)))))) ?_ rfl
      refine sm_ald rfl rfl fun v10 => ?_
      refine sm_letK2 (S := fun (g13 : Unit) (x11 : Int) (G12 : mG) => (161, ([lR 56, lI x11, lI (iDiv x4 10), lI (iRem x4 10), lI v10], ([], (mSH r tl, (G12, nk)))))) ?_ ?_
      · intro g13 x11 G12
        exact sm_go 1 (hagain7 (lI (iDiv x4 10), lI (iRem x4 10), lI v10) x11 G12) rfl
      · intro k14 hk14
        refine sm_letK0 (S := fun (g15 : Unit) => (141, ([lR 56, lI x4, lI (iDiv x4 10), lI (iRem x4 10), lI v10], ([], (mSH r tl, (G9, nk)))))) ?_ ?_
        · intro g15
          refine sm_go 2 (s' := (143, ([lR 56, lI x4, lI (iDiv x4 10), lI (iRem x4 10), lI v10], ([sI x4, sR 56], (mSH r tl, (G9, nk)))))) ?_ rfl
          refine sm_callG (rest := []) (T_X11_readyAt scr d r tl nk G9 x4) rfl (Or.inl rfl) rfl rfl rfl rfl (fun _ => rfl) (fun z16 => (146, ([lR 56, lI x4, lI (iDiv x4 10), lI (iRem x4 10), lI v10], ([sI z16.1], (mSH r tl, (z16.2, nk)))))) (fun _ => rfl) fun z16 => ?_
          refine sm_letK1 (S := fun (g18 : Unit) (x17 : Int) => (160, ([lR 56, lI x4, lI (iDiv x4 10), lI (iRem x4 10), lI v10], ([sI x17], (mSH r tl, (z16.2, nk)))))) ?_ ?_
          · intro g18 x17
            exact sm_go 1 (hk14 () x17 z16.2) rfl
          · intro k19 hk19
            refine sm_go 1 (s' := (148, ([lR 56, lI x4, lI (iDiv x4 10), lI (iRem x4 10), lI v10], ([sI v10, sI z16.1], (mSH r tl, (z16.2, nk)))))) ?_ rfl
            refine sm_if2n (t := (ieq z16.1 v10)) (pt := 159) rfl rfl rfl (fun _ => ?_) (fun _ => ?_)
            · refine sm_go 2 (s' := (153, ([lR 56, lI x4, lI (iDiv x4 10), lI (iRem x4 10), lI v10], ([sI x4, sR 56], (mSH r tl, (z16.2, nk)))))) ?_ rfl
              refine sm_callG (rest := []) (T_X11_aheadOf scr (d + 1) r tl nk z16.2 x4) rfl (Or.inl rfl) rfl rfl rfl rfl (fun _ => rfl) (fun v20 => (156, ([lR 56, lI x4, lI (iDiv x4 10), lI (iRem x4 10), lI v10], ([sI v20], (mSH r tl, (z16.2, nk)))))) (fun _ => rfl) fun v20 => ?_
              exact sm_go 1 (hk19 () v20) rfl
            · exact sm_go 1 (hk19 () (-1)) rfl
        · intro k21 hk21
          refine sm_go 2 (s' := (119, ([lR 56, lI x4, lI (iDiv x4 10), lI (iRem x4 10), lI v10], ([sI (iRem x4 10)], (mSH r tl, (G9, nk)))))) ?_ rfl
          refine sm_if1n (t := (ilt 0 (iRem x4 10))) (pt := 141) rfl rfl rfl (fun _ => ?_) (fun _ => ?_)
          · refine sm_go 5 (s' := (127, ([lR 56, lI x4, lI (iDiv x4 10), lI (iRem x4 10), lI v10], ([sI ((iRem x4 10) - 1), sI (iDiv x4 10), sR 56], (mSH r tl, (G9, nk)))))) ?_ rfl
            refine sm_callG (rest := []) (T_X11_stepEnd scr (d + 1) r tl nk G9 (iDiv x4 10) ((iRem x4 10) - 1)) rfl (Or.inl rfl) rfl rfl rfl rfl (fun _ => rfl) (fun v22 => (130, ([lR 56, lI x4, lI (iDiv x4 10), lI (iRem x4 10), lI v10], ([sI v22], (mSH r tl, (G9, nk)))))) (fun _ => rfl) fun v22 => ?_
            refine sm_go 1 (s' := (132, ([lR 56, lI x4, lI (iDiv x4 10), lI (iRem x4 10), lI v10], ([sI v10, sI v22], (mSH r tl, (G9, nk)))))) ?_ rfl
            refine sm_if2n (t := (ieq v22 v10)) (pt := 141) rfl rfl rfl (fun _ => ?_) (fun _ => ?_)
            · exact sm_go 2 (hk14 () (x4 + (-1)) G9) rfl
            · exact hk21 ()
          · exact hk21 ()
  · intro k23 hk23
    refine sm_loop2 (S := fun (g26 : Option mV) (x24 : Int) (x25 : Int) => (9, ([lR 56, lI x24, lI x25, g26, none], ([], (mSH r tl, (G1, nk)))))) ?_ LF (none) (-1) 0
    intro again27 hagain27 g26 x24 x25
    refine sm_go 4 (s' := (15, ([lR 56, lI x24, lI x25, g26, none], ([sI 0, sR 57, sI x25], (mSH r tl, (G1, nk)))))) ?_ rfl
    refine sm_ald rfl rfl fun v28 => ?_
    refine sm_if2n (t := (ilt x25 v28)) (pt := 71) rfl rfl rfl (fun _ => ?_) (fun _ => ?_)
    · refine sm_go 3 (s' := (22, ([lR 56, lI x24, lI x25, g26, none], ([sI 4, sI x25, sR 56], (mSH r tl, (G1, nk)))))) ?_ rfl
      refine sm_callG (rest := []) (T_X11_of scr (d + 3) r tl nk G1 x25 4) rfl (Or.inl rfl) rfl rfl rfl rfl (fun _ => rfl) (fun v29 => (25, ([lR 56, lI x24, lI x25, g26, none], ([sI v29], (mSH r tl, (G1, nk)))))) (fun _ => rfl) fun v29 => ?_
      refine sm_letK1 (S := fun (g31 : Unit) (x30 : Int) => (65, ([lR 56, lI x30, lI x25, lI (v29 - 1), none], ([], (mSH r tl, (G1, nk)))))) ?_ ?_
      · intro g31 x30
        exact sm_go 2 (hagain27 (lI (v29 - 1)) x30 (x25 + 1)) rfl
      · intro k32 hk32
        refine sm_go 4 (s' := (29, ([lR 56, lI x24, lI x25, lI (v29 - 1), none], ([sI (v29 - 1)], (mSH r tl, (G1, nk)))))) ?_ rfl
        refine sm_if1 (t := (ilt (v29 - 1) 0)) (pt := 65) rfl rfl rfl (fun _ => ?_) (fun _ => ?_)
        · exact hk32 () x24
        · refine sm_letK0 (S := fun (g33 : Unit) => (58, ([lR 56, lI x24, lI x25, lI (v29 - 1), none], ([], (mSH r tl, (G1, nk)))))) ?_ ?_
          · intro g33
            exact sm_go 6 (hk32 () ((10 * x25) + (v29 - 1))) rfl
          · intro k34 hk34
            refine sm_go 2 (s' := (34, ([lR 56, lI x24, lI x25, lI (v29 - 1), none], ([sI (-1), sI x24], (mSH r tl, (G1, nk)))))) ?_ rfl
            refine sm_if2 (t := (ieq x24 (-1))) (pt := 58) rfl rfl rfl (fun _ => ?_) (fun _ => ?_)
            · exact hk34 ()
            · refine sm_go 3 (s' := (40, ([lR 56, lI x24, lI x25, lI (v29 - 1), none], ([sI (v29 - 1), sI x25, sR 56], (mSH r tl, (G1, nk)))))) ?_ rfl
              refine sm_callG (rest := []) (T_X11_stepEnd scr (d + 1) r tl nk G1 x25 (v29 - 1)) rfl (Or.inl rfl) rfl rfl rfl rfl (fun _ => rfl) (fun v35 => (43, ([lR 56, lI x24, lI x25, lI (v29 - 1), none], ([sI v35], (mSH r tl, (G1, nk)))))) (fun _ => rfl) fun v35 => ?_
              refine sm_go 7 (s' := (52, ([lR 56, lI x24, lI x25, lI (v29 - 1), none], ([sI (iRem x24 10), sI (iDiv x24 10), sR 56, sI v35], (mSH r tl, (G1, nk)))))) ?_ rfl
              refine sm_callG (rest := [sI v35]) (T_X11_stepEnd scr (d + 1) r tl nk G1 (iDiv x24 10) (iRem x24 10)) rfl (Or.inl rfl) rfl rfl rfl rfl (fun _ => rfl) (fun v36 => (55, ([lR 56, lI x24, lI x25, lI (v29 - 1), none], ([sI v36, sI v35], (mSH r tl, (G1, nk)))))) (fun _ => rfl) fun v36 => ?_
              refine sm_if2n (t := (ilt v36 v35)) (pt := 65) rfl rfl rfl (fun _ => ?_) (fun _ => ?_)
              · exact hk34 ()
              · exact hk32 () x24
    · exact hk23 (lI x25, g26) x24
def P_X11_wayLength (G : mG) : Option (Int × mG) :=
(P_X11_isPlanned G).bind fun z1 =>
(P_X11_fits (b2i z1.1) 1 1 z1.2).bind fun z2 =>
bif z2.1 then
(P_X11_laysWay z2.2).bind fun G3 =>
some ((G3 56 19), G3)
else
some (0, z2.2)
set_option maxRecDepth 100000 in
theorem T_X11_wayLength (scr : mScr) (d : Nat) (r : List (Option Nat)) (tl : List mSh) (nk : Nat × Nat) (G : mG)  : SimC scr (d + 7) 203 [sR 56] (mSH r tl, (G, nk)) (e1I r tl nk) (P_X11_wayLength G) := by
  refine sm_callX (cs := mc_X11_wayLength) (maxL := 1) (rk := 0) (o := 11) (hs := []) (d := d + 6) [lR 56] rfl rfl rfl rfl ?_
  unfold P_X11_wayLength
  refine sm_go 2 (s' := (2, ([lR 56], ([sR 56, sR 56], (mSH r tl, (G, nk)))))) ?_ rfl
  refine sm_callG (rest := [sR 56]) (T_X11_isPlanned scr d r tl nk G) rfl (Or.inl rfl) rfl rfl rfl rfl (fun _ => rfl) (fun z1 => (5, ([lR 56], ([sI (b2i z1.1), sR 56], (mSH r tl, (z1.2, nk)))))) (fun _ => rfl) fun z1 => ?_
  refine sm_go 2 (s' := (7, ([lR 56], ([sI 1, sI 1, sI (b2i z1.1), sR 56], (mSH r tl, (z1.2, nk)))))) ?_ rfl
  refine sm_callG (rest := []) (T_X11_fits scr (d + 5) r tl nk z1.2 (b2i z1.1) 1 1) rfl (Or.inl rfl) rfl rfl rfl rfl (fun _ => rfl) (fun z2 => (10, ([lR 56], ([sI (b2i z2.1)], (mSH r tl, (z2.2, nk)))))) (fun _ => rfl) fun z2 => ?_
  refine sm_if1 (t := z2.1) (pt := 15) (mCmpB_ne z2.1) rfl rfl (fun _ => ?_) (fun _ => ?_)
  · refine sm_go 1 (s' := (16, ([lR 56], ([sR 56], (mSH r tl, (z2.2, nk)))))) ?_ rfl
    refine sm_callG (rest := []) (T_X11_laysWay scr (d + 1) r tl nk z2.2) rfl (Or.inl rfl) rfl rfl rfl rfl (fun _ => rfl) (fun G3 => (19, ([lR 56], ([], (mSH r tl, (G3, nk)))))) (fun _ => rfl) fun G3 => ?_
    refine sm_go 2 (s' := (23, ([lR 56], ([sI (G3 56 19)], (mSH r tl, (G3, nk)))))) ?_ rfl
    exact sm_retI rfl rfl rfl
  · refine sm_go 1 (s' := (14, ([lR 56], ([sI 0], (mSH r tl, (z2.2, nk)))))) ?_ rfl
    exact sm_retI rfl rfl rfl
noncomputable def P_X10_wayAt (p1 : Int) (W : mW) : Option ((Int ⊕ Nat) × mW) :=
(P_X9_trace W.2.2.1).bind fun G2 =>
letK (some (.inr 0, (W.1, (W.2.1, (G2, (W.2.2.2.1 + 1, W.2.2.2.2 + 6)))))) fun k4 =>
bif (ilt p1 0) then
k4
else
bif (ilt p1 (G2 40 3)) then
(ald G2 41 30 (((G2 40 3) - 1) - p1)).bind fun v5 =>
(P_X10_told v5).bind fun v6 =>
some (.inl v6, (W.1, (W.2.1, (G2, W.2.2.2))))
else
k4
set_option maxRecDepth 100000 in
theorem T_X10_wayAt (scr : mScr) (d : Nat) (W : mW)  (p1 : Int) : SimC scr (d + 4) 99 [sR 0, sI p1] (mkM W) (e2I) (P_X10_wayAt p1 W) := by
  refine sm_callX (cs := mc_X10_wayAt) (maxL := 2) (rk := 0) (o := 10) (hs := []) (d := d + 3) [lR 0, lI p1] rfl rfl rfl rfl ?_
  unfold P_X10_wayAt
  refine sm_go 2 (s' := (4, ([lR 0, lI p1], ([sR 40], (mSH W.1 W.2.1, (W.2.2.1, W.2.2.2)))))) ?_ rfl
  refine sm_callG (rest := []) (T_X9_trace scr d W.1 W.2.1 W.2.2.2 W.2.2.1) rfl (Or.inl rfl) rfl rfl rfl rfl (fun _ => rfl) (fun G2 => (7, ([lR 0, lI p1], ([], (mSH W.1 W.2.1, (G2, W.2.2.2)))))) (fun _ => rfl) fun G2 => ?_
  refine sm_letK0 (S := fun (g3 : Unit) => (22, ([lR 0, lI p1], ([], (mSH W.1 W.2.1, (G2, W.2.2.2)))))) ?_ ?_
  · intro g3
    exact sm_exc rfl rfl rfl rfl
  · intro k4 hk4
    refine sm_go 1 (s' := (8, ([lR 0, lI p1], ([sI p1], (mSH W.1 W.2.1, (G2, W.2.2.2)))))) ?_ rfl
    refine sm_if1 (t := (ilt p1 0)) (pt := 22) rfl rfl rfl (fun _ => ?_) (fun _ => ?_)
    · exact hk4 ()
    · refine sm_go 4 (s' := (19, ([lR 0, lI p1], ([sI (G2 40 3), sI p1], (mSH W.1 W.2.1, (G2, W.2.2.2)))))) ?_ rfl
      refine sm_if2 (t := (ilt p1 (G2 40 3))) (pt := 33) rfl rfl rfl (fun _ => ?_) (fun _ => ?_)
      · refine sm_go 10 (s' := (51, ([lR 0, lI p1], ([sI (((G2 40 3) - 1) - p1), sR 41], (mSH W.1 W.2.1, (G2, W.2.2.2)))))) ?_ rfl
        refine sm_ald rfl rfl fun v5 => ?_
        refine sm_callG (rest := []) (T_X10_told scr (d + 2) W.1 W.2.1 W.2.2.2 G2 v5) rfl (Or.inr (Or.inl rfl)) rfl rfl rfl rfl (fun _ => rfl) (fun v6 => (55, ([lR 0, lI p1], ([sI v6], (mSH W.1 W.2.1, (G2, W.2.2.2)))))) (fun _ => rfl) fun v6 => ?_
        exact sm_retI rfl rfl rfl
      · exact hk4 ()
noncomputable def P_L_wayAt (p1 : Int) (W : mW) : Option ((Int ⊕ Nat) × mW) :=
ctcB (P_X10_wayAt p1 W) (fun v2 W3 =>
(ast W3.2.2.1 74 1 0 (w32 v2)).bind fun G5 =>
some (.inl 0, (W3.1, (W3.2.1, (G5, W3.2.2.2))))) (fun W4 =>
some (.inl 1, W4)) (fun _ => none) (fun _ => none)
set_option maxRecDepth 100000 in
theorem T_L_wayAt (scr : mScr) (d : Nat) (W : mW)  (p1 : Int) : SimC scr (d + 5) 263 [sR 0, sI p1, sR 74] (mkM W) (e2I) (P_L_wayAt p1 W) := by
  refine sm_callX (cs := mc_L_wayAt) (maxL := 4) (rk := 0) (o := 112) (hs := [(0, (9, (12, 0)))]) (d := d + 4) [lR 0, lI p1, lR 74, none] rfl rfl rfl rfl ?_
  unfold P_L_wayAt
  refine sm_go 4 (s' := (4, ([lR 0, lI p1, lR 74, none], ([sI p1, sR 0, sI 0, sR 74], (mSH W.1 W.2.1, (W.2.2.1, W.2.2.2)))))) ?_ rfl
  refine sm_ctc (rest := [sI 0, sR 74]) (T_X10_wayAt scr d W p1) rfl (Or.inl rfl) rfl rfl rfl rfl (fun _ _ => rfl) (fun v2 W3 => (7, ([lR 0, lI p1, lR 74, none], ([sI v2, sI 0, sR 74], (mSH W3.1 W3.2.1, (W3.2.2.1, W3.2.2.2)))))) (fun _ _ => rfl) (fun v2 W3 => ?_) (Or.inl ⟨12, rfl, fun W4 => ?_⟩) (Or.inr rfl) (Or.inr rfl)
  · refine sm_go 1 (s' := (8, ([lR 0, lI p1, lR 74, none], ([sL (w32 v2), sI 0, sR 74], (mSH W3.1 W3.2.1, (W3.2.2.1, W3.2.2.2)))))) ?_ rfl
    refine sm_lst rfl rfl fun G5 => ?_
    refine sm_go 1 (s' := (15, ([lR 0, lI p1, lR 74, none], ([], (mSH W3.1 W3.2.1, (G5, W3.2.2.2)))))) ?_ rfl
    refine sm_go 1 (s' := (16, ([lR 0, lI p1, lR 74, none], ([sI 0], (mSH W3.1 W3.2.1, (G5, W3.2.2.2)))))) ?_ rfl
    exact sm_retI rfl rfl rfl
  · refine sm_go 2 (s' := (14, ([lR 0, lI p1, lR 74, lO], ([sI 1], (mSH W4.1 W4.2.1, (W4.2.2.1, W4.2.2.2)))))) ?_ rfl
    exact sm_retI rfl rfl rfl
def P_X11_wayAt (p1 : Int) (G : mG) : Option (Int × mG) :=
(pst G 56 19 0).bind fun G2 =>
(P_X11_isPlanned G2).bind fun z3 =>
letK (fun (G4 : mG) =>
(P_X11_in p1 0 ((G4 56 19) - 1)).bind fun v6 =>
(P_X11_fits (b2i v6) 1 1 G4).bind fun z7 =>
bif z7.1 then
(ald z7.2 73 30 (((z7.2 56 19) - 1) - p1)).bind fun v8 =>
some (v8, z7.2)
else
some (0, z7.2)) fun k9 =>
bif z3.1 then
(P_X11_laysWay z3.2).bind fun G10 =>
k9 G10
else
k9 z3.2
set_option maxRecDepth 100000 in
theorem T_X11_wayAt (scr : mScr) (d : Nat) (r : List (Option Nat)) (tl : List mSh) (nk : Nat × Nat) (G : mG)  (p1 : Int) : SimC scr (d + 7) 204 [sR 56, sI p1] (mSH r tl, (G, nk)) (e1I r tl nk) (P_X11_wayAt p1 G) := by
  refine sm_callX (cs := mc_X11_wayAt) (maxL := 2) (rk := 0) (o := 11) (hs := []) (d := d + 6) [lR 56, lI p1] rfl rfl rfl rfl ?_
  unfold P_X11_wayAt
  refine sm_go 2 (s' := (2, ([lR 56, lI p1], ([sI 0, sR 56], (mSH r tl, (G, nk)))))) ?_ rfl
  refine sm_pst rfl rfl rfl fun G2 => ?_
  refine sm_go 1 (s' := (6, ([lR 56, lI p1], ([sR 56], (mSH r tl, (G2, nk)))))) ?_ rfl
  refine sm_callG (rest := []) (T_X11_isPlanned scr d r tl nk G2) rfl (Or.inl rfl) rfl rfl rfl rfl (fun _ => rfl) (fun z3 => (9, ([lR 56, lI p1], ([sI (b2i z3.1)], (mSH r tl, (z3.2, nk)))))) (fun _ => rfl) fun z3 => ?_
  refine sm_letK1 (S := fun (g5 : Unit) (G4 : mG) => (16, ([lR 56, lI p1], ([], (mSH r tl, (G4, nk)))))) ?_ ?_
  · intro g5 G4
    refine sm_go 7 (s' := (25, ([lR 56, lI p1], ([sI ((G4 56 19) - 1), sI 0, sI p1, sR 56], (mSH r tl, (G4, nk)))))) ?_ rfl
    refine sm_callG (rest := [sR 56]) (T_X11_in scr (d + 5) r tl nk G4 p1 0 ((G4 56 19) - 1)) rfl (Or.inr (Or.inl rfl)) rfl rfl rfl rfl (fun _ => rfl) (fun v6 => (28, ([lR 56, lI p1], ([sI (b2i v6), sR 56], (mSH r tl, (G4, nk)))))) (fun _ => rfl) fun v6 => ?_
    refine sm_go 2 (s' := (30, ([lR 56, lI p1], ([sI 1, sI 1, sI (b2i v6), sR 56], (mSH r tl, (G4, nk)))))) ?_ rfl
    refine sm_callG (rest := []) (T_X11_fits scr (d + 5) r tl nk G4 (b2i v6) 1 1) rfl (Or.inl rfl) rfl rfl rfl rfl (fun _ => rfl) (fun z7 => (33, ([lR 56, lI p1], ([sI (b2i z7.1)], (mSH r tl, (z7.2, nk)))))) (fun _ => rfl) fun z7 => ?_
    refine sm_if1n (t := z7.1) (pt := 52) (mCmpB_eq z7.1) rfl rfl (fun _ => ?_) (fun _ => ?_)
    · refine sm_go 8 (s' := (48, ([lR 56, lI p1], ([sI (((z7.2 56 19) - 1) - p1), sR 73], (mSH r tl, (z7.2, nk)))))) ?_ rfl
      refine sm_ald rfl rfl fun v8 => ?_
      refine sm_go 1 (s' := (53, ([lR 56, lI p1], ([sI v8], (mSH r tl, (z7.2, nk)))))) ?_ rfl
      exact sm_retI rfl rfl rfl
    · refine sm_go 1 (s' := (53, ([lR 56, lI p1], ([sI 0], (mSH r tl, (z7.2, nk)))))) ?_ rfl
      exact sm_retI rfl rfl rfl
  · intro k9 hk9
    refine sm_if1n (t := z3.1) (pt := 16) (mCmpB_eq z3.1) rfl rfl (fun _ => ?_) (fun _ => ?_)
    · refine sm_go 1 (s' := (13, ([lR 56, lI p1], ([sR 56], (mSH r tl, (z3.2, nk)))))) ?_ rfl
      refine sm_callG (rest := []) (T_X11_laysWay scr (d + 1) r tl nk z3.2) rfl (Or.inl rfl) rfl rfl rfl rfl (fun _ => rfl) (fun G10 => (16, ([lR 56, lI p1], ([], (mSH r tl, (G10, nk)))))) (fun _ => rfl) fun G10 => ?_
      exact hk9 () G10
    · exact hk9 () z3.2
noncomputable def P_X10_blocks (W : mW) : Option ((Int ⊕ Nat) × mW) :=
thrB (P_X10_needPlan W) fun v1 W2 =>
(P_X9_trace W2.2.2.1).bind fun G3 =>
some (.inl (G3 40 4), (W2.1, (W2.2.1, (G3, W2.2.2.2))))
set_option maxRecDepth 100000 in
theorem T_X10_blocks (scr : mScr) (d : Nat) (W : mW)  : SimC scr (d + 4) 100 [sR 0] (mkM W) (e2I) (P_X10_blocks W) := by
  refine sm_callX (cs := mc_X10_blocks) (maxL := 1) (rk := 0) (o := 10) (hs := []) (d := d + 3) [lR 0] rfl rfl rfl rfl ?_
  unfold P_X10_blocks
  refine sm_go 1 (s' := (1, ([lR 0], ([sR 0], (mSH W.1 W.2.1, (W.2.2.1, W.2.2.2)))))) ?_ rfl
  refine sm_thr (rest := []) (T_X10_needPlan scr (d + 2) W) rfl (Or.inl rfl) rfl rfl rfl rfl (fun _ _ => rfl) (fun _ _ => rfl) (fun v1 W2 => (4, ([lR 0], ([], (mSH W2.1 W2.2.1, (W2.2.2.1, W2.2.2.2)))))) (fun _ _ => rfl) fun v1 W2 => ?_
  refine sm_go 2 (s' := (8, ([lR 0], ([sR 40], (mSH W2.1 W2.2.1, (W2.2.2.1, W2.2.2.2)))))) ?_ rfl
  refine sm_callG (rest := []) (T_X9_trace scr d W2.1 W2.2.1 W2.2.2.2 W2.2.2.1) rfl (Or.inl rfl) rfl rfl rfl rfl (fun _ => rfl) (fun G3 => (11, ([lR 0], ([], (mSH W2.1 W2.2.1, (G3, W2.2.2.2)))))) (fun _ => rfl) fun G3 => ?_
  refine sm_go 3 (s' := (18, ([lR 0], ([sI (G3 40 4)], (mSH W2.1 W2.2.1, (G3, W2.2.2.2)))))) ?_ rfl
  exact sm_retI rfl rfl rfl
noncomputable def P_L_blocks (W : mW) : Option ((Int ⊕ Nat) × mW) :=
ctcB (P_X10_blocks W) (fun v1 W2 =>
(ast W2.2.2.1 74 1 0 (w32 v1)).bind fun G4 =>
some (.inl 0, (W2.1, (W2.2.1, (G4, W2.2.2.2))))) (fun _ => none) (fun _ => none) (fun W3 =>
some (.inl 1, W3))
set_option maxRecDepth 100000 in
theorem T_L_blocks (scr : mScr) (d : Nat) (W : mW)  : SimC scr (d + 5) 264 [sR 0, sR 74] (mkM W) (e2I) (P_L_blocks W) := by
  refine sm_callX (cs := mc_L_blocks) (maxL := 3) (rk := 0) (o := 112) (hs := [(0, (8, (11, 2)))]) (d := d + 4) [lR 0, lR 74, none] rfl rfl rfl rfl ?_
  unfold P_L_blocks
  refine sm_go 3 (s' := (3, ([lR 0, lR 74, none], ([sR 0, sI 0, sR 74], (mSH W.1 W.2.1, (W.2.2.1, W.2.2.2)))))) ?_ rfl
  refine sm_ctc (rest := [sI 0, sR 74]) (T_X10_blocks scr d W) rfl (Or.inl rfl) rfl rfl rfl rfl (fun _ _ => rfl) (fun v1 W2 => (6, ([lR 0, lR 74, none], ([sI v1, sI 0, sR 74], (mSH W2.1 W2.2.1, (W2.2.2.1, W2.2.2.2)))))) (fun _ _ => rfl) (fun v1 W2 => ?_) (Or.inr rfl) (Or.inr rfl) (Or.inl ⟨11, rfl, fun W3 => ?_⟩)
  · refine sm_go 1 (s' := (7, ([lR 0, lR 74, none], ([sL (w32 v1), sI 0, sR 74], (mSH W2.1 W2.2.1, (W2.2.2.1, W2.2.2.2)))))) ?_ rfl
    refine sm_lst rfl rfl fun G4 => ?_
    refine sm_go 1 (s' := (14, ([lR 0, lR 74, none], ([], (mSH W2.1 W2.2.1, (G4, W2.2.2.2)))))) ?_ rfl
    refine sm_go 1 (s' := (15, ([lR 0, lR 74, none], ([sI 0], (mSH W2.1 W2.2.1, (G4, W2.2.2.2)))))) ?_ rfl
    exact sm_retI rfl rfl rfl
  · refine sm_go 2 (s' := (13, ([lR 0, lR 74, lO], ([sI 1], (mSH W3.1 W3.2.1, (W3.2.2.1, W3.2.2.2)))))) ?_ rfl
    exact sm_retI rfl rfl rfl
