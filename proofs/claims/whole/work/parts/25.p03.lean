/-! ===== programs as functions, 25 3: printed by wip/whole/gen/gen_p_out.py ===== -/
def P_X8_firstByRule (t : Nat) (p1 : Int) (G : mG) : Option (Int) :=
loop3 LF (fun again6 (x2 : Int) (x3 : Int) (x4 : Int) =>
bif (ilt x4 (G 1 0)) then
(P_X8_hasLeft t x4 G).bind fun v7 =>
letK (fun (x8 : Int) (x9 : Int) =>
again6 x8 x9 (x4 + 1)) fun k11 =>
bif v7 then
(P_X8_firstHour t x4 0 G).bind fun v12 =>
letK (k11 x4 v12) fun k14 =>
bif (ieq x2 (-1)) then
k14
else
bif (ilt v12 x3) then
k14
else
bif (ieq v12 x3) then
(P_X8_goesAhead t p1 x4 x2 G).bind fun v15 =>
bif v15 then
k14
else
k11 x2 x3
else
k11 x2 x3
else
k11 x2 x3
else
some x2) (-1) 0 0
set_option maxRecDepth 100000 in
theorem T_X8_firstByRule_26 (scr : mScr) (d : Nat) (r : List (Option Nat)) (tl : List mSh) (nk : Nat × Nat) (G : mG)  (p1 : Int) : SimC scr (d + 4) 63 [sR 26, sI p1] (mSH r tl, (G, nk)) (e0I (mSH r tl, (G, nk))) (P_X8_firstByRule 26 p1 G) := by
  refine sm_callX (cs := mc_X8_firstByRule) (maxL := 6) (rk := 0) (o := 8) (hs := []) (d := d + 3) [lR 26, lI p1, none, none, none, none] rfl rfl rfl rfl ?_
  unfold P_X8_firstByRule
  refine sm_go 6 (s' := (7, ([lR 26, lI p1, lI (-1), lI 0, lI 0, none], ([], (mSH r tl, (G, nk)))))) ?_ rfl
  refine sm_loop3 (S := fun (g5 : Option mV) (x2 : Int) (x3 : Int) (x4 : Int) => (7, ([lR 26, lI p1, lI x2, lI x3, lI x4, g5], ([], (mSH r tl, (G, nk)))))) ?_ LF (none) (-1) 0 0
  intro again6 hagain6 g5 x2 x3 x4
  refine sm_go 4 (s' := (16, ([lR 26, lI p1, lI x2, lI x3, lI x4, g5], ([sI (G 1 0), sI x4], (mSH r tl, (G, nk)))))) ?_ rfl
  refine sm_if2n (t := (ilt x4 (G 1 0))) (pt := 77) rfl rfl rfl (fun _ => ?_) (fun _ => ?_)
  · refine sm_go 2 (s' := (22, ([lR 26, lI p1, lI x2, lI x3, lI x4, g5], ([sI x4, sR 26], (mSH r tl, (G, nk)))))) ?_ rfl
    refine sm_callG (rest := []) (T_X8_hasLeft_26 scr (d + 2) r tl nk G x4) rfl (Or.inl rfl) rfl rfl rfl rfl (fun _ => rfl) (fun v7 => (25, ([lR 26, lI p1, lI x2, lI x3, lI x4, g5], ([sI (b2i v7)], (mSH r tl, (G, nk)))))) (fun _ => rfl) fun v7 => ?_
    refine sm_letK2 (S := fun (g10 : Option mV) (x8 : Int) (x9 : Int) => (71, ([lR 26, lI p1, lI x8, lI x9, lI x4, g10], ([], (mSH r tl, (G, nk)))))) ?_ ?_
    · intro g10 x8 x9
      exact sm_go 2 (hagain6 (g10) x8 x9 (x4 + 1)) rfl
    · intro k11 hk11
      refine sm_if1n (t := v7) (pt := 71) (mCmpB_eq v7) rfl rfl (fun _ => ?_) (fun _ => ?_)
      · refine sm_go 3 (s' := (32, ([lR 26, lI p1, lI x2, lI x3, lI x4, g5], ([sI 0, sI x4, sR 26], (mSH r tl, (G, nk)))))) ?_ rfl
        refine sm_callG (rest := []) (T_X8_firstHour_26 scr d r tl nk G x4 0) rfl (Or.inl rfl) rfl rfl rfl rfl (fun _ => rfl) (fun v12 => (35, ([lR 26, lI p1, lI x2, lI x3, lI x4, g5], ([sI v12], (mSH r tl, (G, nk)))))) (fun _ => rfl) fun v12 => ?_
        refine sm_letK0 (S := fun (g13 : Unit) => (65, ([lR 26, lI p1, lI x2, lI x3, lI x4, lI v12], ([], (mSH r tl, (G, nk)))))) ?_ ?_
        · intro g13
          exact sm_go 4 (hk11 (lI v12) x4 v12) rfl
        · intro k14 hk14
          refine sm_go 3 (s' := (39, ([lR 26, lI p1, lI x2, lI x3, lI x4, lI v12], ([sI (-1), sI x2], (mSH r tl, (G, nk)))))) ?_ rfl
          refine sm_if2 (t := (ieq x2 (-1))) (pt := 65) rfl rfl rfl (fun _ => ?_) (fun _ => ?_)
          · exact hk14 ()
          · refine sm_go 2 (s' := (45, ([lR 26, lI p1, lI x2, lI x3, lI x4, lI v12], ([sI x3, sI v12], (mSH r tl, (G, nk)))))) ?_ rfl
            refine sm_if2 (t := (ilt v12 x3)) (pt := 65) rfl rfl rfl (fun _ => ?_) (fun _ => ?_)
            · exact hk14 ()
            · refine sm_go 2 (s' := (51, ([lR 26, lI p1, lI x2, lI x3, lI x4, lI v12], ([sI x3, sI v12], (mSH r tl, (G, nk)))))) ?_ rfl
              refine sm_if2n (t := (ieq v12 x3)) (pt := 71) rfl rfl rfl (fun _ => ?_) (fun _ => ?_)
              · refine sm_go 4 (s' := (59, ([lR 26, lI p1, lI x2, lI x3, lI x4, lI v12], ([sI x2, sI x4, sI p1, sR 26], (mSH r tl, (G, nk)))))) ?_ rfl
                refine sm_callG (rest := []) (T_X8_goesAhead_26 scr d r tl nk G p1 x4 x2) rfl (Or.inl rfl) rfl rfl rfl rfl (fun _ => rfl) (fun v15 => (62, ([lR 26, lI p1, lI x2, lI x3, lI x4, lI v12], ([sI (b2i v15)], (mSH r tl, (G, nk)))))) (fun _ => rfl) fun v15 => ?_
                refine sm_if1n (t := v15) (pt := 71) (mCmpB_eq v15) rfl rfl (fun _ => ?_) (fun _ => ?_)
                · exact hk14 ()
                · exact hk11 (lI v12) x2 x3
              · exact hk11 (lI v12) x2 x3
      · exact hk11 (g5) x2 x3
  · refine sm_go 1 (s' := (78, ([lR 26, lI p1, lI x2, lI x3, lI x4, g5], ([sI x2], (mSH r tl, (G, nk)))))) ?_ rfl
    exact sm_retI rfl rfl rfl
def P_X8_putRestByRule (t : Nat) (p1 : Int) (G : mG) : Option (mG) :=
(P_X7_stepTotal G).bind fun v2 =>
loop2 LF (fun again6 (x3 : Int) (G4 : mG) =>
bif (ilt x3 (v2 - (G t 1))) then
(P_X8_firstByRule t p1 G4).bind fun v7 =>
(P_X8_put t v7 0 G4).bind fun G8 =>
again6 (x3 + 1) G8
else
some G4) 0 G
set_option maxRecDepth 100000 in
theorem T_X8_putRestByRule_26 (scr : mScr) (d : Nat) (r : List (Option Nat)) (tl : List mSh) (nk : Nat × Nat) (G : mG)  (p1 : Int) : SimC scr (d + 5) 62 [sR 26, sI p1] (mSH r tl, (G, nk)) (e1U r tl nk) (P_X8_putRestByRule 26 p1 G) := by
  refine sm_callX (cs := mc_X8_putRestByRule) (maxL := 4) (rk := 0) (o := 8) (hs := []) (d := d + 4) [lR 26, lI p1, none, none] rfl rfl rfl rfl ?_
  unfold P_X8_putRestByRule
  refine sm_go 2 (s' := (4, ([lR 26, lI p1, none, none], ([sR 1], (mSH r tl, (G, nk)))))) ?_ rfl
  refine sm_callG (rest := []) (T_X7_stepTotal scr (d + 3) r tl nk G) rfl (Or.inl rfl) rfl rfl rfl rfl (fun _ => rfl) (fun v2 => (7, ([lR 26, lI p1, none, none], ([sI v2], (mSH r tl, (G, nk)))))) (fun _ => rfl) fun v2 => ?_
  refine sm_go 6 (s' := (15, ([lR 26, lI p1, lI (v2 - (G 26 1)), lI 0], ([], (mSH r tl, (G, nk)))))) ?_ rfl
  refine sm_loop2 (S := fun (g5 : Unit) (x3 : Int) (G4 : mG) => (15, ([lR 26, lI p1, lI (v2 - (G 26 1)), lI x3], ([], (mSH r tl, (G4, nk)))))) ?_ LF () 0 G
  intro again6 hagain6 g5 x3 G4
  refine sm_go 2 (s' := (17, ([lR 26, lI p1, lI (v2 - (G 26 1)), lI x3], ([sI (v2 - (G 26 1)), sI x3], (mSH r tl, (G4, nk)))))) ?_ rfl
  refine sm_if2n (t := (ilt x3 (v2 - (G 26 1)))) (pt := 36) rfl rfl rfl (fun _ => ?_) (fun _ => ?_)
  · refine sm_go 3 (s' := (23, ([lR 26, lI p1, lI (v2 - (G 26 1)), lI x3], ([sI p1, sR 26, sR 26], (mSH r tl, (G4, nk)))))) ?_ rfl
    refine sm_callG (rest := [sR 26]) (T_X8_firstByRule_26 scr d r tl nk G4 p1) rfl (Or.inl rfl) rfl rfl rfl rfl (fun _ => rfl) (fun v7 => (26, ([lR 26, lI p1, lI (v2 - (G 26 1)), lI x3], ([sI v7, sR 26], (mSH r tl, (G4, nk)))))) (fun _ => rfl) fun v7 => ?_
    refine sm_go 1 (s' := (27, ([lR 26, lI p1, lI (v2 - (G 26 1)), lI x3], ([sI 0, sI v7, sR 26], (mSH r tl, (G4, nk)))))) ?_ rfl
    refine sm_callG (rest := []) (T_X8_put_26 scr d r tl nk G4 v7 0) rfl (Or.inl rfl) rfl rfl rfl rfl (fun _ => rfl) (fun G8 => (30, ([lR 26, lI p1, lI (v2 - (G 26 1)), lI x3], ([], (mSH r tl, (G8, nk)))))) (fun _ => rfl) fun G8 => ?_
    exact sm_go 2 (hagain6 () (x3 + 1) G8) rfl
  · exact sm_retU rfl rfl
def P_X7_takeRow (G : mG) : Option (mG) :=
(P_X7_copy 27 30 16 30 G).bind fun G1 =>
(pstZ G1 1 15 1).bind fun G2 =>
some G2
set_option maxRecDepth 100000 in
theorem T_X7_takeRow (scr : mScr) (d : Nat) (r : List (Option Nat)) (tl : List mSh) (nk : Nat × Nat) (G : mG)  : SimC scr (d + 2) 34 [sR 1, sR 27] (mSH r tl, (G, nk)) (e1U r tl nk) (P_X7_takeRow G) := by
  refine sm_callX (cs := mc_X7_takeRow) (maxL := 2) (rk := 0) (o := 7) (hs := []) (d := d + 1) [lR 1, lR 27] rfl rfl rfl rfl ?_
  unfold P_X7_takeRow
  refine sm_go 3 (s' := (5, ([lR 1, lR 27], ([sR 16, sR 27], (mSH r tl, (G, nk)))))) ?_ rfl
  refine sm_callG (rest := []) (T_X7_copy scr d r tl nk G 27 30 rfl 16 30 rfl) rfl (Or.inr (Or.inl rfl)) rfl rfl rfl rfl (fun _ => rfl) (fun G1 => (8, ([lR 1, lR 27], ([], (mSH r tl, (G1, nk)))))) (fun _ => rfl) fun G1 => ?_
  refine sm_go 2 (s' := (10, ([lR 1, lR 27], ([sI 1, sR 1], (mSH r tl, (G1, nk)))))) ?_ rfl
  refine sm_pstZ rfl rfl rfl fun G2 => ?_
  exact sm_retU rfl rfl
def P_X8_leastEndOf (t : Nat) (p1 : Int) (G : mG) : Option (Int) :=
(P_X8_readyHour t p1 G).bind fun v2 =>
(P_X8_hoursLeft t p1 G).bind fun v3 =>
some (v2 + v3)
set_option maxRecDepth 100000 in
theorem T_X8_leastEndOf_17 (scr : mScr) (d : Nat) (r : List (Option Nat)) (tl : List mSh) (nk : Nat × Nat) (G : mG)  (p1 : Int) : SimC scr (d + 3) 67 [sR 17, sI p1] (mSH r tl, (G, nk)) (e0I (mSH r tl, (G, nk))) (P_X8_leastEndOf 17 p1 G) := by
  refine sm_callX (cs := mc_X8_leastEndOf) (maxL := 2) (rk := 0) (o := 8) (hs := []) (d := d + 2) [lR 17, lI p1] rfl rfl rfl rfl ?_
  unfold P_X8_leastEndOf
  refine sm_go 2 (s' := (2, ([lR 17, lI p1], ([sI p1, sR 17], (mSH r tl, (G, nk)))))) ?_ rfl
  refine sm_callG (rest := []) (T_X8_readyHour_17 scr d r tl nk G p1) rfl (Or.inl rfl) rfl rfl rfl rfl (fun _ => rfl) (fun v2 => (5, ([lR 17, lI p1], ([sI v2], (mSH r tl, (G, nk)))))) (fun _ => rfl) fun v2 => ?_
  refine sm_go 2 (s' := (7, ([lR 17, lI p1], ([sI p1, sR 17, sI v2], (mSH r tl, (G, nk)))))) ?_ rfl
  refine sm_callG (rest := [sI v2]) (T_X8_hoursLeft_17 scr d r tl nk G p1) rfl (Or.inl rfl) rfl rfl rfl rfl (fun _ => rfl) (fun v3 => (10, ([lR 17, lI p1], ([sI v3, sI v2], (mSH r tl, (G, nk)))))) (fun _ => rfl) fun v3 => ?_
  refine sm_go 1 (s' := (11, ([lR 17, lI p1], ([sI (v2 + v3)], (mSH r tl, (G, nk)))))) ?_ rfl
  exact sm_retI rfl rfl rfl
def P_X8_aimed (t : Nat) (p1 : Int) (G : mG) : Option (Int) :=
loop2 LF (fun again5 (x2 : Int) (x3 : Int) =>
bif (ilt x3 (G 1 0)) then
(P_X8_leastEndOf t x3 G).bind fun v6 =>
(ald G 3 6 x3).bind fun v7 =>
letK (fun (x8 : Int) =>
again5 x8 (x3 + 1)) fun k10 =>
bif decide (w32 p1 = 0) then
k10 (iMax x2 v6)
else
bif decide (w32 p1 = 1) then
k10 (x2 + v6)
else
bif decide (w32 p1 = 2) then
letK (fun (x11 : Int) =>
k10 x11) fun k13 =>
bif (ieq x3 0) then
k13 (v6 - v7)
else
k13 (iMax x2 (v6 - v7))
else
bif decide (w32 p1 = 3) then
letK (fun (x14 : Int) =>
k10 (x2 + x14)) fun k16 =>
bif (ilt 0 (v6 - v7)) then
k16 1
else
k16 0
else
(ald G 4 6 x3).bind fun v17 =>
k10 (x2 + (v17 * (iMax (v6 - v7) 0)))
else
some x2) 0 0
set_option maxRecDepth 100000 in
theorem T_X8_aimed_17 (scr : mScr) (d : Nat) (r : List (Option Nat)) (tl : List mSh) (nk : Nat × Nat) (G : mG)  (p1 : Int) : SimC scr (d + 4) 68 [sR 17, sI p1] (mSH r tl, (G, nk)) (e0I (mSH r tl, (G, nk))) (P_X8_aimed 17 p1 G) := by
  refine sm_callX (cs := mc_X8_aimed) (maxL := 6) (rk := 0) (o := 8) (hs := []) (d := d + 3) [lR 17, lI p1, none, none, none, none] rfl rfl rfl rfl ?_
  unfold P_X8_aimed
  refine sm_go 4 (s' := (4, ([lR 17, lI p1, lI 0, lI 0, none, none], ([], (mSH r tl, (G, nk)))))) ?_ rfl
  refine sm_loop2 (S := fun (g4 : Option mV × Option mV) (x2 : Int) (x3 : Int) => (4, ([lR 17, lI p1, lI x2, lI x3, g4.1, g4.2], ([], (mSH r tl, (G, nk)))))) ?_ LF (none, none) 0 0
  intro again5 hagain5 g4 x2 x3
  refine sm_go 4 (s' := (12, ([lR 17, lI p1, lI x2, lI x3, g4.1, g4.2], ([sI (G 1 0), sI x3], (mSH r tl, (G, nk)))))) ?_ rfl
  refine sm_if2n (t := (ilt x3 (G 1 0))) (pt := 146) rfl rfl rfl (fun _ => ?_) (fun _ => ?_)
  · refine sm_go 2 (s' := (17, ([lR 17, lI p1, lI x2, lI x3, g4.1, g4.2], ([sI x3, sR 17], (mSH r tl, (G, nk)))))) ?_ rfl
    refine sm_callG (rest := []) (T_X8_leastEndOf_17 scr d r tl nk G x3) rfl (Or.inl rfl) rfl rfl rfl rfl (fun _ => rfl) (fun v6 => (20, ([lR 17, lI p1, lI x2, lI x3, g4.1, g4.2], ([sI v6], (mSH r tl, (G, nk)))))) (fun _ => rfl) fun v6 => ?_
    refine sm_go 6 (s' := (32, ([lR 17, lI p1, lI x2, lI x3, lI v6, g4.2], ([sI x3, sR 3, sI v6], (mSH r tl, (G, nk)))))) ?_ rfl
    refine sm_ald rfl rfl fun v7 => ?_
    refine sm_letK1 (S := fun (g9 : Unit) (x8 : Int) => (140, ([lR 17, lI p1, lI x8, lI x3, lI v6, lI (v6 - v7)], ([], (mSH r tl, (G, nk)))))) ?_ ?_
    · intro g9 x8
      exact sm_go 2 (hagain5 (lI v6, lI (v6 - v7)) x8 (x3 + 1)) rfl
    · intro k10 hk10
      refine sm_go 3 (s' := (37, ([lR 17, lI p1, lI x2, lI x3, lI v6, lI (v6 - v7)], ([sI p1], (mSH r tl, (G, nk)))))) ?_ rfl
      refine sm_sw (fun hw0 => ?_) (fun hw0 => ?_)
      · refine sm_swC (pt := 68) hw0 rfl rfl ?_
        exact sm_go 5 (hk10 () (iMax x2 v6)) rfl
      refine sm_sw (fun hw1 => ?_) (fun hw1 => ?_)
      · refine sm_swC (pt := 78) hw1 rfl rfl ?_
        exact sm_go 5 (hk10 () (x2 + v6)) rfl
      refine sm_sw (fun hw2 => ?_) (fun hw2 => ?_)
      · refine sm_swC (pt := 86) hw2 rfl rfl ?_
        refine sm_letK1 (S := fun (g12 : Unit) (x11 : Int) => (101, ([lR 17, lI p1, lI x2, lI x3, lI v6, lI (v6 - v7)], ([sI x11], (mSH r tl, (G, nk)))))) ?_ ?_
        · intro g12 x11
          exact sm_go 2 (hk10 () x11) rfl
        · intro k13 hk13
          refine sm_go 1 (s' := (87, ([lR 17, lI p1, lI x2, lI x3, lI v6, lI (v6 - v7)], ([sI x3], (mSH r tl, (G, nk)))))) ?_ rfl
          refine sm_if1n (t := (ieq x3 0)) (pt := 95) rfl rfl rfl (fun _ => ?_) (fun _ => ?_)
          · exact sm_go 2 (hk13 () (v6 - v7)) rfl
          · exact sm_go 3 (hk13 () (iMax x2 (v6 - v7))) rfl
      refine sm_sw (fun hw3 => ?_) (fun hw3 => ?_)
      · refine sm_swC (pt := 105) hw3 rfl rfl ?_
        refine sm_letK1 (S := fun (g15 : Unit) (x14 : Int) => (116, ([lR 17, lI p1, lI x2, lI x3, lI v6, lI (v6 - v7)], ([sI x14, sI x2], (mSH r tl, (G, nk)))))) ?_ ?_
        · intro g15 x14
          exact sm_go 3 (hk10 () (x2 + x14)) rfl
        · intro k16 hk16
          refine sm_go 2 (s' := (108, ([lR 17, lI p1, lI x2, lI x3, lI v6, lI (v6 - v7)], ([sI (v6 - v7), sI x2], (mSH r tl, (G, nk)))))) ?_ rfl
          refine sm_if1n (t := (ilt 0 (v6 - v7))) (pt := 115) rfl rfl rfl (fun _ => ?_) (fun _ => ?_)
          · exact sm_go 2 (hk16 () 1) rfl
          · exact sm_go 1 (hk16 () 0) rfl
      refine sm_swD (pt := 121) (by omega) rfl rfl ?_
      refine sm_go 5 (s' := (130, ([lR 17, lI p1, lI x2, lI x3, lI v6, lI (v6 - v7)], ([sI x3, sR 4, sI x2], (mSH r tl, (G, nk)))))) ?_ rfl
      refine sm_ald rfl rfl fun v17 => ?_
      exact sm_go 6 (hk10 () (x2 + (v17 * (iMax (v6 - v7) 0)))) rfl
  · refine sm_go 1 (s' := (147, ([lR 17, lI p1, lI x2, lI x3, g4.1, g4.2], ([sI x2], (mSH r tl, (G, nk)))))) ?_ rfl
    exact sm_retI rfl rfl rfl
def P_X11_startsPlan (G : mG) : Option (mG) :=
letK (fun (G1 : mG) =>
loop2 LF (fun again6 (x3 : Int) (G4 : mG) =>
bif (ilt x3 4) then
(ast G4 62 4 x3 (-1)).bind fun G7 =>
(ast G7 63 4 x3 0).bind fun G8 =>
(ast G8 64 4 x3 0).bind fun G9 =>
(ast G9 65 4 x3 0).bind fun G10 =>
again6 (x3 + 1) G10
else
some G4) 0 G1) fun k11 =>
loop2 LF (fun again15 (x12 : Int) (G13 : mG) =>
bif (ilt x12 6) then
(ast G13 60 6 x12 0).bind fun G16 =>
(ald G16 57 282 0).bind fun v17 =>
letK (fun (x18 : Int) =>
(ast G16 61 6 x12 x18).bind fun G20 =>
again15 (x12 + 1) G20) fun k21 =>
bif (ilt x12 v17) then
(P_X11_of x12 0 G16).bind fun v22 =>
k21 v22
else
k21 0
else
k11 G13) 0 G
set_option maxRecDepth 100000 in
theorem T_X11_startsPlan (scr : mScr) (d : Nat) (r : List (Option Nat)) (tl : List mSh) (nk : Nat × Nat) (G : mG)  : SimC scr (d + 2) 151 [sR 56] (mSH r tl, (G, nk)) (e1U r tl nk) (P_X11_startsPlan G) := by
  refine sm_callX (cs := mc_X11_startsPlan) (maxL := 2) (rk := 0) (o := 11) (hs := []) (d := d + 1) [lR 56, none] rfl rfl rfl rfl ?_
  unfold P_X11_startsPlan
  refine sm_go 2 (s' := (2, ([lR 56, lI 0], ([], (mSH r tl, (G, nk)))))) ?_ rfl
  refine sm_letK1 (S := fun (g2 : Option mV) (G1 : mG) => (47, ([lR 56, g2], ([], (mSH r tl, (G1, nk)))))) ?_ ?_
  · intro g2 G1
    refine sm_go 2 (s' := (49, ([lR 56, lI 0], ([], (mSH r tl, (G1, nk)))))) ?_ rfl
    refine sm_loop2 (S := fun (g5 : Unit) (x3 : Int) (G4 : mG) => (49, ([lR 56, lI x3], ([], (mSH r tl, (G4, nk)))))) ?_ LF () 0 G1
    intro again6 hagain6 g5 x3 G4
    refine sm_go 2 (s' := (51, ([lR 56, lI x3], ([sI 4, sI x3], (mSH r tl, (G4, nk)))))) ?_ rfl
    refine sm_if2n (t := (ilt x3 4)) (pt := 88) rfl rfl rfl (fun _ => ?_) (fun _ => ?_)
    · refine sm_go 4 (s' := (60, ([lR 56, lI x3], ([sI (-1), sI x3, sR 62], (mSH r tl, (G4, nk)))))) ?_ rfl
      refine sm_ast rfl rfl fun G7 => ?_
      refine sm_go 4 (s' := (67, ([lR 56, lI x3], ([sI 0, sI x3, sR 63], (mSH r tl, (G7, nk)))))) ?_ rfl
      refine sm_ast rfl rfl fun G8 => ?_
      refine sm_go 4 (s' := (74, ([lR 56, lI x3], ([sI 0, sI x3, sR 64], (mSH r tl, (G8, nk)))))) ?_ rfl
      refine sm_ast rfl rfl fun G9 => ?_
      refine sm_go 4 (s' := (81, ([lR 56, lI x3], ([sI 0, sI x3, sR 65], (mSH r tl, (G9, nk)))))) ?_ rfl
      refine sm_ast rfl rfl fun G10 => ?_
      exact sm_go 2 (hagain6 () (x3 + 1) G10) rfl
    · exact sm_retU rfl rfl
  · intro k11 hk11
    refine sm_loop2 (S := fun (g14 : Unit) (x12 : Int) (G13 : mG) => (2, ([lR 56, lI x12], ([], (mSH r tl, (G13, nk)))))) ?_ LF () 0 G
    intro again15 hagain15 g14 x12 G13
    refine sm_go 2 (s' := (5, ([lR 56, lI x12], ([sI 6, sI x12], (mSH r tl, (G13, nk)))))) ?_ rfl
    refine sm_if2n (t := (ilt x12 6)) (pt := 47) rfl rfl rfl (fun _ => ?_) (fun _ => ?_)
    · refine sm_go 4 (s' := (14, ([lR 56, lI x12], ([sI 0, sI x12, sR 60], (mSH r tl, (G13, nk)))))) ?_ rfl
      refine sm_ast rfl rfl fun G16 => ?_
      refine sm_go 7 (s' := (26, ([lR 56, lI x12], ([sI 0, sR 57, sI x12, sI x12, sR 61], (mSH r tl, (G16, nk)))))) ?_ rfl
      refine sm_ald rfl rfl fun v17 => ?_
      refine sm_letK1 (S := fun (g19 : Unit) (x18 : Int) => (40, ([lR 56, lI x12], ([sI x18, sI x12, sR 61], (mSH r tl, (G16, nk)))))) ?_ ?_
      · intro g19 x18
        refine sm_ast rfl rfl fun G20 => ?_
        exact sm_go 2 (hagain15 () (x12 + 1) G20) rfl
      · intro k21 hk21
        refine sm_if2n (t := (ilt x12 v17)) (pt := 39) rfl rfl rfl (fun _ => ?_) (fun _ => ?_)
        · refine sm_go 3 (s' := (33, ([lR 56, lI x12], ([sI 0, sI x12, sR 56, sI x12, sR 61], (mSH r tl, (G16, nk)))))) ?_ rfl
          refine sm_callG (rest := [sI x12, sR 61]) (T_X11_of scr d r tl nk G16 x12 0) rfl (Or.inl rfl) rfl rfl rfl rfl (fun _ => rfl) (fun v22 => (36, ([lR 56, lI x12], ([sI v22, sI x12, sR 61], (mSH r tl, (G16, nk)))))) (fun _ => rfl) fun v22 => ?_
          exact sm_go 1 (hk21 () v22) rfl
        · exact sm_go 1 (hk21 () 0) rfl
    · exact hk11 (lI x12) G13
def P_X11_clearsOrder (G : mG) : Option (mG) :=
loop2 LF (fun again4 (x1 : Int) (G2 : mG) =>
bif (ilt x1 4) then
(ast G2 66 124 (x1 * 31) 0).bind fun G5 =>
again4 (x1 + 1) G5
else
some G2) 0 G
set_option maxRecDepth 100000 in
theorem T_X11_clearsOrder (scr : mScr) (d : Nat) (r : List (Option Nat)) (tl : List mSh) (nk : Nat × Nat) (G : mG)  : SimC scr (d + 1) 164 [sR 56] (mSH r tl, (G, nk)) (e1U r tl nk) (P_X11_clearsOrder G) := by
  refine sm_callX (cs := mc_X11_clearsOrder) (maxL := 2) (rk := 0) (o := 11) (hs := []) (d := d + 0) [lR 56, none] rfl rfl rfl rfl ?_
  unfold P_X11_clearsOrder
  refine sm_go 2 (s' := (2, ([lR 56, lI 0], ([], (mSH r tl, (G, nk)))))) ?_ rfl
  refine sm_loop2 (S := fun (g3 : Unit) (x1 : Int) (G2 : mG) => (2, ([lR 56, lI x1], ([], (mSH r tl, (G2, nk)))))) ?_ LF () 0 G
  intro again4 hagain4 g3 x1 G2
  refine sm_go 2 (s' := (4, ([lR 56, lI x1], ([sI 4, sI x1], (mSH r tl, (G2, nk)))))) ?_ rfl
  refine sm_if2n (t := (ilt x1 4)) (pt := 23) rfl rfl rfl (fun _ => ?_) (fun _ => ?_)
  · refine sm_go 6 (s' := (16, ([lR 56, lI x1], ([sI 0, sI (x1 * 31), sR 66], (mSH r tl, (G2, nk)))))) ?_ rfl
    refine sm_ast rfl rfl fun G5 => ?_
    exact sm_go 2 (hagain4 () (x1 + 1) G5) rfl
  · exact sm_retU rfl rfl
def P_X11_puts (p1 : Int) (G : mG) : Option (mG) :=
(ald G 60 6 p1).bind fun v2 =>
(P_X11_machineOf p1 v2 G).bind fun v3 =>
(ald G 66 124 (v3 * 31)).bind fun v4 =>
(ald G 60 6 p1).bind fun v5 =>
(ast G 66 124 (((v3 * 31) + 1) + v4) ((10 * p1) + v5)).bind fun G6 =>
(ald G6 66 124 (v3 * 31)).bind fun v7 =>
(ast G6 66 124 (v3 * 31) (v7 + 1)).bind fun G8 =>
some G8
set_option maxRecDepth 100000 in
theorem T_X11_puts (scr : mScr) (d : Nat) (r : List (Option Nat)) (tl : List mSh) (nk : Nat × Nat) (G : mG)  (p1 : Int) : SimC scr (d + 3) 163 [sR 56, sI p1] (mSH r tl, (G, nk)) (e1U r tl nk) (P_X11_puts p1 G) := by
  refine sm_callX (cs := mc_X11_puts) (maxL := 3) (rk := 0) (o := 11) (hs := []) (d := d + 2) [lR 56, lI p1, none] rfl rfl rfl rfl ?_
  unfold P_X11_puts
  refine sm_go 5 (s' := (7, ([lR 56, lI p1, none], ([sI p1, sR 60, sI p1, sR 56], (mSH r tl, (G, nk)))))) ?_ rfl
  refine sm_ald rfl rfl fun v2 => ?_
  refine sm_callG (rest := []) (T_X11_machineOf scr d r tl nk G p1 v2) rfl (Or.inl rfl) rfl rfl rfl rfl (fun _ => rfl) (fun v3 => (11, ([lR 56, lI p1, none], ([sI v3], (mSH r tl, (G, nk)))))) (fun _ => rfl) fun v3 => ?_
  refine sm_go 11 (s' := (27, ([lR 56, lI p1, lI (v3 * 31)], ([sI (v3 * 31), sR 66, sI ((v3 * 31) + 1), sR 66], (mSH r tl, (G, nk)))))) ?_ rfl
  refine sm_ald rfl rfl fun v4 => ?_
  refine sm_go 7 (s' := (38, ([lR 56, lI p1, lI (v3 * 31)], ([sI p1, sR 60, sI (10 * p1), sI (((v3 * 31) + 1) + v4), sR 66], (mSH r tl, (G, nk)))))) ?_ rfl
  refine sm_ald rfl rfl fun v5 => ?_
  refine sm_go 1 (s' := (40, ([lR 56, lI p1, lI (v3 * 31)], ([sI ((10 * p1) + v5), sI (((v3 * 31) + 1) + v4), sR 66], (mSH r tl, (G, nk)))))) ?_ rfl
  refine sm_ast rfl rfl fun G6 => ?_
  refine sm_go 4 (s' := (47, ([lR 56, lI p1, lI (v3 * 31)], ([sI (v3 * 31), sR 66, sI (v3 * 31), sR 66], (mSH r tl, (G6, nk)))))) ?_ rfl
  refine sm_ald rfl rfl fun v7 => ?_
  refine sm_go 2 (s' := (50, ([lR 56, lI p1, lI (v3 * 31)], ([sI (v7 + 1), sI (v3 * 31), sR 66], (mSH r tl, (G6, nk)))))) ?_ rfl
  refine sm_ast rfl rfl fun G8 => ?_
  exact sm_retU rfl rfl
def P_X11_isChanged (p1 : Int) (p2 : Int) (G : mG) : Option (Bool) :=
(ald G 57 282 ((1 + (p1 * 11)) + 9)).bind fun v3 =>
(ald G 62 4 p1).bind fun v4 =>
letK (some false) fun k6 =>
bif (ieq v4 (-1)) then
k6
else
bif (ilt 0 v3) then
(ald G 64 4 p1).bind fun v7 =>
bif (ilt v3 (v7 + p2)) then
some true
else
k6
else
k6
set_option maxRecDepth 100000 in
theorem T_X11_isChanged (scr : mScr) (d : Nat) (r : List (Option Nat)) (tl : List mSh) (nk : Nat × Nat) (G : mG)  (p1 : Int) (p2 : Int) : SimC scr (d + 1) 153 [sR 56, sI p1, sI p2] (mSH r tl, (G, nk)) (e0B (mSH r tl, (G, nk))) (P_X11_isChanged p1 p2 G) := by
  refine sm_callX (cs := mc_X11_isChanged) (maxL := 4) (rk := 1) (o := 11) (hs := []) (d := d + 0) [lR 56, lI p1, lI p2, none] rfl rfl rfl rfl ?_
  unfold P_X11_isChanged
  refine sm_go 9 (s' := (13, ([lR 56, lI p1, lI p2, none], ([sI ((1 + (p1 * 11)) + 9), sR 57], (mSH r tl, (G, nk)))))) ?_ rfl
  refine sm_ald rfl rfl fun v3 => ?_
  refine sm_go 4 (s' := (20, ([lR 56, lI p1, lI p2, lI v3], ([sI p1, sR 62], (mSH r tl, (G, nk)))))) ?_ rfl
  refine sm_ald rfl rfl fun v4 => ?_
  refine sm_letK0 (S := fun (g5 : Unit) => (45, ([lR 56, lI p1, lI p2, lI v3], ([], (mSH r tl, (G, nk)))))) ?_ ?_
  · intro g5
    refine sm_go 1 (s' := (46, ([lR 56, lI p1, lI p2, lI v3], ([sI 0], (mSH r tl, (G, nk)))))) ?_ rfl
    exact sm_retB1 (b := false) rfl rfl
  · intro k6 hk6
    refine sm_go 1 (s' := (22, ([lR 56, lI p1, lI p2, lI v3], ([sI (-1), sI v4], (mSH r tl, (G, nk)))))) ?_ rfl
    refine sm_if2 (t := (ieq v4 (-1))) (pt := 45) rfl rfl rfl (fun _ => ?_) (fun _ => ?_)
    · exact hk6 ()
    · refine sm_go 1 (s' := (26, ([lR 56, lI p1, lI p2, lI v3], ([sI v3], (mSH r tl, (G, nk)))))) ?_ rfl
      refine sm_if1n (t := (ilt 0 v3)) (pt := 45) rfl rfl rfl (fun _ => ?_) (fun _ => ?_)
      · refine sm_go 3 (s' := (34, ([lR 56, lI p1, lI p2, lI v3], ([sI p1, sR 64], (mSH r tl, (G, nk)))))) ?_ rfl
        refine sm_ald rfl rfl fun v7 => ?_
        refine sm_go 3 (s' := (38, ([lR 56, lI p1, lI p2, lI v3], ([sI v3, sI (v7 + p2)], (mSH r tl, (G, nk)))))) ?_ rfl
        refine sm_if2n (t := (ilt v3 (v7 + p2))) (pt := 45) rfl rfl rfl (fun _ => ?_) (fun _ => ?_)
        · refine sm_go 2 (s' := (46, ([lR 56, lI p1, lI p2, lI v3], ([sI 1], (mSH r tl, (G, nk)))))) ?_ rfl
          exact sm_retB1 (b := true) rfl rfl
        · exact hk6 ()
      · exact hk6 ()
def P_X11_does (p1 : Int) (p2 : Int) (G : mG) : Option (mG) :=
(ald G 60 6 p1).bind fun v3 =>
(P_X11_machineOf p1 v3 G).bind fun v4 =>
(P_X11_hoursOf p1 v3 G).bind fun v5 =>
(P_X11_isChanged v4 v5 G).bind fun v6 =>
letK (fun (x7 : Int) =>
(ast G 64 4 v4 x7).bind fun G9 =>
(ast G9 59 30 ((p1 * 5) + v3) p2).bind fun G10 =>
(ast G10 62 4 v4 ((10 * p1) + v3)).bind fun G11 =>
(ast G11 63 4 v4 (p2 + v5)).bind fun G12 =>
(ast G12 61 6 p1 (p2 + v5)).bind fun G13 =>
(ald G13 60 6 p1).bind fun v14 =>
(ast G13 60 6 p1 (v14 + 1)).bind fun G15 =>
(ald G15 65 4 v4).bind fun v16 =>
(ast G15 65 4 v4 (v16 + 1)).bind fun G17 =>
some G17) fun k18 =>
bif v6 then
k18 v5
else
(ald G 64 4 v4).bind fun v19 =>
k18 (v19 + v5)
set_option maxRecDepth 100000 in
theorem T_X11_does (scr : mScr) (d : Nat) (r : List (Option Nat)) (tl : List mSh) (nk : Nat × Nat) (G : mG)  (p1 : Int) (p2 : Int) : SimC scr (d + 3) 156 [sR 56, sI p1, sI p2] (mSH r tl, (G, nk)) (e1U r tl nk) (P_X11_does p1 p2 G) := by
  refine sm_callX (cs := mc_X11_does) (maxL := 6) (rk := 0) (o := 11) (hs := []) (d := d + 2) [lR 56, lI p1, lI p2, none, none, none] rfl rfl rfl rfl ?_
  unfold P_X11_does
  refine sm_go 3 (s' := (5, ([lR 56, lI p1, lI p2, none, none, none], ([sI p1, sR 60], (mSH r tl, (G, nk)))))) ?_ rfl
  refine sm_ald rfl rfl fun v3 => ?_
  refine sm_go 4 (s' := (10, ([lR 56, lI p1, lI p2, lI v3, none, none], ([sI v3, sI p1, sR 56], (mSH r tl, (G, nk)))))) ?_ rfl
  refine sm_callG (rest := []) (T_X11_machineOf scr d r tl nk G p1 v3) rfl (Or.inl rfl) rfl rfl rfl rfl (fun _ => rfl) (fun v4 => (13, ([lR 56, lI p1, lI p2, lI v3, none, none], ([sI v4], (mSH r tl, (G, nk)))))) (fun _ => rfl) fun v4 => ?_
  refine sm_go 4 (s' := (18, ([lR 56, lI p1, lI p2, lI v3, lI v4, none], ([sI v3, sI p1, sR 56], (mSH r tl, (G, nk)))))) ?_ rfl
  refine sm_callG (rest := []) (T_X11_hoursOf scr d r tl nk G p1 v3) rfl (Or.inl rfl) rfl rfl rfl rfl (fun _ => rfl) (fun v5 => (21, ([lR 56, lI p1, lI p2, lI v3, lI v4, none], ([sI v5], (mSH r tl, (G, nk)))))) (fun _ => rfl) fun v5 => ?_
  refine sm_go 7 (s' := (34, ([lR 56, lI p1, lI p2, lI v3, lI v4, lI v5], ([sI v5, sI v4, sR 56, sI v4, sR 64], (mSH r tl, (G, nk)))))) ?_ rfl
  refine sm_callG (rest := [sI v4, sR 64]) (T_X11_isChanged scr (d + 1) r tl nk G v4 v5) rfl (Or.inl rfl) rfl rfl rfl rfl (fun _ => rfl) (fun v6 => (37, ([lR 56, lI p1, lI p2, lI v3, lI v4, lI v5], ([sI (b2i v6), sI v4, sR 64], (mSH r tl, (G, nk)))))) (fun _ => rfl) fun v6 => ?_
  refine sm_letK1 (S := fun (g8 : Unit) (x7 : Int) => (55, ([lR 56, lI p1, lI p2, lI v3, lI v4, lI v5], ([sI x7, sI v4, sR 64], (mSH r tl, (G, nk)))))) ?_ ?_
  · intro g8 x7
    refine sm_ast rfl rfl fun G9 => ?_
    refine sm_go 8 (s' := (66, ([lR 56, lI p1, lI p2, lI v3, lI v4, lI v5], ([sI p2, sI ((p1 * 5) + v3), sR 59], (mSH r tl, (G9, nk)))))) ?_ rfl
    refine sm_ast rfl rfl fun G10 => ?_
    refine sm_go 8 (s' := (79, ([lR 56, lI p1, lI p2, lI v3, lI v4, lI v5], ([sI ((10 * p1) + v3), sI v4, sR 62], (mSH r tl, (G10, nk)))))) ?_ rfl
    refine sm_ast rfl rfl fun G11 => ?_
    refine sm_go 6 (s' := (90, ([lR 56, lI p1, lI p2, lI v3, lI v4, lI v5], ([sI (p2 + v5), sI v4, sR 63], (mSH r tl, (G11, nk)))))) ?_ rfl
    refine sm_ast rfl rfl fun G12 => ?_
    refine sm_go 6 (s' := (100, ([lR 56, lI p1, lI p2, lI v3, lI v4, lI v5], ([sI (p2 + v5), sI p1, sR 61], (mSH r tl, (G12, nk)))))) ?_ rfl
    refine sm_ast rfl rfl fun G13 => ?_
    refine sm_go 4 (s' := (107, ([lR 56, lI p1, lI p2, lI v3, lI v4, lI v5], ([sI p1, sR 60, sI p1, sR 60], (mSH r tl, (G13, nk)))))) ?_ rfl
    refine sm_ald rfl rfl fun v14 => ?_
    refine sm_go 2 (s' := (110, ([lR 56, lI p1, lI p2, lI v3, lI v4, lI v5], ([sI (v14 + 1), sI p1, sR 60], (mSH r tl, (G13, nk)))))) ?_ rfl
    refine sm_ast rfl rfl fun G15 => ?_
    refine sm_go 4 (s' := (118, ([lR 56, lI p1, lI p2, lI v3, lI v4, lI v5], ([sI v4, sR 65, sI v4, sR 65], (mSH r tl, (G15, nk)))))) ?_ rfl
    refine sm_ald rfl rfl fun v16 => ?_
    refine sm_go 2 (s' := (121, ([lR 56, lI p1, lI p2, lI v3, lI v4, lI v5], ([sI (v16 + 1), sI v4, sR 65], (mSH r tl, (G15, nk)))))) ?_ rfl
    refine sm_ast rfl rfl fun G17 => ?_
    exact sm_retU rfl rfl
  · intro k18 hk18
    refine sm_if1n (t := v6) (pt := 45) (mCmpB_eq v6) rfl rfl (fun _ => ?_) (fun _ => ?_)
    · exact sm_go 2 (hk18 () v5) rfl
    · refine sm_go 3 (s' := (51, ([lR 56, lI p1, lI p2, lI v3, lI v4, lI v5], ([sI v4, sR 64, sI v4, sR 64], (mSH r tl, (G, nk)))))) ?_ rfl
      refine sm_ald rfl rfl fun v19 => ?_
      exact sm_go 2 (hk18 () (v19 + v5)) rfl
def P_X11_between (p1 : Int) (p2 : Int) (p3 : Int) (G : mG) : Option (Int) :=
(ald G 62 4 p1).bind fun v4 =>
bif (ieq v4 (-1)) then
some 0
else
(ald G 62 4 p1).bind fun v5 =>
(P_X11_of (iDiv v5 10) 3 G).bind fun v6 =>
(P_X11_of p2 3 G).bind fun v7 =>
(ald G 57 282 ((45 + (4 * v6)) + v7)).bind fun v8 =>
(P_X11_isChanged p1 p3 G).bind fun v9 =>
letK (fun (x10 : Int) =>
some (v8 + x10)) fun k12 =>
bif v9 then
(ald G 57 282 ((1 + (p1 * 11)) + 10)).bind fun v13 =>
k12 v13
else
k12 0
set_option maxRecDepth 100000 in
theorem T_X11_between (scr : mScr) (d : Nat) (r : List (Option Nat)) (tl : List mSh) (nk : Nat × Nat) (G : mG)  (p1 : Int) (p2 : Int) (p3 : Int) : SimC scr (d + 2) 154 [sR 56, sI p1, sI p2, sI p3] (mSH r tl, (G, nk)) (e0I (mSH r tl, (G, nk))) (P_X11_between p1 p2 p3 G) := by
  refine sm_callX (cs := mc_X11_between) (maxL := 4) (rk := 0) (o := 11) (hs := []) (d := d + 1) [lR 56, lI p1, lI p2, lI p3] rfl rfl rfl rfl ?_
  unfold P_X11_between
  refine sm_go 3 (s' := (5, ([lR 56, lI p1, lI p2, lI p3], ([sI p1, sR 62], (mSH r tl, (G, nk)))))) ?_ rfl
  refine sm_ald rfl rfl fun v4 => ?_
  refine sm_go 1 (s' := (7, ([lR 56, lI p1, lI p2, lI p3], ([sI (-1), sI v4], (mSH r tl, (G, nk)))))) ?_ rfl
  refine sm_if2n (t := (ieq v4 (-1))) (pt := 12) rfl rfl rfl (fun _ => ?_) (fun _ => ?_)
  · refine sm_go 1 (s' := (11, ([lR 56, lI p1, lI p2, lI p3], ([sI 0], (mSH r tl, (G, nk)))))) ?_ rfl
    exact sm_retI rfl rfl rfl
  · refine sm_go 8 (s' := (25, ([lR 56, lI p1, lI p2, lI p3], ([sI p1, sR 62, sR 56, sI 4, sI 45, sR 57], (mSH r tl, (G, nk)))))) ?_ rfl
    refine sm_ald rfl rfl fun v5 => ?_
    refine sm_go 3 (s' := (30, ([lR 56, lI p1, lI p2, lI p3], ([sI 3, sI (iDiv v5 10), sR 56, sI 4, sI 45, sR 57], (mSH r tl, (G, nk)))))) ?_ rfl
    refine sm_callG (rest := [sI 4, sI 45, sR 57]) (T_X11_of scr d r tl nk G (iDiv v5 10) 3) rfl (Or.inl rfl) rfl rfl rfl rfl (fun _ => rfl) (fun v6 => (33, ([lR 56, lI p1, lI p2, lI p3], ([sI v6, sI 4, sI 45, sR 57], (mSH r tl, (G, nk)))))) (fun _ => rfl) fun v6 => ?_
    refine sm_go 5 (s' := (38, ([lR 56, lI p1, lI p2, lI p3], ([sI 3, sI p2, sR 56, sI (45 + (4 * v6)), sR 57], (mSH r tl, (G, nk)))))) ?_ rfl
    refine sm_callG (rest := [sI (45 + (4 * v6)), sR 57]) (T_X11_of scr d r tl nk G p2 3) rfl (Or.inl rfl) rfl rfl rfl rfl (fun _ => rfl) (fun v7 => (41, ([lR 56, lI p1, lI p2, lI p3], ([sI v7, sI (45 + (4 * v6)), sR 57], (mSH r tl, (G, nk)))))) (fun _ => rfl) fun v7 => ?_
    refine sm_go 1 (s' := (42, ([lR 56, lI p1, lI p2, lI p3], ([sI ((45 + (4 * v6)) + v7), sR 57], (mSH r tl, (G, nk)))))) ?_ rfl
    refine sm_ald rfl rfl fun v8 => ?_
    refine sm_go 3 (s' := (46, ([lR 56, lI p1, lI p2, lI p3], ([sI p3, sI p1, sR 56, sI v8], (mSH r tl, (G, nk)))))) ?_ rfl
    refine sm_callG (rest := [sI v8]) (T_X11_isChanged scr d r tl nk G p1 p3) rfl (Or.inl rfl) rfl rfl rfl rfl (fun _ => rfl) (fun v9 => (49, ([lR 56, lI p1, lI p2, lI p3], ([sI (b2i v9), sI v8], (mSH r tl, (G, nk)))))) (fun _ => rfl) fun v9 => ?_
    refine sm_letK1 (S := fun (g11 : Unit) (x10 : Int) => (70, ([lR 56, lI p1, lI p2, lI p3], ([sI x10, sI v8], (mSH r tl, (G, nk)))))) ?_ ?_
    · intro g11 x10
      refine sm_go 1 (s' := (71, ([lR 56, lI p1, lI p2, lI p3], ([sI (v8 + x10)], (mSH r tl, (G, nk)))))) ?_ rfl
      exact sm_retI rfl rfl rfl
    · intro k12 hk12
      refine sm_if1n (t := v9) (pt := 69) (mCmpB_eq v9) rfl rfl (fun _ => ?_) (fun _ => ?_)
      · refine sm_go 9 (s' := (65, ([lR 56, lI p1, lI p2, lI p3], ([sI ((1 + (p1 * 11)) + 10), sR 57, sI v8], (mSH r tl, (G, nk)))))) ?_ rfl
        refine sm_ald rfl rfl fun v13 => ?_
        exact sm_go 1 (hk12 () v13) rfl
      · exact sm_go 1 (hk12 () 0) rfl
def P_X11_open (p1 : Int) (p2 : Int) (p3 : Int) (G : mG) : Option (Int) :=
loop2 LF (fun again7 (x4 : Int) (x5 : Int) =>
bif (ieq x5 0) then
some x4
else
letK (fun (x8 : Int) (x9 : Int) =>
again7 x8 x9) fun k11 =>
loop3 LF (fun again16 (x12 : Int) (x13 : Int) (x14 : Int) =>
(ald G 57 282 (1 + (p1 * 11))).bind fun v17 =>
bif (ilt x14 v17) then
(ald G 57 282 ((((1 + (p1 * 11)) + 1) + (2 * x14)) + 1)).bind fun v18 =>
letK (fun (x19 : Int) (x20 : Int) =>
again16 x19 x20 (x14 + 1)) fun k22 =>
bif (ilt x12 v18) then
(ald G 57 282 (((1 + (p1 * 11)) + 1) + (2 * x14))).bind fun v23 =>
bif (ilt v23 (x12 + p3)) then
(ald G 57 282 ((((1 + (p1 * 11)) + 1) + (2 * x14)) + 1)).bind fun v24 =>
k22 v24 1
else
k22 x12 x13
else
k22 x12 x13
else
k11 x12 x13) x4 0 0) p2 1
set_option maxRecDepth 100000 in
theorem T_X11_open (scr : mScr) (d : Nat) (r : List (Option Nat)) (tl : List mSh) (nk : Nat × Nat) (G : mG)  (p1 : Int) (p2 : Int) (p3 : Int) : SimC scr (d + 1) 152 [sR 56, sI p1, sI p2, sI p3] (mSH r tl, (G, nk)) (e0I (mSH r tl, (G, nk))) (P_X11_open p1 p2 p3 G) := by
  refine sm_callX (cs := mc_X11_open) (maxL := 8) (rk := 0) (o := 11) (hs := []) (d := d + 0) [lR 56, lI p1, lI p2, lI p3, none, none, none, none] rfl rfl rfl rfl ?_
  unfold P_X11_open
  refine sm_go 4 (s' := (6, ([lR 56, lI p1, lI p2, lI p3, lI p2, lI 1, none, none], ([], (mSH r tl, (G, nk)))))) ?_ rfl
  refine sm_loop2 (S := fun (g6 : Option mV × Option mV) (x4 : Int) (x5 : Int) => (6, ([lR 56, lI p1, lI p2, lI p3, lI x4, lI x5, g6.1, g6.2], ([], (mSH r tl, (G, nk)))))) ?_ LF (none, none) p2 1
  intro again7 hagain7 g6 x4 x5
  refine sm_go 1 (s' := (8, ([lR 56, lI p1, lI p2, lI p3, lI x4, lI x5, g6.1, g6.2], ([sI x5], (mSH r tl, (G, nk)))))) ?_ rfl
  refine sm_if1 (t := (ieq x5 0)) (pt := 102) rfl rfl rfl (fun _ => ?_) (fun _ => ?_)
  · refine sm_go 1 (s' := (104, ([lR 56, lI p1, lI p2, lI p3, lI x4, lI x5, g6.1, g6.2], ([sI x4], (mSH r tl, (G, nk)))))) ?_ rfl
    exact sm_retI rfl rfl rfl
  · refine sm_go 4 (s' := (17, ([lR 56, lI p1, lI p2, lI p3, lI x4, lI 0, lI 0, g6.2], ([], (mSH r tl, (G, nk)))))) ?_ rfl
    refine sm_letK2 (S := fun (g10 : Option mV × Option mV) (x8 : Int) (x9 : Int) => (99, ([lR 56, lI p1, lI p2, lI p3, lI x8, lI x9, g10.1, g10.2], ([], (mSH r tl, (G, nk)))))) ?_ ?_
    · intro g10 x8 x9
      exact sm_go 1 (hagain7 (g10.1, g10.2) x8 x9) rfl
    · intro k11 hk11
      refine sm_loop3 (S := fun (g15 : Option mV) (x12 : Int) (x13 : Int) (x14 : Int) => (17, ([lR 56, lI p1, lI p2, lI p3, lI x12, lI x13, lI x14, g15], ([], (mSH r tl, (G, nk)))))) ?_ LF (g6.2) x4 0 0
      intro again16 hagain16 g15 x12 x13 x14
      refine sm_go 8 (s' := (29, ([lR 56, lI p1, lI p2, lI p3, lI x12, lI x13, lI x14, g15], ([sI (1 + (p1 * 11)), sR 57, sI x14], (mSH r tl, (G, nk)))))) ?_ rfl
      refine sm_ald rfl rfl fun v17 => ?_
      refine sm_if2n (t := (ilt x14 v17)) (pt := 99) rfl rfl rfl (fun _ => ?_) (fun _ => ?_)
      · refine sm_go 18 (s' := (58, ([lR 56, lI p1, lI p2, lI p3, lI x12, lI x13, lI x14, lI (((1 + (p1 * 11)) + 1) + (2 * x14))], ([sI ((((1 + (p1 * 11)) + 1) + (2 * x14)) + 1), sR 57, sI x12], (mSH r tl, (G, nk)))))) ?_ rfl
        refine sm_ald rfl rfl fun v18 => ?_
        refine sm_letK2 (S := fun (g21 : Unit) (x19 : Int) (x20 : Int) => (93, ([lR 56, lI p1, lI p2, lI p3, lI x19, lI x20, lI x14, lI (((1 + (p1 * 11)) + 1) + (2 * x14))], ([], (mSH r tl, (G, nk)))))) ?_ ?_
        · intro g21 x19 x20
          exact sm_go 2 (hagain16 (lI (((1 + (p1 * 11)) + 1) + (2 * x14))) x19 x20 (x14 + 1)) rfl
        · intro k22 hk22
          refine sm_if2n (t := (ilt x12 v18)) (pt := 93) rfl rfl rfl (fun _ => ?_) (fun _ => ?_)
          · refine sm_go 6 (s' := (72, ([lR 56, lI p1, lI p2, lI p3, lI x12, lI x13, lI x14, lI (((1 + (p1 * 11)) + 1) + (2 * x14))], ([sI (((1 + (p1 * 11)) + 1) + (2 * x14)), sR 57, sI (x12 + p3)], (mSH r tl, (G, nk)))))) ?_ rfl
            refine sm_ald rfl rfl fun v23 => ?_
            refine sm_if2 (t := (ilt v23 (x12 + p3))) (pt := 79) rfl rfl rfl (fun _ => ?_) (fun _ => ?_)
            · refine sm_go 5 (s' := (87, ([lR 56, lI p1, lI p2, lI p3, lI x12, lI x13, lI x14, lI (((1 + (p1 * 11)) + 1) + (2 * x14))], ([sI ((((1 + (p1 * 11)) + 1) + (2 * x14)) + 1), sR 57], (mSH r tl, (G, nk)))))) ?_ rfl
              refine sm_ald rfl rfl fun v24 => ?_
              exact sm_go 3 (hk22 () v24 1) rfl
            · exact sm_go 1 (hk22 () x12 x13) rfl
          · exact hk22 () x12 x13
      · exact hk11 (lI x14, g15) x12 x13
def P_X11_beginOf (p1 : Int) (G : mG) : Option (Int) :=
(ald G 60 6 p1).bind fun v2 =>
(P_X11_machineOf p1 v2 G).bind fun v3 =>
(ald G 60 6 p1).bind fun v4 =>
(P_X11_hoursOf p1 v4 G).bind fun v5 =>
(ald G 61 6 p1).bind fun v6 =>
(ald G 63 4 v3).bind fun v7 =>
(P_X11_between v3 p1 v5 G).bind fun v8 =>
(P_X11_open v3 (iMax v6 (v7 + v8)) v5 G).bind fun v9 =>
some v9
set_option maxRecDepth 100000 in
theorem T_X11_beginOf (scr : mScr) (d : Nat) (r : List (Option Nat)) (tl : List mSh) (nk : Nat × Nat) (G : mG)  (p1 : Int) : SimC scr (d + 3) 155 [sR 56, sI p1] (mSH r tl, (G, nk)) (e0I (mSH r tl, (G, nk))) (P_X11_beginOf p1 G) := by
  refine sm_callX (cs := mc_X11_beginOf) (maxL := 4) (rk := 0) (o := 11) (hs := []) (d := d + 2) [lR 56, lI p1, none, none] rfl rfl rfl rfl ?_
  unfold P_X11_beginOf
  refine sm_go 5 (s' := (7, ([lR 56, lI p1, none, none], ([sI p1, sR 60, sI p1, sR 56], (mSH r tl, (G, nk)))))) ?_ rfl
  refine sm_ald rfl rfl fun v2 => ?_
  refine sm_callG (rest := []) (T_X11_machineOf scr d r tl nk G p1 v2) rfl (Or.inl rfl) rfl rfl rfl rfl (fun _ => rfl) (fun v3 => (11, ([lR 56, lI p1, none, none], ([sI v3], (mSH r tl, (G, nk)))))) (fun _ => rfl) fun v3 => ?_
  refine sm_go 6 (s' := (19, ([lR 56, lI p1, lI v3, none], ([sI p1, sR 60, sI p1, sR 56], (mSH r tl, (G, nk)))))) ?_ rfl
  refine sm_ald rfl rfl fun v4 => ?_
  refine sm_callG (rest := []) (T_X11_hoursOf scr d r tl nk G p1 v4) rfl (Or.inl rfl) rfl rfl rfl rfl (fun _ => rfl) (fun v5 => (23, ([lR 56, lI p1, lI v3, none], ([sI v5], (mSH r tl, (G, nk)))))) (fun _ => rfl) fun v5 => ?_
  refine sm_go 6 (s' := (31, ([lR 56, lI p1, lI v3, lI v5], ([sI p1, sR 61, sI v3, sR 56], (mSH r tl, (G, nk)))))) ?_ rfl
  refine sm_ald rfl rfl fun v6 => ?_
  refine sm_go 3 (s' := (37, ([lR 56, lI p1, lI v3, lI v5], ([sI v3, sR 63, sI v6, sI v3, sR 56], (mSH r tl, (G, nk)))))) ?_ rfl
  refine sm_ald rfl rfl fun v7 => ?_
  refine sm_go 4 (s' := (42, ([lR 56, lI p1, lI v3, lI v5], ([sI v5, sI p1, sI v3, sR 56, sI v7, sI v6, sI v3, sR 56], (mSH r tl, (G, nk)))))) ?_ rfl
  refine sm_callG (rest := [sI v7, sI v6, sI v3, sR 56]) (T_X11_between scr d r tl nk G v3 p1 v5) rfl (Or.inl rfl) rfl rfl rfl rfl (fun _ => rfl) (fun v8 => (45, ([lR 56, lI p1, lI v3, lI v5], ([sI v8, sI v7, sI v6, sI v3, sR 56], (mSH r tl, (G, nk)))))) (fun _ => rfl) fun v8 => ?_
  refine sm_go 3 (s' := (50, ([lR 56, lI p1, lI v3, lI v5], ([sI v5, sI (iMax v6 (v7 + v8)), sI v3, sR 56], (mSH r tl, (G, nk)))))) ?_ rfl
  refine sm_callG (rest := []) (T_X11_open scr (d + 1) r tl nk G v3 (iMax v6 (v7 + v8)) v5) rfl (Or.inl rfl) rfl rfl rfl rfl (fun _ => rfl) (fun v9 => (53, ([lR 56, lI p1, lI v3, lI v5], ([sI v9], (mSH r tl, (G, nk)))))) (fun _ => rfl) fun v9 => ?_
  exact sm_retI rfl rfl rfl
def P_X11_left (p1 : Int) (p2 : Int) (G : mG) : Option (Int) :=
loop2 LF (fun again6 (x3 : Int) (x4 : Int) =>
(P_X11_of p1 4 G).bind fun v7 =>
bif (ilt x4 v7) then
(P_X11_hoursOf p1 x4 G).bind fun v8 =>
again6 (x3 + v8) (x4 + 1)
else
some x3) 0 p2
set_option maxRecDepth 100000 in
theorem T_X11_left (scr : mScr) (d : Nat) (r : List (Option Nat)) (tl : List mSh) (nk : Nat × Nat) (G : mG)  (p1 : Int) (p2 : Int) : SimC scr (d + 3) 145 [sR 56, sI p1, sI p2] (mSH r tl, (G, nk)) (e0I (mSH r tl, (G, nk))) (P_X11_left p1 p2 G) := by
  refine sm_callX (cs := mc_X11_left) (maxL := 5) (rk := 0) (o := 11) (hs := []) (d := d + 2) [lR 56, lI p1, lI p2, none, none] rfl rfl rfl rfl ?_
  unfold P_X11_left
  refine sm_go 4 (s' := (5, ([lR 56, lI p1, lI p2, lI 0, lI p2], ([], (mSH r tl, (G, nk)))))) ?_ rfl
  refine sm_loop2 (S := fun (g5 : Unit) (x3 : Int) (x4 : Int) => (5, ([lR 56, lI p1, lI p2, lI x3, lI x4], ([], (mSH r tl, (G, nk)))))) ?_ LF () 0 p2
  intro again6 hagain6 g5 x3 x4
  refine sm_go 4 (s' := (10, ([lR 56, lI p1, lI p2, lI x3, lI x4], ([sI 4, sI p1, sR 56, sI x4], (mSH r tl, (G, nk)))))) ?_ rfl
  refine sm_callG (rest := [sI x4]) (T_X11_of scr (d + 1) r tl nk G p1 4) rfl (Or.inl rfl) rfl rfl rfl rfl (fun _ => rfl) (fun v7 => (13, ([lR 56, lI p1, lI p2, lI x3, lI x4], ([sI v7, sI x4], (mSH r tl, (G, nk)))))) (fun _ => rfl) fun v7 => ?_
  refine sm_if2n (t := (ilt x4 v7)) (pt := 32) rfl rfl rfl (fun _ => ?_) (fun _ => ?_)
  · refine sm_go 4 (s' := (21, ([lR 56, lI p1, lI p2, lI x3, lI x4], ([sI x4, sI p1, sR 56, sI x3], (mSH r tl, (G, nk)))))) ?_ rfl
    refine sm_callG (rest := [sI x3]) (T_X11_hoursOf scr d r tl nk G p1 x4) rfl (Or.inl rfl) rfl rfl rfl rfl (fun _ => rfl) (fun v8 => (24, ([lR 56, lI p1, lI p2, lI x3, lI x4], ([sI v8, sI x3], (mSH r tl, (G, nk)))))) (fun _ => rfl) fun v8 => ?_
    exact sm_go 4 (hagain6 () (x3 + v8) (x4 + 1)) rfl
  · refine sm_go 1 (s' := (33, ([lR 56, lI p1, lI p2, lI x3, lI x4], ([sI x3], (mSH r tl, (G, nk)))))) ?_ rfl
    exact sm_retI rfl rfl rfl
def P_X11_isAhead (p1 : Int) (p2 : Int) (p3 : Int) (G : mG) : Option (Bool) :=
(ald G 60 6 p2).bind fun v4 =>
(P_X11_hoursOf p2 v4 G).bind fun v5 =>
(ald G 60 6 p3).bind fun v6 =>
(P_X11_hoursOf p3 v6 G).bind fun v7 =>
bif decide (w32 p1 = 0) then
bif (ilt v5 v7) then
some true
else
some false
else
bif decide (w32 p1 = 1) then
bif (ilt v7 v5) then
some true
else
some false
else
bif decide (w32 p1 = 2) then
(P_X11_of p2 1 G).bind fun v8 =>
(P_X11_of p3 1 G).bind fun v9 =>
bif (ilt v8 v9) then
some true
else
some false
else
bif decide (w32 p1 = 3) then
(P_X11_of p2 2 G).bind fun v10 =>
(P_X11_of p3 2 G).bind fun v11 =>
bif (ilt v11 v10) then
some true
else
some false
else
bif decide (w32 p1 = 4) then
(ald G 60 6 p2).bind fun v12 =>
(P_X11_left p2 v12 G).bind fun v13 =>
(ald G 60 6 p3).bind fun v14 =>
(P_X11_left p3 v14 G).bind fun v15 =>
bif (ilt v15 v13) then
some true
else
some false
else
bif decide (w32 p1 = 5) then
(P_X11_of p2 1 G).bind fun v16 =>
(ald G 60 6 p2).bind fun v17 =>
(P_X11_left p2 v17 G).bind fun v18 =>
(P_X11_of p3 1 G).bind fun v19 =>
(ald G 60 6 p3).bind fun v20 =>
(P_X11_left p3 v20 G).bind fun v21 =>
bif (ilt (v16 - v18) (v19 - v21)) then
some true
else
some false
else
bif decide (w32 p1 = 6) then
(P_X11_of p2 2 G).bind fun v22 =>
(P_X11_of p3 2 G).bind fun v23 =>
bif (ilt (v23 * v5) (v22 * v7)) then
some true
else
some false
else
(P_X11_of p2 0 G).bind fun v24 =>
(P_X11_of p3 0 G).bind fun v25 =>
bif (ilt v24 v25) then
some true
else
some false
set_option maxRecDepth 100000 in
theorem T_X11_isAhead (scr : mScr) (d : Nat) (r : List (Option Nat)) (tl : List mSh) (nk : Nat × Nat) (G : mG)  (p1 : Int) (p2 : Int) (p3 : Int) : SimC scr (d + 4) 161 [sR 56, sI p1, sI p2, sI p3] (mSH r tl, (G, nk)) (e0B (mSH r tl, (G, nk))) (P_X11_isAhead p1 p2 p3 G) := by
  refine sm_callX (cs := mc_X11_isAhead) (maxL := 6) (rk := 1) (o := 11) (hs := []) (d := d + 3) [lR 56, lI p1, lI p2, lI p3, none, none] rfl rfl rfl rfl ?_
  unfold P_X11_isAhead
  refine sm_go 5 (s' := (7, ([lR 56, lI p1, lI p2, lI p3, none, none], ([sI p2, sR 60, sI p2, sR 56], (mSH r tl, (G, nk)))))) ?_ rfl
  refine sm_ald rfl rfl fun v4 => ?_
  refine sm_callG (rest := []) (T_X11_hoursOf scr (d + 1) r tl nk G p2 v4) rfl (Or.inl rfl) rfl rfl rfl rfl (fun _ => rfl) (fun v5 => (11, ([lR 56, lI p1, lI p2, lI p3, none, none], ([sI v5], (mSH r tl, (G, nk)))))) (fun _ => rfl) fun v5 => ?_
  refine sm_go 6 (s' := (20, ([lR 56, lI p1, lI p2, lI p3, lI v5, none], ([sI p3, sR 60, sI p3, sR 56], (mSH r tl, (G, nk)))))) ?_ rfl
  refine sm_ald rfl rfl fun v6 => ?_
  refine sm_callG (rest := []) (T_X11_hoursOf scr (d + 1) r tl nk G p3 v6) rfl (Or.inl rfl) rfl rfl rfl rfl (fun _ => rfl) (fun v7 => (24, ([lR 56, lI p1, lI p2, lI p3, lI v5, none], ([sI v7], (mSH r tl, (G, nk)))))) (fun _ => rfl) fun v7 => ?_
  refine sm_go 2 (s' := (27, ([lR 56, lI p1, lI p2, lI p3, lI v5, lI v7], ([sI p1], (mSH r tl, (G, nk)))))) ?_ rfl
  refine sm_sw (fun hw0 => ?_) (fun hw0 => ?_)
  · refine sm_swC (pt := 68) hw0 rfl rfl ?_
    refine sm_go 2 (s' := (72, ([lR 56, lI p1, lI p2, lI p3, lI v5, lI v7], ([sI v7, sI v5], (mSH r tl, (G, nk)))))) ?_ rfl
    refine sm_if2n (t := (ilt v5 v7)) (pt := 79) rfl rfl rfl (fun _ => ?_) (fun _ => ?_)
    · refine sm_go 2 (s' := (80, ([lR 56, lI p1, lI p2, lI p3, lI v5, lI v7], ([sI 1], (mSH r tl, (G, nk)))))) ?_ rfl
      exact sm_retB1 (b := true) rfl rfl
    · refine sm_go 1 (s' := (80, ([lR 56, lI p1, lI p2, lI p3, lI v5, lI v7], ([sI 0], (mSH r tl, (G, nk)))))) ?_ rfl
      exact sm_retB1 (b := false) rfl rfl
  refine sm_sw (fun hw1 => ?_) (fun hw1 => ?_)
  · refine sm_swC (pt := 81) hw1 rfl rfl ?_
    refine sm_go 2 (s' := (85, ([lR 56, lI p1, lI p2, lI p3, lI v5, lI v7], ([sI v7, sI v5], (mSH r tl, (G, nk)))))) ?_ rfl
    refine sm_if2n (t := (ilt v7 v5)) (pt := 92) rfl rfl rfl (fun _ => ?_) (fun _ => ?_)
    · refine sm_go 2 (s' := (93, ([lR 56, lI p1, lI p2, lI p3, lI v5, lI v7], ([sI 1], (mSH r tl, (G, nk)))))) ?_ rfl
      exact sm_retB1 (b := true) rfl rfl
    · refine sm_go 1 (s' := (93, ([lR 56, lI p1, lI p2, lI p3, lI v5, lI v7], ([sI 0], (mSH r tl, (G, nk)))))) ?_ rfl
      exact sm_retB1 (b := false) rfl rfl
  refine sm_sw (fun hw2 => ?_) (fun hw2 => ?_)
  · refine sm_swC (pt := 94) hw2 rfl rfl ?_
    refine sm_go 3 (s' := (97, ([lR 56, lI p1, lI p2, lI p3, lI v5, lI v7], ([sI 1, sI p2, sR 56], (mSH r tl, (G, nk)))))) ?_ rfl
    refine sm_callG (rest := []) (T_X11_of scr (d + 2) r tl nk G p2 1) rfl (Or.inl rfl) rfl rfl rfl rfl (fun _ => rfl) (fun v8 => (100, ([lR 56, lI p1, lI p2, lI p3, lI v5, lI v7], ([sI v8], (mSH r tl, (G, nk)))))) (fun _ => rfl) fun v8 => ?_
    refine sm_go 3 (s' := (103, ([lR 56, lI p1, lI p2, lI p3, lI v5, lI v7], ([sI 1, sI p3, sR 56, sI v8], (mSH r tl, (G, nk)))))) ?_ rfl
    refine sm_callG (rest := [sI v8]) (T_X11_of scr (d + 2) r tl nk G p3 1) rfl (Or.inl rfl) rfl rfl rfl rfl (fun _ => rfl) (fun v9 => (106, ([lR 56, lI p1, lI p2, lI p3, lI v5, lI v7], ([sI v9, sI v8], (mSH r tl, (G, nk)))))) (fun _ => rfl) fun v9 => ?_
    refine sm_if2n (t := (ilt v8 v9)) (pt := 113) rfl rfl rfl (fun _ => ?_) (fun _ => ?_)
    · refine sm_go 2 (s' := (114, ([lR 56, lI p1, lI p2, lI p3, lI v5, lI v7], ([sI 1], (mSH r tl, (G, nk)))))) ?_ rfl
      exact sm_retB1 (b := true) rfl rfl
    · refine sm_go 1 (s' := (114, ([lR 56, lI p1, lI p2, lI p3, lI v5, lI v7], ([sI 0], (mSH r tl, (G, nk)))))) ?_ rfl
      exact sm_retB1 (b := false) rfl rfl
  refine sm_sw (fun hw3 => ?_) (fun hw3 => ?_)
  · refine sm_swC (pt := 115) hw3 rfl rfl ?_
    refine sm_go 3 (s' := (118, ([lR 56, lI p1, lI p2, lI p3, lI v5, lI v7], ([sI 2, sI p2, sR 56], (mSH r tl, (G, nk)))))) ?_ rfl
    refine sm_callG (rest := []) (T_X11_of scr (d + 2) r tl nk G p2 2) rfl (Or.inl rfl) rfl rfl rfl rfl (fun _ => rfl) (fun v10 => (121, ([lR 56, lI p1, lI p2, lI p3, lI v5, lI v7], ([sI v10], (mSH r tl, (G, nk)))))) (fun _ => rfl) fun v10 => ?_
    refine sm_go 3 (s' := (124, ([lR 56, lI p1, lI p2, lI p3, lI v5, lI v7], ([sI 2, sI p3, sR 56, sI v10], (mSH r tl, (G, nk)))))) ?_ rfl
    refine sm_callG (rest := [sI v10]) (T_X11_of scr (d + 2) r tl nk G p3 2) rfl (Or.inl rfl) rfl rfl rfl rfl (fun _ => rfl) (fun v11 => (127, ([lR 56, lI p1, lI p2, lI p3, lI v5, lI v7], ([sI v11, sI v10], (mSH r tl, (G, nk)))))) (fun _ => rfl) fun v11 => ?_
    refine sm_if2n (t := (ilt v11 v10)) (pt := 134) rfl rfl rfl (fun _ => ?_) (fun _ => ?_)
    · refine sm_go 2 (s' := (135, ([lR 56, lI p1, lI p2, lI p3, lI v5, lI v7], ([sI 1], (mSH r tl, (G, nk)))))) ?_ rfl
      exact sm_retB1 (b := true) rfl rfl
    · refine sm_go 1 (s' := (135, ([lR 56, lI p1, lI p2, lI p3, lI v5, lI v7], ([sI 0], (mSH r tl, (G, nk)))))) ?_ rfl
      exact sm_retB1 (b := false) rfl rfl
  refine sm_sw (fun hw4 => ?_) (fun hw4 => ?_)
  · refine sm_swC (pt := 136) hw4 rfl rfl ?_
    refine sm_go 5 (s' := (143, ([lR 56, lI p1, lI p2, lI p3, lI v5, lI v7], ([sI p2, sR 60, sI p2, sR 56], (mSH r tl, (G, nk)))))) ?_ rfl
    refine sm_ald rfl rfl fun v12 => ?_
    refine sm_callG (rest := []) (T_X11_left scr d r tl nk G p2 v12) rfl (Or.inl rfl) rfl rfl rfl rfl (fun _ => rfl) (fun v13 => (147, ([lR 56, lI p1, lI p2, lI p3, lI v5, lI v7], ([sI v13], (mSH r tl, (G, nk)))))) (fun _ => rfl) fun v13 => ?_
    refine sm_go 5 (s' := (154, ([lR 56, lI p1, lI p2, lI p3, lI v5, lI v7], ([sI p3, sR 60, sI p3, sR 56, sI v13], (mSH r tl, (G, nk)))))) ?_ rfl
    refine sm_ald rfl rfl fun v14 => ?_
    refine sm_callG (rest := [sI v13]) (T_X11_left scr d r tl nk G p3 v14) rfl (Or.inl rfl) rfl rfl rfl rfl (fun _ => rfl) (fun v15 => (158, ([lR 56, lI p1, lI p2, lI p3, lI v5, lI v7], ([sI v15, sI v13], (mSH r tl, (G, nk)))))) (fun _ => rfl) fun v15 => ?_
    refine sm_if2n (t := (ilt v15 v13)) (pt := 165) rfl rfl rfl (fun _ => ?_) (fun _ => ?_)
    · refine sm_go 2 (s' := (166, ([lR 56, lI p1, lI p2, lI p3, lI v5, lI v7], ([sI 1], (mSH r tl, (G, nk)))))) ?_ rfl
      exact sm_retB1 (b := true) rfl rfl
    · refine sm_go 1 (s' := (166, ([lR 56, lI p1, lI p2, lI p3, lI v5, lI v7], ([sI 0], (mSH r tl, (G, nk)))))) ?_ rfl
      exact sm_retB1 (b := false) rfl rfl
  refine sm_sw (fun hw5 => ?_) (fun hw5 => ?_)
  · refine sm_swC (pt := 167) hw5 rfl rfl ?_
    refine sm_go 3 (s' := (170, ([lR 56, lI p1, lI p2, lI p3, lI v5, lI v7], ([sI 1, sI p2, sR 56], (mSH r tl, (G, nk)))))) ?_ rfl
    refine sm_callG (rest := []) (T_X11_of scr (d + 2) r tl nk G p2 1) rfl (Or.inl rfl) rfl rfl rfl rfl (fun _ => rfl) (fun v16 => (173, ([lR 56, lI p1, lI p2, lI p3, lI v5, lI v7], ([sI v16], (mSH r tl, (G, nk)))))) (fun _ => rfl) fun v16 => ?_
    refine sm_go 5 (s' := (180, ([lR 56, lI p1, lI p2, lI p3, lI v5, lI v7], ([sI p2, sR 60, sI p2, sR 56, sI v16], (mSH r tl, (G, nk)))))) ?_ rfl
    refine sm_ald rfl rfl fun v17 => ?_
    refine sm_callG (rest := [sI v16]) (T_X11_left scr d r tl nk G p2 v17) rfl (Or.inl rfl) rfl rfl rfl rfl (fun _ => rfl) (fun v18 => (184, ([lR 56, lI p1, lI p2, lI p3, lI v5, lI v7], ([sI v18, sI v16], (mSH r tl, (G, nk)))))) (fun _ => rfl) fun v18 => ?_
    refine sm_go 4 (s' := (188, ([lR 56, lI p1, lI p2, lI p3, lI v5, lI v7], ([sI 1, sI p3, sR 56, sI (v16 - v18)], (mSH r tl, (G, nk)))))) ?_ rfl
    refine sm_callG (rest := [sI (v16 - v18)]) (T_X11_of scr (d + 2) r tl nk G p3 1) rfl (Or.inl rfl) rfl rfl rfl rfl (fun _ => rfl) (fun v19 => (191, ([lR 56, lI p1, lI p2, lI p3, lI v5, lI v7], ([sI v19, sI (v16 - v18)], (mSH r tl, (G, nk)))))) (fun _ => rfl) fun v19 => ?_
    refine sm_go 5 (s' := (198, ([lR 56, lI p1, lI p2, lI p3, lI v5, lI v7], ([sI p3, sR 60, sI p3, sR 56, sI v19, sI (v16 - v18)], (mSH r tl, (G, nk)))))) ?_ rfl
    refine sm_ald rfl rfl fun v20 => ?_
    refine sm_callG (rest := [sI v19, sI (v16 - v18)]) (T_X11_left scr d r tl nk G p3 v20) rfl (Or.inl rfl) rfl rfl rfl rfl (fun _ => rfl) (fun v21 => (202, ([lR 56, lI p1, lI p2, lI p3, lI v5, lI v7], ([sI v21, sI v19, sI (v16 - v18)], (mSH r tl, (G, nk)))))) (fun _ => rfl) fun v21 => ?_
    refine sm_go 1 (s' := (203, ([lR 56, lI p1, lI p2, lI p3, lI v5, lI v7], ([sI (v19 - v21), sI (v16 - v18)], (mSH r tl, (G, nk)))))) ?_ rfl
    refine sm_if2n (t := (ilt (v16 - v18) (v19 - v21))) (pt := 210) rfl rfl rfl (fun _ => ?_) (fun _ => ?_)
    · refine sm_go 2 (s' := (211, ([lR 56, lI p1, lI p2, lI p3, lI v5, lI v7], ([sI 1], (mSH r tl, (G, nk)))))) ?_ rfl
      exact sm_retB1 (b := true) rfl rfl
    · refine sm_go 1 (s' := (211, ([lR 56, lI p1, lI p2, lI p3, lI v5, lI v7], ([sI 0], (mSH r tl, (G, nk)))))) ?_ rfl
      exact sm_retB1 (b := false) rfl rfl
  refine sm_sw (fun hw6 => ?_) (fun hw6 => ?_)
  · refine sm_swC (pt := 212) hw6 rfl rfl ?_
    refine sm_go 3 (s' := (215, ([lR 56, lI p1, lI p2, lI p3, lI v5, lI v7], ([sI 2, sI p2, sR 56], (mSH r tl, (G, nk)))))) ?_ rfl
    refine sm_callG (rest := []) (T_X11_of scr (d + 2) r tl nk G p2 2) rfl (Or.inl rfl) rfl rfl rfl rfl (fun _ => rfl) (fun v22 => (218, ([lR 56, lI p1, lI p2, lI p3, lI v5, lI v7], ([sI v22], (mSH r tl, (G, nk)))))) (fun _ => rfl) fun v22 => ?_
    refine sm_go 5 (s' := (224, ([lR 56, lI p1, lI p2, lI p3, lI v5, lI v7], ([sI 2, sI p3, sR 56, sI (v22 * v7)], (mSH r tl, (G, nk)))))) ?_ rfl
    refine sm_callG (rest := [sI (v22 * v7)]) (T_X11_of scr (d + 2) r tl nk G p3 2) rfl (Or.inl rfl) rfl rfl rfl rfl (fun _ => rfl) (fun v23 => (227, ([lR 56, lI p1, lI p2, lI p3, lI v5, lI v7], ([sI v23, sI (v22 * v7)], (mSH r tl, (G, nk)))))) (fun _ => rfl) fun v23 => ?_
    refine sm_go 2 (s' := (230, ([lR 56, lI p1, lI p2, lI p3, lI v5, lI v7], ([sI (v23 * v5), sI (v22 * v7)], (mSH r tl, (G, nk)))))) ?_ rfl
    refine sm_if2n (t := (ilt (v23 * v5) (v22 * v7))) (pt := 237) rfl rfl rfl (fun _ => ?_) (fun _ => ?_)
    · refine sm_go 2 (s' := (238, ([lR 56, lI p1, lI p2, lI p3, lI v5, lI v7], ([sI 1], (mSH r tl, (G, nk)))))) ?_ rfl
      exact sm_retB1 (b := true) rfl rfl
    · refine sm_go 1 (s' := (238, ([lR 56, lI p1, lI p2, lI p3, lI v5, lI v7], ([sI 0], (mSH r tl, (G, nk)))))) ?_ rfl
      exact sm_retB1 (b := false) rfl rfl
  refine sm_swD (pt := 239) (by omega) rfl rfl ?_
  refine sm_go 3 (s' := (242, ([lR 56, lI p1, lI p2, lI p3, lI v5, lI v7], ([sI 0, sI p2, sR 56], (mSH r tl, (G, nk)))))) ?_ rfl
  refine sm_callG (rest := []) (T_X11_of scr (d + 2) r tl nk G p2 0) rfl (Or.inl rfl) rfl rfl rfl rfl (fun _ => rfl) (fun v24 => (245, ([lR 56, lI p1, lI p2, lI p3, lI v5, lI v7], ([sI v24], (mSH r tl, (G, nk)))))) (fun _ => rfl) fun v24 => ?_
  refine sm_go 3 (s' := (248, ([lR 56, lI p1, lI p2, lI p3, lI v5, lI v7], ([sI 0, sI p3, sR 56, sI v24], (mSH r tl, (G, nk)))))) ?_ rfl
  refine sm_callG (rest := [sI v24]) (T_X11_of scr (d + 2) r tl nk G p3 0) rfl (Or.inl rfl) rfl rfl rfl rfl (fun _ => rfl) (fun v25 => (251, ([lR 56, lI p1, lI p2, lI p3, lI v5, lI v7], ([sI v25, sI v24], (mSH r tl, (G, nk)))))) (fun _ => rfl) fun v25 => ?_
  refine sm_if2n (t := (ilt v24 v25)) (pt := 258) rfl rfl rfl (fun _ => ?_) (fun _ => ?_)
  · refine sm_go 2 (s' := (259, ([lR 56, lI p1, lI p2, lI p3, lI v5, lI v7], ([sI 1], (mSH r tl, (G, nk)))))) ?_ rfl
    exact sm_retB1 (b := true) rfl rfl
  · refine sm_go 1 (s' := (259, ([lR 56, lI p1, lI p2, lI p3, lI v5, lI v7], ([sI 0], (mSH r tl, (G, nk)))))) ?_ rfl
    exact sm_retB1 (b := false) rfl rfl
set_option maxRecDepth 100000 in
theorem T_X8_leastEndOf_26 (scr : mScr) (d : Nat) (r : List (Option Nat)) (tl : List mSh) (nk : Nat × Nat) (G : mG)  (p1 : Int) : SimC scr (d + 3) 67 [sR 26, sI p1] (mSH r tl, (G, nk)) (e0I (mSH r tl, (G, nk))) (P_X8_leastEndOf 26 p1 G) := by
  refine sm_callX (cs := mc_X8_leastEndOf) (maxL := 2) (rk := 0) (o := 8) (hs := []) (d := d + 2) [lR 26, lI p1] rfl rfl rfl rfl ?_
  unfold P_X8_leastEndOf
  refine sm_go 2 (s' := (2, ([lR 26, lI p1], ([sI p1, sR 26], (mSH r tl, (G, nk)))))) ?_ rfl
  refine sm_callG (rest := []) (T_X8_readyHour_26 scr d r tl nk G p1) rfl (Or.inl rfl) rfl rfl rfl rfl (fun _ => rfl) (fun v2 => (5, ([lR 26, lI p1], ([sI v2], (mSH r tl, (G, nk)))))) (fun _ => rfl) fun v2 => ?_
  refine sm_go 2 (s' := (7, ([lR 26, lI p1], ([sI p1, sR 26, sI v2], (mSH r tl, (G, nk)))))) ?_ rfl
  refine sm_callG (rest := [sI v2]) (T_X8_hoursLeft_26 scr d r tl nk G p1) rfl (Or.inl rfl) rfl rfl rfl rfl (fun _ => rfl) (fun v3 => (10, ([lR 26, lI p1], ([sI v3, sI v2], (mSH r tl, (G, nk)))))) (fun _ => rfl) fun v3 => ?_
  refine sm_go 1 (s' := (11, ([lR 26, lI p1], ([sI (v2 + v3)], (mSH r tl, (G, nk)))))) ?_ rfl
  exact sm_retI rfl rfl rfl
set_option maxRecDepth 100000 in
theorem T_X8_aimed_26 (scr : mScr) (d : Nat) (r : List (Option Nat)) (tl : List mSh) (nk : Nat × Nat) (G : mG)  (p1 : Int) : SimC scr (d + 4) 68 [sR 26, sI p1] (mSH r tl, (G, nk)) (e0I (mSH r tl, (G, nk))) (P_X8_aimed 26 p1 G) := by
  refine sm_callX (cs := mc_X8_aimed) (maxL := 6) (rk := 0) (o := 8) (hs := []) (d := d + 3) [lR 26, lI p1, none, none, none, none] rfl rfl rfl rfl ?_
  unfold P_X8_aimed
  refine sm_go 4 (s' := (4, ([lR 26, lI p1, lI 0, lI 0, none, none], ([], (mSH r tl, (G, nk)))))) ?_ rfl
  refine sm_loop2 (S := fun (g4 : Option mV × Option mV) (x2 : Int) (x3 : Int) => (4, ([lR 26, lI p1, lI x2, lI x3, g4.1, g4.2], ([], (mSH r tl, (G, nk)))))) ?_ LF (none, none) 0 0
  intro again5 hagain5 g4 x2 x3
  refine sm_go 4 (s' := (12, ([lR 26, lI p1, lI x2, lI x3, g4.1, g4.2], ([sI (G 1 0), sI x3], (mSH r tl, (G, nk)))))) ?_ rfl
  refine sm_if2n (t := (ilt x3 (G 1 0))) (pt := 146) rfl rfl rfl (fun _ => ?_) (fun _ => ?_)
  · refine sm_go 2 (s' := (17, ([lR 26, lI p1, lI x2, lI x3, g4.1, g4.2], ([sI x3, sR 26], (mSH r tl, (G, nk)))))) ?_ rfl
    refine sm_callG (rest := []) (T_X8_leastEndOf_26 scr d r tl nk G x3) rfl (Or.inl rfl) rfl rfl rfl rfl (fun _ => rfl) (fun v6 => (20, ([lR 26, lI p1, lI x2, lI x3, g4.1, g4.2], ([sI v6], (mSH r tl, (G, nk)))))) (fun _ => rfl) fun v6 => ?_
    refine sm_go 6 (s' := (32, ([lR 26, lI p1, lI x2, lI x3, lI v6, g4.2], ([sI x3, sR 3, sI v6], (mSH r tl, (G, nk)))))) ?_ rfl
    refine sm_ald rfl rfl fun v7 => ?_
    refine sm_letK1 (S := fun (g9 : Unit) (x8 : Int) => (140, ([lR 26, lI p1, lI x8, lI x3, lI v6, lI (v6 - v7)], ([], (mSH r tl, (G, nk)))))) ?_ ?_
    · intro g9 x8
      exact sm_go 2 (hagain5 (lI v6, lI (v6 - v7)) x8 (x3 + 1)) rfl
    · intro k10 hk10
      refine sm_go 3 (s' := (37, ([lR 26, lI p1, lI x2, lI x3, lI v6, lI (v6 - v7)], ([sI p1], (mSH r tl, (G, nk)))))) ?_ rfl
      refine sm_sw (fun hw0 => ?_) (fun hw0 => ?_)
      · refine sm_swC (pt := 68) hw0 rfl rfl ?_
        exact sm_go 5 (hk10 () (iMax x2 v6)) rfl
      refine sm_sw (fun hw1 => ?_) (fun hw1 => ?_)
      · refine sm_swC (pt := 78) hw1 rfl rfl ?_
        exact sm_go 5 (hk10 () (x2 + v6)) rfl
      refine sm_sw (fun hw2 => ?_) (fun hw2 => ?_)
      · refine sm_swC (pt := 86) hw2 rfl rfl ?_
        refine sm_letK1 (S := fun (g12 : Unit) (x11 : Int) => (101, ([lR 26, lI p1, lI x2, lI x3, lI v6, lI (v6 - v7)], ([sI x11], (mSH r tl, (G, nk)))))) ?_ ?_
        · intro g12 x11
          exact sm_go 2 (hk10 () x11) rfl
        · intro k13 hk13
          refine sm_go 1 (s' := (87, ([lR 26, lI p1, lI x2, lI x3, lI v6, lI (v6 - v7)], ([sI x3], (mSH r tl, (G, nk)))))) ?_ rfl
          refine sm_if1n (t := (ieq x3 0)) (pt := 95) rfl rfl rfl (fun _ => ?_) (fun _ => ?_)
          · exact sm_go 2 (hk13 () (v6 - v7)) rfl
          · exact sm_go 3 (hk13 () (iMax x2 (v6 - v7))) rfl
      refine sm_sw (fun hw3 => ?_) (fun hw3 => ?_)
      · refine sm_swC (pt := 105) hw3 rfl rfl ?_
        refine sm_letK1 (S := fun (g15 : Unit) (x14 : Int) => (116, ([lR 26, lI p1, lI x2, lI x3, lI v6, lI (v6 - v7)], ([sI x14, sI x2], (mSH r tl, (G, nk)))))) ?_ ?_
        · intro g15 x14
          exact sm_go 3 (hk10 () (x2 + x14)) rfl
        · intro k16 hk16
          refine sm_go 2 (s' := (108, ([lR 26, lI p1, lI x2, lI x3, lI v6, lI (v6 - v7)], ([sI (v6 - v7), sI x2], (mSH r tl, (G, nk)))))) ?_ rfl
          refine sm_if1n (t := (ilt 0 (v6 - v7))) (pt := 115) rfl rfl rfl (fun _ => ?_) (fun _ => ?_)
          · exact sm_go 2 (hk16 () 1) rfl
          · exact sm_go 1 (hk16 () 0) rfl
      refine sm_swD (pt := 121) (by omega) rfl rfl ?_
      refine sm_go 5 (s' := (130, ([lR 26, lI p1, lI x2, lI x3, lI v6, lI (v6 - v7)], ([sI x3, sR 4, sI x2], (mSH r tl, (G, nk)))))) ?_ rfl
      refine sm_ald rfl rfl fun v17 => ?_
      exact sm_go 6 (hk10 () (x2 + (v17 * (iMax (v6 - v7) 0)))) rfl
  · refine sm_go 1 (s' := (147, ([lR 26, lI p1, lI x2, lI x3, g4.1, g4.2], ([sI x2], (mSH r tl, (G, nk)))))) ?_ rfl
    exact sm_retI rfl rfl rfl
