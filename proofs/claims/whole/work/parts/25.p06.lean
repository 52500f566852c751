/-! ===== programs as functions, 25 6: printed by wip/whole/gen/gen_p_out.py ===== -/
def P_X8_putBegunIn (t : Nat) (p1 : Int) (G : mG) : Option (mG) :=
loop2 LF (fun again5 (x2 : Int) (G3 : mG) =>
bif (ilt x2 (G3 17 1)) then
(ald G3 18 30 x2).bind fun v6 =>
(P_X8_hasLeft t v6 G3).bind fun v7 =>
letK (fun (G8 : mG) =>
again5 (x2 + 1) G8) fun k10 =>
bif v7 then
(P_X8_nextStep t v6 G3).bind fun v11 =>
(ald G3 22 30 v11).bind fun v12 =>
bif (ilt v12 p1) then
(P_X8_put t v6 0 G3).bind fun G13 =>
k10 G13
else
k10 G3
else
k10 G3
else
some G3) 0 G
set_option maxRecDepth 100000 in
theorem T_X8_putBegunIn_26 (scr : mScr) (d : Nat) (r : List (Option Nat)) (tl : List mSh) (nk : Nat × Nat) (G : mG)  (p1 : Int) : SimC scr (d + 5) 61 [sR 26, sR 17, sI p1] (mSH r tl, (G, nk)) (e1U r tl nk) (P_X8_putBegunIn 26 p1 G) := by
  refine sm_callX (cs := mc_X8_putBegunIn) (maxL := 5) (rk := 0) (o := 8) (hs := []) (d := d + 4) [lR 26, lR 17, lI p1, none, none] rfl rfl rfl rfl ?_
  unfold P_X8_putBegunIn
  refine sm_go 2 (s' := (2, ([lR 26, lR 17, lI p1, lI 0, none], ([], (mSH r tl, (G, nk)))))) ?_ rfl
  refine sm_loop2 (S := fun (g4 : Option mV) (x2 : Int) (G3 : mG) => (2, ([lR 26, lR 17, lI p1, lI x2, g4], ([], (mSH r tl, (G3, nk)))))) ?_ LF (none) 0 G
  intro again5 hagain5 g4 x2 G3
  refine sm_go 3 (s' := (7, ([lR 26, lR 17, lI p1, lI x2, g4], ([sI (G3 17 1), sI x2], (mSH r tl, (G3, nk)))))) ?_ rfl
  refine sm_if2n (t := (ilt x2 (G3 17 1))) (pt := 55) rfl rfl rfl (fun _ => ?_) (fun _ => ?_)
  · refine sm_go 3 (s' := (15, ([lR 26, lR 17, lI p1, lI x2, g4], ([sI x2, sR 18], (mSH r tl, (G3, nk)))))) ?_ rfl
    refine sm_ald rfl rfl fun v6 => ?_
    refine sm_go 3 (s' := (21, ([lR 26, lR 17, lI p1, lI x2, lI v6], ([sI v6, sR 26], (mSH r tl, (G3, nk)))))) ?_ rfl
    refine sm_callG (rest := []) (T_X8_hasLeft_26 scr (d + 3) r tl nk G3 v6) rfl (Or.inl rfl) rfl rfl rfl rfl (fun _ => rfl) (fun v7 => (24, ([lR 26, lR 17, lI p1, lI x2, lI v6], ([sI (b2i v7)], (mSH r tl, (G3, nk)))))) (fun _ => rfl) fun v7 => ?_
    refine sm_letK1 (S := fun (g9 : Unit) (G8 : mG) => (49, ([lR 26, lR 17, lI p1, lI x2, lI v6], ([], (mSH r tl, (G8, nk)))))) ?_ ?_
    · intro g9 G8
      exact sm_go 2 (hagain5 (lI v6) (x2 + 1) G8) rfl
    · intro k10 hk10
      refine sm_if1n (t := v7) (pt := 49) (mCmpB_eq v7) rfl rfl (fun _ => ?_) (fun _ => ?_)
      · refine sm_go 4 (s' := (34, ([lR 26, lR 17, lI p1, lI x2, lI v6], ([sI v6, sR 26, sR 22], (mSH r tl, (G3, nk)))))) ?_ rfl
        refine sm_callG (rest := [sR 22]) (T_X8_nextStep_26 scr (d + 3) r tl nk G3 v6) rfl (Or.inl rfl) rfl rfl rfl rfl (fun _ => rfl) (fun v11 => (37, ([lR 26, lR 17, lI p1, lI x2, lI v6], ([sI v11, sR 22], (mSH r tl, (G3, nk)))))) (fun _ => rfl) fun v11 => ?_
        refine sm_ald rfl rfl fun v12 => ?_
        refine sm_go 1 (s' := (39, ([lR 26, lR 17, lI p1, lI x2, lI v6], ([sI p1, sI v12], (mSH r tl, (G3, nk)))))) ?_ rfl
        refine sm_if2n (t := (ilt v12 p1)) (pt := 49) rfl rfl rfl (fun _ => ?_) (fun _ => ?_)
        · refine sm_go 3 (s' := (46, ([lR 26, lR 17, lI p1, lI x2, lI v6], ([sI 0, sI v6, sR 26], (mSH r tl, (G3, nk)))))) ?_ rfl
          refine sm_callG (rest := []) (T_X8_put_26 scr d r tl nk G3 v6 0) rfl (Or.inl rfl) rfl rfl rfl rfl (fun _ => rfl) (fun G13 => (49, ([lR 26, lR 17, lI p1, lI x2, lI v6], ([], (mSH r tl, (G13, nk)))))) (fun _ => rfl) fun G13 => ?_
          exact hk10 () G13
        · exact hk10 () G3
      · exact hk10 () G3
  · exact sm_retU rfl rfl
def P_X11_hasPlan (G : mG) : Option (Bool) :=
(ald G 57 282 151).bind fun v1 =>
bif (ieq v1 1) then
some true
else
some false
set_option maxRecDepth 100000 in
theorem T_X11_hasPlan (scr : mScr) (d : Nat) (r : List (Option Nat)) (tl : List mSh) (nk : Nat × Nat) (G : mG)  : SimC scr (d + 1) 150 [sR 56] (mSH r tl, (G, nk)) (e0B (mSH r tl, (G, nk))) (P_X11_hasPlan G) := by
  refine sm_callX (cs := mc_X11_hasPlan) (maxL := 1) (rk := 1) (o := 11) (hs := []) (d := d + 0) [lR 56] rfl rfl rfl rfl ?_
  unfold P_X11_hasPlan
  refine sm_go 3 (s' := (7, ([lR 56], ([sI 151, sR 57], (mSH r tl, (G, nk)))))) ?_ rfl
  refine sm_ald rfl rfl fun v1 => ?_
  refine sm_go 1 (s' := (9, ([lR 56], ([sI 1, sI v1], (mSH r tl, (G, nk)))))) ?_ rfl
  refine sm_if2n (t := (ieq v1 1)) (pt := 16) rfl rfl rfl (fun _ => ?_) (fun _ => ?_)
  · refine sm_go 2 (s' := (17, ([lR 56], ([sI 1], (mSH r tl, (G, nk)))))) ?_ rfl
    exact sm_retB1 (b := true) rfl rfl
  · refine sm_go 1 (s' := (17, ([lR 56], ([sI 0], (mSH r tl, (G, nk)))))) ?_ rfl
    exact sm_retB1 (b := false) rfl rfl
def P_X11_replan (p1 : Int) (p2 : Int) (G : mG) : Option (Int × mG) :=
(P_X11_in p1 0 7).bind fun v3 =>
letK (fun (x4 : Int) =>
(P_X11_hasPlan G).bind fun v6 =>
(P_X11_fits x4 (b2i v6) 1 G).bind fun z7 =>
bif z7.1 then
(P_X11_keeps z7.2).bind fun G8 =>
(P_X11_works G8).bind fun z9 =>
(acp z9.2 59 30 0 73 30 0 30).bind fun G10 =>
(P_X11_startsPlan G10).bind fun G11 =>
(P_X11_clearsOrder G11).bind fun G12 =>
letK (fun (G13 : mG) =>
(P_X11_goesByRule p1 G13).bind fun G15 =>
(P_X11_takesOrder G15).bind fun z16 =>
some (z16.1, z16.2)) fun k17 =>
loop2 LF (fun again21 (x18 : Int) (G19 : mG) =>
bif (ieq x18 0) then
k17 G19
else
letK (fun (x22 : Int) (G23 : mG) =>
again21 x22 G23) fun k25 =>
loop3 LF (fun again30 (x26 : Int) (x27 : Int) (G28 : mG) =>
bif (ilt x27 4) then
(ald G28 65 4 x27).bind fun v31 =>
(ald G28 57 282 (152 + (x27 * 31))).bind fun v32 =>
letK (fun (x33 : Int) (G34 : mG) =>
again30 x33 (x27 + 1) G34) fun k36 =>
bif (ieq v31 v32) then
k36 x26 G28
else
(ald G28 65 4 x27).bind fun v37 =>
(ald G28 57 282 (((152 + (x27 * 31)) + 1) + v37)).bind fun v38 =>
(ald G28 60 6 (iDiv v38 10)).bind fun v39 =>
bif (ieq v39 (iRem v38 10)) then
(ald G28 73 30 (((iDiv v38 10) * 5) + (iRem v38 10))).bind fun v40 =>
bif (ilt v40 p2) then
(P_X11_puts (iDiv v38 10) G28).bind fun G41 =>
(P_X11_beginOf (iDiv v38 10) G41).bind fun v42 =>
(P_X11_does (iDiv v38 10) v42 G41).bind fun G43 =>
k36 1 G43
else
k36 x26 G28
else
k36 x26 G28
else
k25 x26 G28) 0 0 G19) (b2i z9.1) G12
else
some (0, z7.2)) fun k44 =>
letK (k44 0) fun k46 =>
bif v3 then
(P_X11_in p2 0 2000).bind fun v47 =>
bif v47 then
k44 1
else
k46
else
k46
set_option maxRecDepth 100000 in
theorem T_X11_replan (scr : mScr) (d : Nat) (r : List (Option Nat)) (tl : List mSh) (nk : Nat × Nat) (G : mG)  (p1 : Int) (p2 : Int) : SimC scr (d + 7) 182 [sR 56, sI p1, sI p2] (mSH r tl, (G, nk)) (e1I r tl nk) (P_X11_replan p1 p2 G) := by
  refine sm_callX (cs := mc_X11_replan) (maxL := 8) (rk := 0) (o := 11) (hs := []) (d := d + 6) [lR 56, lI p1, lI p2, none, none, none, none, none] rfl rfl rfl rfl ?_
  unfold P_X11_replan
  refine sm_go 4 (s' := (5, ([lR 56, lI p1, lI p2, none, none, none, none, none], ([sI 7, sI 0, sI p1, sR 56], (mSH r tl, (G, nk)))))) ?_ rfl
  refine sm_callG (rest := [sR 56]) (T_X11_in scr (d + 5) r tl nk G p1 0 7) rfl (Or.inr (Or.inl rfl)) rfl rfl rfl rfl (fun _ => rfl) (fun v3 => (8, ([lR 56, lI p1, lI p2, none, none, none, none, none], ([sI (b2i v3), sR 56], (mSH r tl, (G, nk)))))) (fun _ => rfl) fun v3 => ?_
  refine sm_letK1 (S := fun (g5 : Unit) (x4 : Int) => (27, ([lR 56, lI p1, lI p2, none, none, none, none, none], ([sI x4, sR 56], (mSH r tl, (G, nk)))))) ?_ ?_
  · intro g5 x4
    refine sm_go 1 (s' := (28, ([lR 56, lI p1, lI p2, none, none, none, none, none], ([sR 56, sI x4, sR 56], (mSH r tl, (G, nk)))))) ?_ rfl
    refine sm_callG (rest := [sI x4, sR 56]) (T_X11_hasPlan scr (d + 5) r tl nk G) rfl (Or.inl rfl) rfl rfl rfl rfl (fun _ => rfl) (fun v6 => (31, ([lR 56, lI p1, lI p2, none, none, none, none, none], ([sI (b2i v6), sI x4, sR 56], (mSH r tl, (G, nk)))))) (fun _ => rfl) fun v6 => ?_
    refine sm_go 1 (s' := (32, ([lR 56, lI p1, lI p2, none, none, none, none, none], ([sI 1, sI (b2i v6), sI x4, sR 56], (mSH r tl, (G, nk)))))) ?_ rfl
    refine sm_callG (rest := []) (T_X11_fits scr (d + 5) r tl nk G x4 (b2i v6) 1) rfl (Or.inl rfl) rfl rfl rfl rfl (fun _ => rfl) (fun z7 => (35, ([lR 56, lI p1, lI p2, none, none, none, none, none], ([sI (b2i z7.1)], (mSH r tl, (z7.2, nk)))))) (fun _ => rfl) fun z7 => ?_
    refine sm_if1 (t := z7.1) (pt := 40) (mCmpB_ne z7.1) rfl rfl (fun _ => ?_) (fun _ => ?_)
    · refine sm_go 1 (s' := (41, ([lR 56, lI p1, lI p2, none, none, none, none, none], ([sR 56], (mSH r tl, (z7.2, nk)))))) ?_ rfl
      refine sm_callG (rest := []) (T_X11_keeps scr (d + 5) r tl nk z7.2) rfl (Or.inl rfl) rfl rfl rfl rfl (fun _ => rfl) (fun G8 => (44, ([lR 56, lI p1, lI p2, none, none, none, none, none], ([], (mSH r tl, (G8, nk)))))) (fun _ => rfl) fun G8 => ?_
      refine sm_go 1 (s' := (45, ([lR 56, lI p1, lI p2, none, none, none, none, none], ([sR 56], (mSH r tl, (G8, nk)))))) ?_ rfl
      refine sm_callG (rest := []) (T_X11_works scr (d + 1) r tl nk G8) rfl (Or.inl rfl) rfl rfl rfl rfl (fun _ => rfl) (fun z9 => (48, ([lR 56, lI p1, lI p2, none, none, none, none, none], ([sI (b2i z9.1)], (mSH r tl, (z9.2, nk)))))) (fun _ => rfl) fun z9 => ?_
      refine sm_go 8 (s' := (61, ([lR 56, lI p1, lI p2, lI (b2i z9.1), none, none, none, none], ([sI 30, sI 0, sR 73, sI 0, sR 59], (mSH r tl, (z9.2, nk)))))) ?_ rfl
      refine sm_acp rfl rfl rfl rfl fun G10 => ?_
      refine sm_go 1 (s' := (65, ([lR 56, lI p1, lI p2, lI (b2i z9.1), none, none, none, none], ([sR 56], (mSH r tl, (G10, nk)))))) ?_ rfl
      refine sm_callG (rest := []) (T_X11_startsPlan scr (d + 4) r tl nk G10) rfl (Or.inl rfl) rfl rfl rfl rfl (fun _ => rfl) (fun G11 => (68, ([lR 56, lI p1, lI p2, lI (b2i z9.1), none, none, none, none], ([], (mSH r tl, (G11, nk)))))) (fun _ => rfl) fun G11 => ?_
      refine sm_go 1 (s' := (69, ([lR 56, lI p1, lI p2, lI (b2i z9.1), none, none, none, none], ([sR 56], (mSH r tl, (G11, nk)))))) ?_ rfl
      refine sm_callG (rest := []) (T_X11_clearsOrder scr (d + 5) r tl nk G11) rfl (Or.inl rfl) rfl rfl rfl rfl (fun _ => rfl) (fun G12 => (72, ([lR 56, lI p1, lI p2, lI (b2i z9.1), none, none, none, none], ([], (mSH r tl, (G12, nk)))))) (fun _ => rfl) fun G12 => ?_
      refine sm_letK1 (S := fun (g14 : Option mV × Option mV × Option mV × Option mV × Option mV) (G13 : mG) => (210, ([lR 56, lI p1, lI p2, g14.1, g14.2.1, g14.2.2.1, g14.2.2.2.1, g14.2.2.2.2], ([], (mSH r tl, (G13, nk)))))) ?_ ?_
      · intro g14 G13
        refine sm_go 2 (s' := (212, ([lR 56, lI p1, lI p2, g14.1, g14.2.1, g14.2.2.1, g14.2.2.2.1, g14.2.2.2.2], ([sI p1, sR 56], (mSH r tl, (G13, nk)))))) ?_ rfl
        refine sm_callG (rest := []) (T_X11_goesByRule scr (d + 1) r tl nk G13 p1) rfl (Or.inl rfl) rfl rfl rfl rfl (fun _ => rfl) (fun G15 => (215, ([lR 56, lI p1, lI p2, g14.1, g14.2.1, g14.2.2.1, g14.2.2.2.1, g14.2.2.2.2], ([], (mSH r tl, (G15, nk)))))) (fun _ => rfl) fun G15 => ?_
        refine sm_go 1 (s' := (216, ([lR 56, lI p1, lI p2, g14.1, g14.2.1, g14.2.2.1, g14.2.2.2.1, g14.2.2.2.2], ([sR 56], (mSH r tl, (G15, nk)))))) ?_ rfl
        refine sm_callG (rest := []) (T_X11_takesOrder scr d r tl nk G15) rfl (Or.inl rfl) rfl rfl rfl rfl (fun _ => rfl) (fun z16 => (219, ([lR 56, lI p1, lI p2, g14.1, g14.2.1, g14.2.2.1, g14.2.2.2.1, g14.2.2.2.2], ([sI z16.1], (mSH r tl, (z16.2, nk)))))) (fun _ => rfl) fun z16 => ?_
        exact sm_retI rfl rfl rfl
      · intro k17 hk17
        refine sm_loop2 (S := fun (g20 : Option mV × Option mV × Option mV × Option mV) (x18 : Int) (G19 : mG) => (72, ([lR 56, lI p1, lI p2, lI x18, g20.1, g20.2.1, g20.2.2.1, g20.2.2.2], ([], (mSH r tl, (G19, nk)))))) ?_ LF (none, none, none, none) (b2i z9.1) G12
        intro again21 hagain21 g20 x18 G19
        refine sm_go 1 (s' := (73, ([lR 56, lI p1, lI p2, lI x18, g20.1, g20.2.1, g20.2.2.1, g20.2.2.2], ([sI x18], (mSH r tl, (G19, nk)))))) ?_ rfl
        refine sm_if1 (t := (ieq x18 0)) (pt := 210) rfl rfl rfl (fun _ => ?_) (fun _ => ?_)
        · exact hk17 (lI x18, g20.1, g20.2.1, g20.2.2.1, g20.2.2.2) G19
        · refine sm_go 4 (s' := (81, ([lR 56, lI p1, lI p2, lI 0, lI 0, g20.2.1, g20.2.2.1, g20.2.2.2], ([], (mSH r tl, (G19, nk)))))) ?_ rfl
          refine sm_letK2 (S := fun (g24 : Option mV × Option mV × Option mV × Option mV) (x22 : Int) (G23 : mG) => (207, ([lR 56, lI p1, lI p2, lI x22, g24.1, g24.2.1, g24.2.2.1, g24.2.2.2], ([], (mSH r tl, (G23, nk)))))) ?_ ?_
          · intro g24 x22 G23
            exact sm_go 1 (hagain21 (g24.1, g24.2.1, g24.2.2.1, g24.2.2.2) x22 G23) rfl
          · intro k25 hk25
            refine sm_loop3 (S := fun (g29 : Option mV × Option mV × Option mV) (x26 : Int) (x27 : Int) (G28 : mG) => (81, ([lR 56, lI p1, lI p2, lI x26, lI x27, g29.1, g29.2.1, g29.2.2], ([], (mSH r tl, (G28, nk)))))) ?_ LF (g20.2.1, g20.2.2.1, g20.2.2.2) 0 0 G19
            intro again30 hagain30 g29 x26 x27 G28
            refine sm_go 2 (s' := (84, ([lR 56, lI p1, lI p2, lI x26, lI x27, g29.1, g29.2.1, g29.2.2], ([sI 4, sI x27], (mSH r tl, (G28, nk)))))) ?_ rfl
            refine sm_if2n (t := (ilt x27 4)) (pt := 207) rfl rfl rfl (fun _ => ?_) (fun _ => ?_)
            · refine sm_go 9 (s' := (104, ([lR 56, lI p1, lI p2, lI x26, lI x27, lI (152 + (x27 * 31)), g29.2.1, g29.2.2], ([sI x27, sR 65], (mSH r tl, (G28, nk)))))) ?_ rfl
              refine sm_ald rfl rfl fun v31 => ?_
              refine sm_go 3 (s' := (111, ([lR 56, lI p1, lI p2, lI x26, lI x27, lI (152 + (x27 * 31)), g29.2.1, g29.2.2], ([sI (152 + (x27 * 31)), sR 57, sI v31], (mSH r tl, (G28, nk)))))) ?_ rfl
              refine sm_ald rfl rfl fun v32 => ?_
              refine sm_letK2 (S := fun (g35 : Option mV × Option mV) (x33 : Int) (G34 : mG) => (201, ([lR 56, lI p1, lI p2, lI x33, lI x27, lI (152 + (x27 * 31)), g35.1, g35.2], ([], (mSH r tl, (G34, nk)))))) ?_ ?_
              · intro g35 x33 G34
                exact sm_go 2 (hagain30 (lI (152 + (x27 * 31)), g35.1, g35.2) x33 (x27 + 1) G34) rfl
              · intro k36 hk36
                refine sm_if2n (t := (ieq v31 v32)) (pt := 118) rfl rfl rfl (fun _ => ?_) (fun _ => ?_)
                · exact sm_go 1 (hk36 (g29.2.1, g29.2.2) x26 G28) rfl
                · refine sm_go 8 (s' := (132, ([lR 56, lI p1, lI p2, lI x26, lI x27, lI (152 + (x27 * 31)), g29.2.1, g29.2.2], ([sI x27, sR 65, sI ((152 + (x27 * 31)) + 1), sR 57], (mSH r tl, (G28, nk)))))) ?_ rfl
                  refine sm_ald rfl rfl fun v37 => ?_
                  refine sm_go 1 (s' := (134, ([lR 56, lI p1, lI p2, lI x26, lI x27, lI (152 + (x27 * 31)), g29.2.1, g29.2.2], ([sI (((152 + (x27 * 31)) + 1) + v37), sR 57], (mSH r tl, (G28, nk)))))) ?_ rfl
                  refine sm_ald rfl rfl fun v38 => ?_
                  refine sm_go 8 (s' := (150, ([lR 56, lI p1, lI p2, lI x26, lI x27, lI (152 + (x27 * 31)), lI v38, lI (iDiv v38 10)], ([sI (iDiv v38 10), sR 60], (mSH r tl, (G28, nk)))))) ?_ rfl
                  refine sm_ald rfl rfl fun v39 => ?_
                  refine sm_go 3 (s' := (156, ([lR 56, lI p1, lI p2, lI x26, lI x27, lI (152 + (x27 * 31)), lI v38, lI (iDiv v38 10)], ([sI (iRem v38 10), sI v39], (mSH r tl, (G28, nk)))))) ?_ rfl
                  refine sm_if2n (t := (ieq v39 (iRem v38 10))) (pt := 201) rfl rfl rfl (fun _ => ?_) (fun _ => ?_)
                  · refine sm_go 9 (s' := (173, ([lR 56, lI p1, lI p2, lI x26, lI x27, lI (152 + (x27 * 31)), lI v38, lI (iDiv v38 10)], ([sI (((iDiv v38 10) * 5) + (iRem v38 10)), sR 73], (mSH r tl, (G28, nk)))))) ?_ rfl
                    refine sm_ald rfl rfl fun v40 => ?_
                    refine sm_go 1 (s' := (175, ([lR 56, lI p1, lI p2, lI x26, lI x27, lI (152 + (x27 * 31)), lI v38, lI (iDiv v38 10)], ([sI p2, sI v40], (mSH r tl, (G28, nk)))))) ?_ rfl
                    refine sm_if2 (t := (ilt v40 p2)) (pt := 181) rfl rfl rfl (fun _ => ?_) (fun _ => ?_)
                    · refine sm_go 2 (s' := (184, ([lR 56, lI p1, lI p2, lI x26, lI x27, lI (152 + (x27 * 31)), lI v38, lI (iDiv v38 10)], ([sI (iDiv v38 10), sR 56], (mSH r tl, (G28, nk)))))) ?_ rfl
                      refine sm_callG (rest := []) (T_X11_puts scr (d + 3) r tl nk G28 (iDiv v38 10)) rfl (Or.inl rfl) rfl rfl rfl rfl (fun _ => rfl) (fun G41 => (187, ([lR 56, lI p1, lI p2, lI x26, lI x27, lI (152 + (x27 * 31)), lI v38, lI (iDiv v38 10)], ([], (mSH r tl, (G41, nk)))))) (fun _ => rfl) fun G41 => ?_
                      refine sm_go 4 (s' := (193, ([lR 56, lI p1, lI p2, lI x26, lI x27, lI (152 + (x27 * 31)), lI v38, lI (iDiv v38 10)], ([sI (iDiv v38 10), sR 56, sI (iDiv v38 10), sR 56], (mSH r tl, (G41, nk)))))) ?_ rfl
                      refine sm_callG (rest := [sI (iDiv v38 10), sR 56]) (T_X11_beginOf scr (d + 3) r tl nk G41 (iDiv v38 10)) rfl (Or.inl rfl) rfl rfl rfl rfl (fun _ => rfl) (fun v42 => (196, ([lR 56, lI p1, lI p2, lI x26, lI x27, lI (152 + (x27 * 31)), lI v38, lI (iDiv v38 10)], ([sI v42, sI (iDiv v38 10), sR 56], (mSH r tl, (G41, nk)))))) (fun _ => rfl) fun v42 => ?_
                      refine sm_callG (rest := []) (T_X11_does scr (d + 3) r tl nk G41 (iDiv v38 10) v42) rfl (Or.inl rfl) rfl rfl rfl rfl (fun _ => rfl) (fun G43 => (199, ([lR 56, lI p1, lI p2, lI x26, lI x27, lI (152 + (x27 * 31)), lI v38, lI (iDiv v38 10)], ([], (mSH r tl, (G43, nk)))))) (fun _ => rfl) fun G43 => ?_
                      exact sm_go 2 (hk36 (lI v38, lI (iDiv v38 10)) 1 G43) rfl
                    · exact sm_go 1 (hk36 (lI v38, lI (iDiv v38 10)) x26 G28) rfl
                  · exact hk36 (lI v38, lI (iDiv v38 10)) x26 G28
            · exact hk25 (lI x27, g29.1, g29.2.1, g29.2.2) x26 G28
    · refine sm_go 1 (s' := (39, ([lR 56, lI p1, lI p2, none, none, none, none, none], ([sI 0], (mSH r tl, (z7.2, nk)))))) ?_ rfl
      exact sm_retI rfl rfl rfl
  · intro k44 hk44
    refine sm_letK0 (S := fun (g45 : Unit) => (26, ([lR 56, lI p1, lI p2, none, none, none, none, none], ([sR 56], (mSH r tl, (G, nk)))))) ?_ ?_
    · intro g45
      exact sm_go 1 (hk44 () 0) rfl
    · intro k46 hk46
      refine sm_if1n (t := v3) (pt := 26) (mCmpB_eq v3) rfl rfl (fun _ => ?_) (fun _ => ?_)
      · refine sm_go 3 (s' := (16, ([lR 56, lI p1, lI p2, none, none, none, none, none], ([sI 2000, sI 0, sI p2, sR 56], (mSH r tl, (G, nk)))))) ?_ rfl
        refine sm_callG (rest := [sR 56]) (T_X11_in scr (d + 5) r tl nk G p2 0 2000) rfl (Or.inr (Or.inl rfl)) rfl rfl rfl rfl (fun _ => rfl) (fun v47 => (19, ([lR 56, lI p1, lI p2, none, none, none, none, none], ([sI (b2i v47), sR 56], (mSH r tl, (G, nk)))))) (fun _ => rfl) fun v47 => ?_
        refine sm_if1n (t := v47) (pt := 26) (mCmpB_eq v47) rfl rfl (fun _ => ?_) (fun _ => ?_)
        · exact sm_go 2 (hk44 () 1) rfl
        · exact hk46 ()
      · exact hk46 ()
def P_X8_putRushed (t : Nat) (p1 : Int) (G : mG) : Option (mG) :=
(P_X8_clear t G).bind fun G2 =>
letK (fun (G3 : mG) =>
(P_X7_stepTotal G3).bind fun v5 =>
loop2 LF (fun again9 (x6 : Int) (G7 : mG) =>
bif (ilt x6 v5) then
(ald G7 16 30 x6).bind fun v10 =>
letK (fun (G11 : mG) =>
again9 (x6 + 1) G11) fun k13 =>
bif (ieq v10 p1) then
k13 G7
else
(ald G7 16 30 x6).bind fun v14 =>
(P_X8_put t v14 0 G7).bind fun G15 =>
k13 G15
else
some G7) 0 G3) fun k16 =>
loop2 LF (fun again20 (x17 : Int) (G18 : mG) =>
(ald G18 6 6 p1).bind fun v21 =>
bif (ilt x17 v21) then
(P_X8_put t p1 0 G18).bind fun G22 =>
again20 (x17 + 1) G22
else
k16 G18) 0 G2
set_option maxRecDepth 100000 in
theorem T_X8_putRushed_26 (scr : mScr) (d : Nat) (r : List (Option Nat)) (tl : List mSh) (nk : Nat × Nat) (G : mG)  (p1 : Int) : SimC scr (d + 5) 60 [sR 26, sI p1] (mSH r tl, (G, nk)) (e1U r tl nk) (P_X8_putRushed 26 p1 G) := by
  refine sm_callX (cs := mc_X8_putRushed) (maxL := 4) (rk := 0) (o := 8) (hs := []) (d := d + 4) [lR 26, lI p1, none, none] rfl rfl rfl rfl ?_
  unfold P_X8_putRushed
  refine sm_go 1 (s' := (1, ([lR 26, lI p1, none, none], ([sR 26], (mSH r tl, (G, nk)))))) ?_ rfl
  refine sm_callG (rest := []) (T_X8_clear_26 scr (d + 2) r tl nk G) rfl (Or.inl rfl) rfl rfl rfl rfl (fun _ => rfl) (fun G2 => (4, ([lR 26, lI p1, none, none], ([], (mSH r tl, (G2, nk)))))) (fun _ => rfl) fun G2 => ?_
  refine sm_go 2 (s' := (6, ([lR 26, lI p1, lI 0, none], ([], (mSH r tl, (G2, nk)))))) ?_ rfl
  refine sm_letK1 (S := fun (g4 : Option mV) (G3 : mG) => (31, ([lR 26, lI p1, g4, none], ([], (mSH r tl, (G3, nk)))))) ?_ ?_
  · intro g4 G3
    refine sm_go 2 (s' := (35, ([lR 26, lI p1, g4, none], ([sR 1], (mSH r tl, (G3, nk)))))) ?_ rfl
    refine sm_callG (rest := []) (T_X7_stepTotal scr (d + 3) r tl nk G3) rfl (Or.inl rfl) rfl rfl rfl rfl (fun _ => rfl) (fun v5 => (38, ([lR 26, lI p1, g4, none], ([sI v5], (mSH r tl, (G3, nk)))))) (fun _ => rfl) fun v5 => ?_
    refine sm_go 3 (s' := (41, ([lR 26, lI p1, lI v5, lI 0], ([], (mSH r tl, (G3, nk)))))) ?_ rfl
    refine sm_loop2 (S := fun (g8 : Unit) (x6 : Int) (G7 : mG) => (41, ([lR 26, lI p1, lI v5, lI x6], ([], (mSH r tl, (G7, nk)))))) ?_ LF () 0 G3
    intro again9 hagain9 g8 x6 G7
    refine sm_go 2 (s' := (43, ([lR 26, lI p1, lI v5, lI x6], ([sI v5, sI x6], (mSH r tl, (G7, nk)))))) ?_ rfl
    refine sm_if2n (t := (ilt x6 v5)) (pt := 79) rfl rfl rfl (fun _ => ?_) (fun _ => ?_)
    · refine sm_go 4 (s' := (54, ([lR 26, lI p1, lI v5, lI x6], ([sI x6, sR 16], (mSH r tl, (G7, nk)))))) ?_ rfl
      refine sm_ald rfl rfl fun v10 => ?_
      refine sm_letK1 (S := fun (g12 : Unit) (G11 : mG) => (73, ([lR 26, lI p1, lI v5, lI x6], ([], (mSH r tl, (G11, nk)))))) ?_ ?_
      · intro g12 G11
        exact sm_go 2 (hagain9 () (x6 + 1) G11) rfl
      · intro k13 hk13
        refine sm_go 1 (s' := (56, ([lR 26, lI p1, lI v5, lI x6], ([sI p1, sI v10], (mSH r tl, (G7, nk)))))) ?_ rfl
        refine sm_if2 (t := (ieq v10 p1)) (pt := 73) rfl rfl rfl (fun _ => ?_) (fun _ => ?_)
        · exact hk13 () G7
        · refine sm_go 5 (s' := (68, ([lR 26, lI p1, lI v5, lI x6], ([sI x6, sR 16, sR 26], (mSH r tl, (G7, nk)))))) ?_ rfl
          refine sm_ald rfl rfl fun v14 => ?_
          refine sm_go 1 (s' := (70, ([lR 26, lI p1, lI v5, lI x6], ([sI 0, sI v14, sR 26], (mSH r tl, (G7, nk)))))) ?_ rfl
          refine sm_callG (rest := []) (T_X8_put_26 scr d r tl nk G7 v14 0) rfl (Or.inl rfl) rfl rfl rfl rfl (fun _ => rfl) (fun G15 => (73, ([lR 26, lI p1, lI v5, lI x6], ([], (mSH r tl, (G15, nk)))))) (fun _ => rfl) fun G15 => ?_
          exact hk13 () G15
    · exact sm_retU rfl rfl
  · intro k16 hk16
    refine sm_loop2 (S := fun (g19 : Unit) (x17 : Int) (G18 : mG) => (6, ([lR 26, lI p1, lI x17, none], ([], (mSH r tl, (G18, nk)))))) ?_ LF () 0 G2
    intro again20 hagain20 g19 x17 G18
    refine sm_go 5 (s' := (15, ([lR 26, lI p1, lI x17, none], ([sI p1, sR 6, sI x17], (mSH r tl, (G18, nk)))))) ?_ rfl
    refine sm_ald rfl rfl fun v21 => ?_
    refine sm_if2n (t := (ilt x17 v21)) (pt := 31) rfl rfl rfl (fun _ => ?_) (fun _ => ?_)
    · refine sm_go 3 (s' := (22, ([lR 26, lI p1, lI x17, none], ([sI 0, sI p1, sR 26], (mSH r tl, (G18, nk)))))) ?_ rfl
      refine sm_callG (rest := []) (T_X8_put_26 scr d r tl nk G18 p1 0) rfl (Or.inl rfl) rfl rfl rfl rfl (fun _ => rfl) (fun G22 => (25, ([lR 26, lI p1, lI x17, none], ([], (mSH r tl, (G22, nk)))))) (fun _ => rfl) fun G22 => ?_
      exact sm_go 2 (hagain20 () (x17 + 1) G22) rfl
    · exact hk16 (lI x17) G18
def P_X11_laysRushed (p1 : Int) (G : mG) : Option (mG) :=
(P_X11_clearsOrder G).bind fun G2 =>
loop2 LF (fun again6 (x3 : Int) (G4 : mG) =>
bif (ilt x3 4) then
letK (fun (G7 : mG) =>
again6 (x3 + 1) G7) fun k9 =>
loop2 LF (fun again13 (x10 : Int) (G11 : mG) =>
bif (ilt x10 2) then
letK (fun (G14 : mG) =>
again13 (x10 + 1) G14) fun k16 =>
loop2 LF (fun again20 (x17 : Int) (G18 : mG) =>
(ald G18 57 282 (152 + (x3 * 31))).bind fun v21 =>
bif (ilt x17 v21) then
(ald G18 57 282 (((152 + (x3 * 31)) + 1) + x17)).bind fun v22 =>
letK (fun (x23 : Int) =>
letK (fun (x25 : Int) =>
letK (fun (G27 : mG) =>
again20 (x17 + 1) G27) fun k29 =>
bif (ieq x23 x25) then
(ald G18 66 124 (x3 * 31)).bind fun v30 =>
(ast G18 66 124 (((x3 * 31) + 1) + v30) v22).bind fun G31 =>
(ald G31 66 124 (x3 * 31)).bind fun v32 =>
(ast G31 66 124 (x3 * 31) (v32 + 1)).bind fun G33 =>
k29 G33
else
k29 G18) fun k34 =>
bif (ieq x10 0) then
k34 1
else
k34 0) fun k35 =>
bif (ieq (iDiv v22 10) p1) then
k35 1
else
k35 0
else
k16 G18) 0 G11
else
k9 G11) 0 G4
else
some G4) 0 G2
set_option maxRecDepth 100000 in
theorem T_X11_laysRushed (scr : mScr) (d : Nat) (r : List (Option Nat)) (tl : List mSh) (nk : Nat × Nat) (G : mG)  (p1 : Int) : SimC scr (d + 2) 183 [sR 56, sI p1] (mSH r tl, (G, nk)) (e1U r tl nk) (P_X11_laysRushed p1 G) := by
  refine sm_callX (cs := mc_X11_laysRushed) (maxL := 7) (rk := 0) (o := 11) (hs := []) (d := d + 1) [lR 56, lI p1, none, none, none, none, none] rfl rfl rfl rfl ?_
  unfold P_X11_laysRushed
  refine sm_go 1 (s' := (1, ([lR 56, lI p1, none, none, none, none, none], ([sR 56], (mSH r tl, (G, nk)))))) ?_ rfl
  refine sm_callG (rest := []) (T_X11_clearsOrder scr d r tl nk G) rfl (Or.inl rfl) rfl rfl rfl rfl (fun _ => rfl) (fun G2 => (4, ([lR 56, lI p1, none, none, none, none, none], ([], (mSH r tl, (G2, nk)))))) (fun _ => rfl) fun G2 => ?_
  refine sm_go 2 (s' := (6, ([lR 56, lI p1, lI 0, none, none, none, none], ([], (mSH r tl, (G2, nk)))))) ?_ rfl
  refine sm_loop2 (S := fun (g5 : Option mV × Option mV × Option mV × Option mV) (x3 : Int) (G4 : mG) => (6, ([lR 56, lI p1, lI x3, g5.1, g5.2.1, g5.2.2.1, g5.2.2.2], ([], (mSH r tl, (G4, nk)))))) ?_ LF (none, none, none, none) 0 G2
  intro again6 hagain6 g5 x3 G4
  refine sm_go 2 (s' := (8, ([lR 56, lI p1, lI x3, g5.1, g5.2.1, g5.2.2.1, g5.2.2.2], ([sI 4, sI x3], (mSH r tl, (G4, nk)))))) ?_ rfl
  refine sm_if2n (t := (ilt x3 4)) (pt := 140) rfl rfl rfl (fun _ => ?_) (fun _ => ?_)
  · refine sm_go 8 (s' := (23, ([lR 56, lI p1, lI x3, lI (152 + (x3 * 31)), lI 0, g5.2.2.1, g5.2.2.2], ([], (mSH r tl, (G4, nk)))))) ?_ rfl
    refine sm_letK1 (S := fun (g8 : Option mV × Option mV × Option mV) (G7 : mG) => (134, ([lR 56, lI p1, lI x3, lI (152 + (x3 * 31)), g8.1, g8.2.1, g8.2.2], ([], (mSH r tl, (G7, nk)))))) ?_ ?_
    · intro g8 G7
      exact sm_go 2 (hagain6 (lI (152 + (x3 * 31)), g8.1, g8.2.1, g8.2.2) (x3 + 1) G7) rfl
    · intro k9 hk9
      refine sm_loop2 (S := fun (g12 : Option mV × Option mV) (x10 : Int) (G11 : mG) => (23, ([lR 56, lI p1, lI x3, lI (152 + (x3 * 31)), lI x10, g12.1, g12.2], ([], (mSH r tl, (G11, nk)))))) ?_ LF (g5.2.2.1, g5.2.2.2) 0 G4
      intro again13 hagain13 g12 x10 G11
      refine sm_go 2 (s' := (26, ([lR 56, lI p1, lI x3, lI (152 + (x3 * 31)), lI x10, g12.1, g12.2], ([sI 2, sI x10], (mSH r tl, (G11, nk)))))) ?_ rfl
      refine sm_if2n (t := (ilt x10 2)) (pt := 134) rfl rfl rfl (fun _ => ?_) (fun _ => ?_)
      · refine sm_go 2 (s' := (32, ([lR 56, lI p1, lI x3, lI (152 + (x3 * 31)), lI x10, lI 0, g12.2], ([], (mSH r tl, (G11, nk)))))) ?_ rfl
        refine sm_letK1 (S := fun (g15 : Option mV × Option mV) (G14 : mG) => (128, ([lR 56, lI p1, lI x3, lI (152 + (x3 * 31)), lI x10, g15.1, g15.2], ([], (mSH r tl, (G14, nk)))))) ?_ ?_
        · intro g15 G14
          exact sm_go 2 (hagain13 (g15.1, g15.2) (x10 + 1) G14) rfl
        · intro k16 hk16
          refine sm_loop2 (S := fun (g19 : Option mV) (x17 : Int) (G18 : mG) => (32, ([lR 56, lI p1, lI x3, lI (152 + (x3 * 31)), lI x10, lI x17, g19], ([], (mSH r tl, (G18, nk)))))) ?_ LF (g12.2) 0 G11
          intro again20 hagain20 g19 x17 G18
          refine sm_go 4 (s' := (39, ([lR 56, lI p1, lI x3, lI (152 + (x3 * 31)), lI x10, lI x17, g19], ([sI (152 + (x3 * 31)), sR 57, sI x17], (mSH r tl, (G18, nk)))))) ?_ rfl
          refine sm_ald rfl rfl fun v21 => ?_
          refine sm_if2n (t := (ilt x17 v21)) (pt := 128) rfl rfl rfl (fun _ => ?_) (fun _ => ?_)
          · refine sm_go 7 (s' := (53, ([lR 56, lI p1, lI x3, lI (152 + (x3 * 31)), lI x10, lI x17, g19], ([sI (((152 + (x3 * 31)) + 1) + x17), sR 57], (mSH r tl, (G18, nk)))))) ?_ rfl
            refine sm_ald rfl rfl fun v22 => ?_
            refine sm_letK1 (S := fun (g24 : Unit) (x23 : Int) => (70, ([lR 56, lI p1, lI x3, lI (152 + (x3 * 31)), lI x10, lI x17, lI v22], ([sI x23], (mSH r tl, (G18, nk)))))) ?_ ?_
            · intro g24 x23
              refine sm_letK1 (S := fun (g26 : Unit) (x25 : Int) => (80, ([lR 56, lI p1, lI x3, lI (152 + (x3 * 31)), lI x10, lI x17, lI v22], ([sI x25, sI x23], (mSH r tl, (G18, nk)))))) ?_ ?_
              · intro g26 x25
                refine sm_letK1 (S := fun (g28 : Unit) (G27 : mG) => (122, ([lR 56, lI p1, lI x3, lI (152 + (x3 * 31)), lI x10, lI x17, lI v22], ([], (mSH r tl, (G27, nk)))))) ?_ ?_
                · intro g28 G27
                  exact sm_go 2 (hagain20 (lI v22) (x17 + 1) G27) rfl
                · intro k29 hk29
                  refine sm_if2 (t := (ieq x23 x25)) (pt := 86) rfl rfl rfl (fun _ => ?_) (fun _ => ?_)
                  · refine sm_go 12 (s' := (104, ([lR 56, lI p1, lI x3, lI (152 + (x3 * 31)), lI x10, lI x17, lI v22], ([sI (x3 * 31), sR 66, sI ((x3 * 31) + 1), sR 66], (mSH r tl, (G18, nk)))))) ?_ rfl
                    refine sm_ald rfl rfl fun v30 => ?_
                    refine sm_go 2 (s' := (108, ([lR 56, lI p1, lI x3, lI (152 + (x3 * 31)), lI x10, lI x17, lI v22], ([sI v22, sI (((x3 * 31) + 1) + v30), sR 66], (mSH r tl, (G18, nk)))))) ?_ rfl
                    refine sm_ast rfl rfl fun G31 => ?_
                    refine sm_go 6 (s' := (118, ([lR 56, lI p1, lI x3, lI (152 + (x3 * 31)), lI x10, lI x17, lI v22], ([sI (x3 * 31), sR 66, sI (x3 * 31), sR 66], (mSH r tl, (G31, nk)))))) ?_ rfl
                    refine sm_ald rfl rfl fun v32 => ?_
                    refine sm_go 2 (s' := (121, ([lR 56, lI p1, lI x3, lI (152 + (x3 * 31)), lI x10, lI x17, lI v22], ([sI (v32 + 1), sI (x3 * 31), sR 66], (mSH r tl, (G31, nk)))))) ?_ rfl
                    refine sm_ast rfl rfl fun G33 => ?_
                    exact hk29 () G33
                  · exact sm_go 1 (hk29 () G18) rfl
              · intro k34 hk34
                refine sm_go 1 (s' := (72, ([lR 56, lI p1, lI x3, lI (152 + (x3 * 31)), lI x10, lI x17, lI v22], ([sI x10, sI x23], (mSH r tl, (G18, nk)))))) ?_ rfl
                refine sm_if1n (t := (ieq x10 0)) (pt := 79) rfl rfl rfl (fun _ => ?_) (fun _ => ?_)
                · exact sm_go 2 (hk34 () 1) rfl
                · exact sm_go 1 (hk34 () 0) rfl
            · intro k35 hk35
              refine sm_go 5 (s' := (62, ([lR 56, lI p1, lI x3, lI (152 + (x3 * 31)), lI x10, lI x17, lI v22], ([sI p1, sI (iDiv v22 10)], (mSH r tl, (G18, nk)))))) ?_ rfl
              refine sm_if2n (t := (ieq (iDiv v22 10) p1)) (pt := 69) rfl rfl rfl (fun _ => ?_) (fun _ => ?_)
              · exact sm_go 2 (hk35 () 1) rfl
              · exact sm_go 1 (hk35 () 0) rfl
          · exact hk16 (lI x17, g19) G18
      · exact hk9 (lI x10, g12.1, g12.2) G11
  · exact sm_retU rfl rfl
def P_X11_rush (p1 : Int) (G : mG) : Option (Int × mG) :=
(P_X11_isJob p1 G).bind fun v2 =>
(P_X11_hasPlan G).bind fun v3 =>
(P_X11_fits (b2i v2) (b2i v3) 1 G).bind fun z4 =>
bif z4.1 then
(P_X11_keeps z4.2).bind fun G5 =>
(P_X11_laysRushed p1 G5).bind fun G6 =>
(P_X11_takesOrder G6).bind fun z7 =>
some (z7.1, z7.2)
else
some (0, z4.2)
set_option maxRecDepth 100000 in
theorem T_X11_rush (scr : mScr) (d : Nat) (r : List (Option Nat)) (tl : List mSh) (nk : Nat × Nat) (G : mG)  (p1 : Int) : SimC scr (d + 7) 184 [sR 56, sI p1] (mSH r tl, (G, nk)) (e1I r tl nk) (P_X11_rush p1 G) := by
  refine sm_callX (cs := mc_X11_rush) (maxL := 2) (rk := 0) (o := 11) (hs := []) (d := d + 6) [lR 56, lI p1] rfl rfl rfl rfl ?_
  unfold P_X11_rush
  refine sm_go 3 (s' := (3, ([lR 56, lI p1], ([sI p1, sR 56, sR 56], (mSH r tl, (G, nk)))))) ?_ rfl
  refine sm_callG (rest := [sR 56]) (T_X11_isJob scr (d + 4) r tl nk G p1) rfl (Or.inl rfl) rfl rfl rfl rfl (fun _ => rfl) (fun v2 => (6, ([lR 56, lI p1], ([sI (b2i v2), sR 56], (mSH r tl, (G, nk)))))) (fun _ => rfl) fun v2 => ?_
  refine sm_go 1 (s' := (7, ([lR 56, lI p1], ([sR 56, sI (b2i v2), sR 56], (mSH r tl, (G, nk)))))) ?_ rfl
  refine sm_callG (rest := [sI (b2i v2), sR 56]) (T_X11_hasPlan scr (d + 5) r tl nk G) rfl (Or.inl rfl) rfl rfl rfl rfl (fun _ => rfl) (fun v3 => (10, ([lR 56, lI p1], ([sI (b2i v3), sI (b2i v2), sR 56], (mSH r tl, (G, nk)))))) (fun _ => rfl) fun v3 => ?_
  refine sm_go 1 (s' := (11, ([lR 56, lI p1], ([sI 1, sI (b2i v3), sI (b2i v2), sR 56], (mSH r tl, (G, nk)))))) ?_ rfl
  refine sm_callG (rest := []) (T_X11_fits scr (d + 5) r tl nk G (b2i v2) (b2i v3) 1) rfl (Or.inl rfl) rfl rfl rfl rfl (fun _ => rfl) (fun z4 => (14, ([lR 56, lI p1], ([sI (b2i z4.1)], (mSH r tl, (z4.2, nk)))))) (fun _ => rfl) fun z4 => ?_
  refine sm_if1 (t := z4.1) (pt := 19) (mCmpB_ne z4.1) rfl rfl (fun _ => ?_) (fun _ => ?_)
  · refine sm_go 1 (s' := (20, ([lR 56, lI p1], ([sR 56], (mSH r tl, (z4.2, nk)))))) ?_ rfl
    refine sm_callG (rest := []) (T_X11_keeps scr (d + 5) r tl nk z4.2) rfl (Or.inl rfl) rfl rfl rfl rfl (fun _ => rfl) (fun G5 => (23, ([lR 56, lI p1], ([], (mSH r tl, (G5, nk)))))) (fun _ => rfl) fun G5 => ?_
    refine sm_go 2 (s' := (25, ([lR 56, lI p1], ([sI p1, sR 56], (mSH r tl, (G5, nk)))))) ?_ rfl
    refine sm_callG (rest := []) (T_X11_laysRushed scr (d + 4) r tl nk G5 p1) rfl (Or.inl rfl) rfl rfl rfl rfl (fun _ => rfl) (fun G6 => (28, ([lR 56, lI p1], ([], (mSH r tl, (G6, nk)))))) (fun _ => rfl) fun G6 => ?_
    refine sm_go 1 (s' := (29, ([lR 56, lI p1], ([sR 56], (mSH r tl, (G6, nk)))))) ?_ rfl
    refine sm_callG (rest := []) (T_X11_takesOrder scr d r tl nk G6) rfl (Or.inl rfl) rfl rfl rfl rfl (fun _ => rfl) (fun z7 => (32, ([lR 56, lI p1], ([sI z7.1], (mSH r tl, (z7.2, nk)))))) (fun _ => rfl) fun z7 => ?_
    exact sm_retI rfl rfl rfl
  · refine sm_go 1 (s' := (18, ([lR 56, lI p1], ([sI 0], (mSH r tl, (z4.2, nk)))))) ?_ rfl
    exact sm_retI rfl rfl rfl
noncomputable def P_X10_needMachines (p1 : Int) (W : mW) : Option ((Unit ⊕ Nat) × mW) :=
thrB (P_X10_needRange p1 0 15 W) fun v2 W3 =>
some (.inl (), W3)
set_option maxRecDepth 100000 in
theorem T_X10_needMachines (scr : mScr) (d : Nat) (W : mW)  (p1 : Int) : SimC scr (d + 2) 127 [sI p1] (mkM W) (e2U) (P_X10_needMachines p1 W) := by
  refine sm_callX (cs := mc_X10_needMachines) (maxL := 1) (rk := 0) (o := 110) (hs := []) (d := d + 1) [lI p1] rfl rfl rfl rfl ?_
  unfold P_X10_needMachines
  refine sm_go 3 (s' := (4, ([lI p1], ([sI 15, sI 0, sI p1], (mSH W.1 W.2.1, (W.2.2.1, W.2.2.2)))))) ?_ rfl
  refine sm_thr (rest := []) (T_X10_needRange scr d W p1 0 15) rfl (Or.inr (Or.inl rfl)) rfl rfl rfl rfl (fun _ _ => rfl) (fun _ _ => rfl) (fun v2 W3 => (7, ([lI p1], ([], (mSH W3.1 W3.2.1, (W3.2.2.1, W3.2.2.2)))))) (fun _ _ => rfl) fun v2 W3 => ?_
  exact sm_retU rfl rfl
def P_X11_setWorker (p1 : Int) (p2 : Int) (G : mG) : Option (Int × mG) :=
(P_X11_in p1 0 5).bind fun v3 =>
(P_X11_in p2 0 15).bind fun v4 =>
(P_X11_fits (b2i v3) (b2i v4) 1 G).bind fun z5 =>
bif z5.1 then
(P_X11_keeps z5.2).bind fun G6 =>
(ald G6 57 282 (276 + p1)).bind fun v7 =>
(ast G6 57 282 (276 + p1) p2).bind fun G8 =>
some (v7, G8)
else
some (0, z5.2)
set_option maxRecDepth 100000 in
theorem T_X11_setWorker (scr : mScr) (d : Nat) (r : List (Option Nat)) (tl : List mSh) (nk : Nat × Nat) (G : mG)  (p1 : Int) (p2 : Int) : SimC scr (d + 2) 185 [sR 56, sI p1, sI p2] (mSH r tl, (G, nk)) (e1I r tl nk) (P_X11_setWorker p1 p2 G) := by
  refine sm_callX (cs := mc_X11_setWorker) (maxL := 4) (rk := 0) (o := 11) (hs := []) (d := d + 1) [lR 56, lI p1, lI p2, none] rfl rfl rfl rfl ?_
  unfold P_X11_setWorker
  refine sm_go 4 (s' := (4, ([lR 56, lI p1, lI p2, none], ([sI 5, sI 0, sI p1, sR 56], (mSH r tl, (G, nk)))))) ?_ rfl
  refine sm_callG (rest := [sR 56]) (T_X11_in scr d r tl nk G p1 0 5) rfl (Or.inr (Or.inl rfl)) rfl rfl rfl rfl (fun _ => rfl) (fun v3 => (7, ([lR 56, lI p1, lI p2, none], ([sI (b2i v3), sR 56], (mSH r tl, (G, nk)))))) (fun _ => rfl) fun v3 => ?_
  refine sm_go 3 (s' := (11, ([lR 56, lI p1, lI p2, none], ([sI 15, sI 0, sI p2, sI (b2i v3), sR 56], (mSH r tl, (G, nk)))))) ?_ rfl
  refine sm_callG (rest := [sI (b2i v3), sR 56]) (T_X11_in scr d r tl nk G p2 0 15) rfl (Or.inr (Or.inl rfl)) rfl rfl rfl rfl (fun _ => rfl) (fun v4 => (14, ([lR 56, lI p1, lI p2, none], ([sI (b2i v4), sI (b2i v3), sR 56], (mSH r tl, (G, nk)))))) (fun _ => rfl) fun v4 => ?_
  refine sm_go 1 (s' := (15, ([lR 56, lI p1, lI p2, none], ([sI 1, sI (b2i v4), sI (b2i v3), sR 56], (mSH r tl, (G, nk)))))) ?_ rfl
  refine sm_callG (rest := []) (T_X11_fits scr d r tl nk G (b2i v3) (b2i v4) 1) rfl (Or.inl rfl) rfl rfl rfl rfl (fun _ => rfl) (fun z5 => (18, ([lR 56, lI p1, lI p2, none], ([sI (b2i z5.1)], (mSH r tl, (z5.2, nk)))))) (fun _ => rfl) fun z5 => ?_
  refine sm_if1 (t := z5.1) (pt := 23) (mCmpB_ne z5.1) rfl rfl (fun _ => ?_) (fun _ => ?_)
  · refine sm_go 1 (s' := (24, ([lR 56, lI p1, lI p2, none], ([sR 56], (mSH r tl, (z5.2, nk)))))) ?_ rfl
    refine sm_callG (rest := []) (T_X11_keeps scr d r tl nk z5.2) rfl (Or.inl rfl) rfl rfl rfl rfl (fun _ => rfl) (fun G6 => (27, ([lR 56, lI p1, lI p2, none], ([], (mSH r tl, (G6, nk)))))) (fun _ => rfl) fun G6 => ?_
    refine sm_go 5 (s' := (36, ([lR 56, lI p1, lI p2, none], ([sI (276 + p1), sR 57], (mSH r tl, (G6, nk)))))) ?_ rfl
    refine sm_ald rfl rfl fun v7 => ?_
    refine sm_go 7 (s' := (48, ([lR 56, lI p1, lI p2, lI v7], ([sI p2, sI (276 + p1), sR 57], (mSH r tl, (G6, nk)))))) ?_ rfl
    refine sm_ast rfl rfl fun G8 => ?_
    refine sm_go 1 (s' := (50, ([lR 56, lI p1, lI p2, lI v7], ([sI v7], (mSH r tl, (G8, nk)))))) ?_ rfl
    exact sm_retI rfl rfl rfl
  · refine sm_go 1 (s' := (22, ([lR 56, lI p1, lI p2, none], ([sI 0], (mSH r tl, (z5.2, nk)))))) ?_ rfl
    exact sm_retI rfl rfl rfl
def P_X11_undo (G : mG) : Option (Int × mG) :=
(pst G 56 3 0).bind fun G1 =>
bif (ieq (G1 56 2) 0) then
some ((-1), G1)
else
(pst G1 56 2 ((G1 56 2) - 1)).bind fun G2 =>
(acp G2 58 2256 ((G2 56 2) * 282) 57 282 0 282).bind fun G3 =>
some ((G3 56 2), G3)
set_option maxRecDepth 100000 in
theorem T_X11_undo (scr : mScr) (d : Nat) (r : List (Option Nat)) (tl : List mSh) (nk : Nat × Nat) (G : mG)  : SimC scr (d + 1) 186 [sR 56] (mSH r tl, (G, nk)) (e1I r tl nk) (P_X11_undo G) := by
  refine sm_callX (cs := mc_X11_undo) (maxL := 1) (rk := 0) (o := 11) (hs := []) (d := d + 0) [lR 56] rfl rfl rfl rfl ?_
  unfold P_X11_undo
  refine sm_go 2 (s' := (2, ([lR 56], ([sI 0, sR 56], (mSH r tl, (G, nk)))))) ?_ rfl
  refine sm_pst rfl rfl rfl fun G1 => ?_
  refine sm_go 2 (s' := (9, ([lR 56], ([sI (G1 56 2)], (mSH r tl, (G1, nk)))))) ?_ rfl
  refine sm_if1n (t := (ieq (G1 56 2) 0)) (pt := 14) rfl rfl rfl (fun _ => ?_) (fun _ => ?_)
  · refine sm_go 1 (s' := (13, ([lR 56], ([sI (-1)], (mSH r tl, (G1, nk)))))) ?_ rfl
    exact sm_retI rfl rfl rfl
  · refine sm_go 5 (s' := (21, ([lR 56], ([sI ((G1 56 2) - 1), sR 56], (mSH r tl, (G1, nk)))))) ?_ rfl
    refine sm_pst rfl rfl rfl fun G2 => ?_
    refine sm_go 10 (s' := (44, ([lR 56], ([sI 282, sI 0, sR 57, sI ((G2 56 2) * 282), sR 58], (mSH r tl, (G2, nk)))))) ?_ rfl
    refine sm_acp rfl rfl rfl rfl fun G3 => ?_
    refine sm_go 2 (s' := (51, ([lR 56], ([sI (G3 56 2)], (mSH r tl, (G3, nk)))))) ?_ rfl
    exact sm_retI rfl rfl rfl
def P_X10_jobs (G : mG) : Option (Int) :=
some (G 1 0)
set_option maxRecDepth 100000 in
theorem T_X10_jobs (scr : mScr) (d : Nat) (r : List (Option Nat)) (tl : List mSh) (nk : Nat × Nat) (G : mG)  : SimC scr (d + 1) 89 [sR 0] (mSH r tl, (G, nk)) (e0I (mSH r tl, (G, nk))) (P_X10_jobs G) := by
  refine sm_callX (cs := mc_X10_jobs) (maxL := 1) (rk := 0) (o := 10) (hs := []) (d := d + 0) [lR 0] rfl rfl rfl rfl ?_
  unfold P_X10_jobs
  refine sm_go 3 (s' := (7, ([lR 0], ([sI (G 1 0)], (mSH r tl, (G, nk)))))) ?_ rfl
  exact sm_retI rfl rfl rfl
def P_X11_jobs (G : mG) : Option (Int × mG) :=
(pst G 56 3 0).bind fun G1 =>
(ald G1 57 282 0).bind fun v2 =>
some (v2, G1)
set_option maxRecDepth 100000 in
theorem T_X11_jobs (scr : mScr) (d : Nat) (r : List (Option Nat)) (tl : List mSh) (nk : Nat × Nat) (G : mG)  : SimC scr (d + 1) 187 [sR 56] (mSH r tl, (G, nk)) (e1I r tl nk) (P_X11_jobs G) := by
  refine sm_callX (cs := mc_X11_jobs) (maxL := 1) (rk := 0) (o := 11) (hs := []) (d := d + 0) [lR 56] rfl rfl rfl rfl ?_
  unfold P_X11_jobs
  refine sm_go 2 (s' := (2, ([lR 56], ([sI 0, sR 56], (mSH r tl, (G, nk)))))) ?_ rfl
  refine sm_pst rfl rfl rfl fun G1 => ?_
  refine sm_go 3 (s' := (10, ([lR 56], ([sI 0, sR 57], (mSH r tl, (G1, nk)))))) ?_ rfl
  refine sm_ald rfl rfl fun v2 => ?_
  exact sm_retI rfl rfl rfl
noncomputable def P_X10_jobAt (p1 : Int) (p2 : Int) (W : mW) : Option ((Int ⊕ Nat) × mW) :=
thrB (P_X10_needJob p1 W) fun v3 W4 =>
thrB (P_X10_needRange p2 0 5 W4) fun v5 W6 =>
bif decide (w32 p2 = 0) then
(ald W6.2.2.1 2 6 p1).bind fun v7 =>
some (.inl v7, W6)
else
bif decide (w32 p2 = 1) then
(ald W6.2.2.1 3 6 p1).bind fun v8 =>
some (.inl v8, W6)
else
bif decide (w32 p2 = 2) then
(ald W6.2.2.1 4 6 p1).bind fun v9 =>
some (.inl v9, W6)
else
bif decide (w32 p2 = 3) then
(ald W6.2.2.1 5 6 p1).bind fun v10 =>
some (.inl v10, W6)
else
bif decide (w32 p2 = 4) then
(ald W6.2.2.1 6 6 p1).bind fun v11 =>
some (.inl v11, W6)
else
(P_X7_hoursFrom p1 0 W6.2.2.1).bind fun v12 =>
some (.inl v12, W6)
set_option maxRecDepth 100000 in
theorem T_X10_jobAt (scr : mScr) (d : Nat) (W : mW)  (p1 : Int) (p2 : Int) : SimC scr (d + 2) 90 [sR 0, sI p1, sI p2] (mkM W) (e2I) (P_X10_jobAt p1 p2 W) := by
  refine sm_callX (cs := mc_X10_jobAt) (maxL := 3) (rk := 0) (o := 10) (hs := []) (d := d + 1) [lR 0, lI p1, lI p2] rfl rfl rfl rfl ?_
  unfold P_X10_jobAt
  refine sm_go 2 (s' := (2, ([lR 0, lI p1, lI p2], ([sI p1, sR 0], (mSH W.1 W.2.1, (W.2.2.1, W.2.2.2)))))) ?_ rfl
  refine sm_thr (rest := []) (T_X10_needJob scr d W p1) rfl (Or.inl rfl) rfl rfl rfl rfl (fun _ _ => rfl) (fun _ _ => rfl) (fun v3 W4 => (5, ([lR 0, lI p1, lI p2], ([], (mSH W4.1 W4.2.1, (W4.2.2.1, W4.2.2.2)))))) (fun _ _ => rfl) fun v3 W4 => ?_
  refine sm_go 3 (s' := (8, ([lR 0, lI p1, lI p2], ([sI 5, sI 0, sI p2], (mSH W4.1 W4.2.1, (W4.2.2.1, W4.2.2.2)))))) ?_ rfl
  refine sm_thr (rest := []) (T_X10_needRange scr d W4 p2 0 5) rfl (Or.inr (Or.inl rfl)) rfl rfl rfl rfl (fun _ _ => rfl) (fun _ _ => rfl) (fun v5 W6 => (11, ([lR 0, lI p1, lI p2], ([], (mSH W6.1 W6.2.1, (W6.2.2.1, W6.2.2.2)))))) (fun _ _ => rfl) fun v5 W6 => ?_
  refine sm_go 1 (s' := (12, ([lR 0, lI p1, lI p2], ([sI p2], (mSH W6.1 W6.2.1, (W6.2.2.1, W6.2.2.2)))))) ?_ rfl
  refine sm_sw (fun hw0 => ?_) (fun hw0 => ?_)
  · refine sm_swC (pt := 48) hw0 rfl rfl ?_
    refine sm_go 4 (s' := (56, ([lR 0, lI p1, lI p2], ([sI p1, sR 2], (mSH W6.1 W6.2.1, (W6.2.2.1, W6.2.2.2)))))) ?_ rfl
    refine sm_ald rfl rfl fun v7 => ?_
    exact sm_retI rfl rfl rfl
  refine sm_sw (fun hw1 => ?_) (fun hw1 => ?_)
  · refine sm_swC (pt := 58) hw1 rfl rfl ?_
    refine sm_go 4 (s' := (66, ([lR 0, lI p1, lI p2], ([sI p1, sR 3], (mSH W6.1 W6.2.1, (W6.2.2.1, W6.2.2.2)))))) ?_ rfl
    refine sm_ald rfl rfl fun v8 => ?_
    exact sm_retI rfl rfl rfl
  refine sm_sw (fun hw2 => ?_) (fun hw2 => ?_)
  · refine sm_swC (pt := 68) hw2 rfl rfl ?_
    refine sm_go 4 (s' := (76, ([lR 0, lI p1, lI p2], ([sI p1, sR 4], (mSH W6.1 W6.2.1, (W6.2.2.1, W6.2.2.2)))))) ?_ rfl
    refine sm_ald rfl rfl fun v9 => ?_
    exact sm_retI rfl rfl rfl
  refine sm_sw (fun hw3 => ?_) (fun hw3 => ?_)
  · refine sm_swC (pt := 78) hw3 rfl rfl ?_
    refine sm_go 4 (s' := (86, ([lR 0, lI p1, lI p2], ([sI p1, sR 5], (mSH W6.1 W6.2.1, (W6.2.2.1, W6.2.2.2)))))) ?_ rfl
    refine sm_ald rfl rfl fun v10 => ?_
    exact sm_retI rfl rfl rfl
  refine sm_sw (fun hw4 => ?_) (fun hw4 => ?_)
  · refine sm_swC (pt := 88) hw4 rfl rfl ?_
    refine sm_go 4 (s' := (96, ([lR 0, lI p1, lI p2], ([sI p1, sR 6], (mSH W6.1 W6.2.1, (W6.2.2.1, W6.2.2.2)))))) ?_ rfl
    refine sm_ald rfl rfl fun v11 => ?_
    exact sm_retI rfl rfl rfl
  refine sm_swD (pt := 98) (by omega) rfl rfl ?_
  refine sm_go 4 (s' := (104, ([lR 0, lI p1, lI p2], ([sI 0, sI p1, sR 1], (mSH W6.1 W6.2.1, (W6.2.2.1, W6.2.2.2)))))) ?_ rfl
  refine sm_callG (rest := []) (T_X7_hoursFrom scr d W6.1 W6.2.1 W6.2.2.2 W6.2.2.1 p1 0) rfl (Or.inl rfl) rfl rfl rfl rfl (fun _ => rfl) (fun v12 => (107, ([lR 0, lI p1, lI p2], ([sI v12], (mSH W6.1 W6.2.1, (W6.2.2.1, W6.2.2.2)))))) (fun _ => rfl) fun v12 => ?_
  exact sm_retI rfl rfl rfl
noncomputable def P_L_jobAt (p1 : Int) (p2 : Int) (W : mW) : Option ((Int ⊕ Nat) × mW) :=
ctcB (P_X10_jobAt p1 p2 W) (fun v3 W4 =>
(ast W4.2.2.1 74 1 0 (w32 v3)).bind fun G7 =>
some (.inl 0, (W4.1, (W4.2.1, (G7, W4.2.2.2))))) (fun W5 =>
some (.inl 1, W5)) (fun W6 =>
some (.inl 2, W6)) (fun _ => none)
set_option maxRecDepth 100000 in
theorem T_L_jobAt (scr : mScr) (d : Nat) (W : mW)  (p1 : Int) (p2 : Int) : SimC scr (d + 3) 255 [sR 0, sI p1, sI p2, sR 74] (mkM W) (e2I) (P_L_jobAt p1 p2 W) := by
  refine sm_callX (cs := mc_L_jobAt) (maxL := 5) (rk := 0) (o := 112) (hs := [(0, (10, (13, 0))), (0, (10, (17, 1)))]) (d := d + 2) [lR 0, lI p1, lI p2, lR 74, none] rfl rfl rfl rfl ?_
  unfold P_L_jobAt
  refine sm_go 5 (s' := (5, ([lR 0, lI p1, lI p2, lR 74, none], ([sI p2, sI p1, sR 0, sI 0, sR 74], (mSH W.1 W.2.1, (W.2.2.1, W.2.2.2)))))) ?_ rfl
  refine sm_ctc (rest := [sI 0, sR 74]) (T_X10_jobAt scr d W p1 p2) rfl (Or.inl rfl) rfl rfl rfl rfl (fun _ _ => rfl) (fun v3 W4 => (8, ([lR 0, lI p1, lI p2, lR 74, none], ([sI v3, sI 0, sR 74], (mSH W4.1 W4.2.1, (W4.2.2.1, W4.2.2.2)))))) (fun _ _ => rfl) (fun v3 W4 => ?_) (Or.inl ⟨13, rfl, fun W5 => ?_⟩) (Or.inl ⟨17, rfl, fun W6 => ?_⟩) (Or.inr rfl)
  · refine sm_go 1 (s' := (9, ([lR 0, lI p1, lI p2, lR 74, none], ([sL (w32 v3), sI 0, sR 74], (mSH W4.1 W4.2.1, (W4.2.2.1, W4.2.2.2)))))) ?_ rfl
    refine sm_lst rfl rfl fun G7 => ?_
    refine sm_go 1 (s' := (21, ([lR 0, lI p1, lI p2, lR 74, none], ([], (mSH W4.1 W4.2.1, (G7, W4.2.2.2)))))) ?_ rfl
    refine sm_go 1 (s' := (22, ([lR 0, lI p1, lI p2, lR 74, none], ([sI 0], (mSH W4.1 W4.2.1, (G7, W4.2.2.2)))))) ?_ rfl
    exact sm_retI rfl rfl rfl
  · refine sm_go 2 (s' := (16, ([lR 0, lI p1, lI p2, lR 74, lO], ([sI 1], (mSH W5.1 W5.2.1, (W5.2.2.1, W5.2.2.2)))))) ?_ rfl
    exact sm_retI rfl rfl rfl
  · refine sm_go 2 (s' := (20, ([lR 0, lI p1, lI p2, lR 74, lO], ([sI 2], (mSH W6.1 W6.2.1, (W6.2.2.1, W6.2.2.2)))))) ?_ rfl
    exact sm_retI rfl rfl rfl
def P_X11_length (p1 : Int) (G : mG) : Option (Int) :=
(P_X11_left p1 0 G).bind fun v2 =>
some v2
set_option maxRecDepth 100000 in
theorem T_X11_length (scr : mScr) (d : Nat) (r : List (Option Nat)) (tl : List mSh) (nk : Nat × Nat) (G : mG)  (p1 : Int) : SimC scr (d + 4) 146 [sR 56, sI p1] (mSH r tl, (G, nk)) (e0I (mSH r tl, (G, nk))) (P_X11_length p1 G) := by
  refine sm_callX (cs := mc_X11_length) (maxL := 2) (rk := 0) (o := 11) (hs := []) (d := d + 3) [lR 56, lI p1] rfl rfl rfl rfl ?_
  unfold P_X11_length
  refine sm_go 3 (s' := (3, ([lR 56, lI p1], ([sI 0, sI p1, sR 56], (mSH r tl, (G, nk)))))) ?_ rfl
  refine sm_callG (rest := []) (T_X11_left scr d r tl nk G p1 0) rfl (Or.inl rfl) rfl rfl rfl rfl (fun _ => rfl) (fun v2 => (6, ([lR 56, lI p1], ([sI v2], (mSH r tl, (G, nk)))))) (fun _ => rfl) fun v2 => ?_
  exact sm_retI rfl rfl rfl
def P_X11_jobAt (p1 : Int) (p2 : Int) (G : mG) : Option (Int × mG) :=
(P_X11_isJob p1 G).bind fun v3 =>
(P_X11_in p2 0 5).bind fun v4 =>
(P_X11_fits (b2i v3) (b2i v4) 1 G).bind fun z5 =>
bif z5.1 then
bif (ieq p2 5) then
(P_X11_length p1 z5.2).bind fun v7 =>
some (v7, z5.2)
else
(P_X11_of p1 p2 z5.2).bind fun v6 =>
some (v6, z5.2)
else
some (0, z5.2)
set_option maxRecDepth 100000 in
theorem T_X11_jobAt (scr : mScr) (d : Nat) (r : List (Option Nat)) (tl : List mSh) (nk : Nat × Nat) (G : mG)  (p1 : Int) (p2 : Int) : SimC scr (d + 5) 188 [sR 56, sI p1, sI p2] (mSH r tl, (G, nk)) (e1I r tl nk) (P_X11_jobAt p1 p2 G) := by
  refine sm_callX (cs := mc_X11_jobAt) (maxL := 3) (rk := 0) (o := 11) (hs := []) (d := d + 4) [lR 56, lI p1, lI p2] rfl rfl rfl rfl ?_
  unfold P_X11_jobAt
  refine sm_go 3 (s' := (3, ([lR 56, lI p1, lI p2], ([sI p1, sR 56, sR 56], (mSH r tl, (G, nk)))))) ?_ rfl
  refine sm_callG (rest := [sR 56]) (T_X11_isJob scr (d + 2) r tl nk G p1) rfl (Or.inl rfl) rfl rfl rfl rfl (fun _ => rfl) (fun v3 => (6, ([lR 56, lI p1, lI p2], ([sI (b2i v3), sR 56], (mSH r tl, (G, nk)))))) (fun _ => rfl) fun v3 => ?_
  refine sm_go 3 (s' := (9, ([lR 56, lI p1, lI p2], ([sI 5, sI 0, sI p2, sI (b2i v3), sR 56], (mSH r tl, (G, nk)))))) ?_ rfl
  refine sm_callG (rest := [sI (b2i v3), sR 56]) (T_X11_in scr (d + 3) r tl nk G p2 0 5) rfl (Or.inr (Or.inl rfl)) rfl rfl rfl rfl (fun _ => rfl) (fun v4 => (12, ([lR 56, lI p1, lI p2], ([sI (b2i v4), sI (b2i v3), sR 56], (mSH r tl, (G, nk)))))) (fun _ => rfl) fun v4 => ?_
  refine sm_go 1 (s' := (13, ([lR 56, lI p1, lI p2], ([sI 1, sI (b2i v4), sI (b2i v3), sR 56], (mSH r tl, (G, nk)))))) ?_ rfl
  refine sm_callG (rest := []) (T_X11_fits scr (d + 3) r tl nk G (b2i v3) (b2i v4) 1) rfl (Or.inl rfl) rfl rfl rfl rfl (fun _ => rfl) (fun z5 => (16, ([lR 56, lI p1, lI p2], ([sI (b2i z5.1)], (mSH r tl, (z5.2, nk)))))) (fun _ => rfl) fun z5 => ?_
  refine sm_if1 (t := z5.1) (pt := 21) (mCmpB_ne z5.1) rfl rfl (fun _ => ?_) (fun _ => ?_)
  · refine sm_go 2 (s' := (23, ([lR 56, lI p1, lI p2], ([sI 5, sI p2], (mSH r tl, (z5.2, nk)))))) ?_ rfl
    refine sm_if2n (t := (ieq p2 5)) (pt := 34) rfl rfl rfl (fun _ => ?_) (fun _ => ?_)
    · refine sm_go 2 (s' := (28, ([lR 56, lI p1, lI p2], ([sI p1, sR 56], (mSH r tl, (z5.2, nk)))))) ?_ rfl
      refine sm_callG (rest := []) (T_X11_length scr d r tl nk z5.2 p1) rfl (Or.inl rfl) rfl rfl rfl rfl (fun _ => rfl) (fun v7 => (31, ([lR 56, lI p1, lI p2], ([sI v7], (mSH r tl, (z5.2, nk)))))) (fun _ => rfl) fun v7 => ?_
      refine sm_go 1 (s' := (40, ([lR 56, lI p1, lI p2], ([sI v7], (mSH r tl, (z5.2, nk)))))) ?_ rfl
      exact sm_retI rfl rfl rfl
    · refine sm_go 3 (s' := (37, ([lR 56, lI p1, lI p2], ([sI p2, sI p1, sR 56], (mSH r tl, (z5.2, nk)))))) ?_ rfl
      refine sm_callG (rest := []) (T_X11_of scr (d + 3) r tl nk z5.2 p1 p2) rfl (Or.inl rfl) rfl rfl rfl rfl (fun _ => rfl) (fun v6 => (40, ([lR 56, lI p1, lI p2], ([sI v6], (mSH r tl, (z5.2, nk)))))) (fun _ => rfl) fun v6 => ?_
      exact sm_retI rfl rfl rfl
  · refine sm_go 1 (s' := (20, ([lR 56, lI p1, lI p2], ([sI 0], (mSH r tl, (z5.2, nk)))))) ?_ rfl
    exact sm_retI rfl rfl rfl
noncomputable def P_X10_needStep (p1 : Int) (p2 : Int) (W : mW) : Option ((Unit ⊕ Nat) × mW) :=
thrB (P_X10_needJob p1 W) fun v3 W4 =>
letK (some (.inr 0, (W4.1, (W4.2.1, (W4.2.2.1, (W4.2.2.2.1 + 1, W4.2.2.2.2 + 6)))))) fun k6 =>
bif (ilt p2 0) then
k6
else
(ald W4.2.2.1 6 6 p1).bind fun v7 =>
bif (ilt p2 v7) then
some (.inl (), W4)
else
k6
set_option maxRecDepth 100000 in
theorem T_X10_needStep (scr : mScr) (d : Nat) (W : mW)  (p1 : Int) (p2 : Int) : SimC scr (d + 2) 122 [sR 0, sI p1, sI p2] (mkM W) (e2U) (P_X10_needStep p1 p2 W) := by
  refine sm_callX (cs := mc_X10_needStep) (maxL := 3) (rk := 0) (o := 10) (hs := []) (d := d + 1) [lR 0, lI p1, lI p2] rfl rfl rfl rfl ?_
  unfold P_X10_needStep
  refine sm_go 2 (s' := (2, ([lR 0, lI p1, lI p2], ([sI p1, sR 0], (mSH W.1 W.2.1, (W.2.2.1, W.2.2.2)))))) ?_ rfl
  refine sm_thr (rest := []) (T_X10_needJob scr d W p1) rfl (Or.inl rfl) rfl rfl rfl rfl (fun _ _ => rfl) (fun _ _ => rfl) (fun v3 W4 => (5, ([lR 0, lI p1, lI p2], ([], (mSH W4.1 W4.2.1, (W4.2.2.1, W4.2.2.2)))))) (fun _ _ => rfl) fun v3 W4 => ?_
  refine sm_letK0 (S := fun (g5 : Unit) => (22, ([lR 0, lI p1, lI p2], ([], (mSH W4.1 W4.2.1, (W4.2.2.1, W4.2.2.2)))))) ?_ ?_
  · intro g5
    exact sm_exc rfl rfl rfl rfl
  · intro k6 hk6
    refine sm_go 1 (s' := (6, ([lR 0, lI p1, lI p2], ([sI p2], (mSH W4.1 W4.2.1, (W4.2.2.1, W4.2.2.2)))))) ?_ rfl
    refine sm_if1 (t := (ilt p2 0)) (pt := 22) rfl rfl rfl (fun _ => ?_) (fun _ => ?_)
    · exact hk6 ()
    · refine sm_go 5 (s' := (18, ([lR 0, lI p1, lI p2], ([sI p1, sR 6, sI p2], (mSH W4.1 W4.2.1, (W4.2.2.1, W4.2.2.2)))))) ?_ rfl
      refine sm_ald rfl rfl fun v7 => ?_
      refine sm_if2 (t := (ilt p2 v7)) (pt := 33) rfl rfl rfl (fun _ => ?_) (fun _ => ?_)
      · exact sm_retU rfl rfl
      · exact hk6 ()
noncomputable def P_X10_stepAt (p1 : Int) (p2 : Int) (p3 : Int) (W : mW) : Option ((Int ⊕ Nat) × mW) :=
thrB (P_X10_needStep p1 p2 W) fun v4 W5 =>
thrB (P_X10_needRange p3 0 1 W5) fun v6 W7 =>
bif (ieq p3 0) then
(ald W7.2.2.1 7 30 ((p1 * 5) + p2)).bind fun v9 =>
some (.inl v9, W7)
else
(ald W7.2.2.1 8 30 ((p1 * 5) + p2)).bind fun v8 =>
some (.inl v8, W7)
set_option maxRecDepth 100000 in
theorem T_X10_stepAt (scr : mScr) (d : Nat) (W : mW)  (p1 : Int) (p2 : Int) (p3 : Int) : SimC scr (d + 3) 91 [sR 0, sI p1, sI p2, sI p3] (mkM W) (e2I) (P_X10_stepAt p1 p2 p3 W) := by
  refine sm_callX (cs := mc_X10_stepAt) (maxL := 5) (rk := 0) (o := 10) (hs := []) (d := d + 2) [lR 0, lI p1, lI p2, lI p3, none] rfl rfl rfl rfl ?_
  unfold P_X10_stepAt
  refine sm_go 3 (s' := (3, ([lR 0, lI p1, lI p2, lI p3, none], ([sI p2, sI p1, sR 0], (mSH W.1 W.2.1, (W.2.2.1, W.2.2.2)))))) ?_ rfl
  refine sm_thr (rest := []) (T_X10_needStep scr d W p1 p2) rfl (Or.inl rfl) rfl rfl rfl rfl (fun _ _ => rfl) (fun _ _ => rfl) (fun v4 W5 => (6, ([lR 0, lI p1, lI p2, lI p3, none], ([], (mSH W5.1 W5.2.1, (W5.2.2.1, W5.2.2.2)))))) (fun _ _ => rfl) fun v4 W5 => ?_
  refine sm_go 3 (s' := (9, ([lR 0, lI p1, lI p2, lI p3, none], ([sI 1, sI 0, sI p3], (mSH W5.1 W5.2.1, (W5.2.2.1, W5.2.2.2)))))) ?_ rfl
  refine sm_thr (rest := []) (T_X10_needRange scr (d + 1) W5 p3 0 1) rfl (Or.inr (Or.inl rfl)) rfl rfl rfl rfl (fun _ _ => rfl) (fun _ _ => rfl) (fun v6 W7 => (12, ([lR 0, lI p1, lI p2, lI p3, none], ([], (mSH W7.1 W7.2.1, (W7.2.2.1, W7.2.2.2)))))) (fun _ _ => rfl) fun v6 W7 => ?_
  refine sm_go 7 (s' := (20, ([lR 0, lI p1, lI p2, lI p3, lI ((p1 * 5) + p2)], ([sI p3], (mSH W7.1 W7.2.1, (W7.2.2.1, W7.2.2.2)))))) ?_ rfl
  refine sm_if1n (t := (ieq p3 0)) (pt := 36) rfl rfl rfl (fun _ => ?_) (fun _ => ?_)
  · refine sm_go 4 (s' := (32, ([lR 0, lI p1, lI p2, lI p3, lI ((p1 * 5) + p2)], ([sI ((p1 * 5) + p2), sR 7], (mSH W7.1 W7.2.1, (W7.2.2.1, W7.2.2.2)))))) ?_ rfl
    refine sm_ald rfl rfl fun v9 => ?_
    refine sm_go 1 (s' := (46, ([lR 0, lI p1, lI p2, lI p3, lI ((p1 * 5) + p2)], ([sI v9], (mSH W7.1 W7.2.1, (W7.2.2.1, W7.2.2.2)))))) ?_ rfl
    exact sm_retI rfl rfl rfl
  · refine sm_go 4 (s' := (45, ([lR 0, lI p1, lI p2, lI p3, lI ((p1 * 5) + p2)], ([sI ((p1 * 5) + p2), sR 8], (mSH W7.1 W7.2.1, (W7.2.2.1, W7.2.2.2)))))) ?_ rfl
    refine sm_ald rfl rfl fun v8 => ?_
    exact sm_retI rfl rfl rfl
noncomputable def P_L_stepAt (p1 : Int) (p2 : Int) (p3 : Int) (W : mW) : Option ((Int ⊕ Nat) × mW) :=
ctcB (P_X10_stepAt p1 p2 p3 W) (fun v4 W5 =>
(ast W5.2.2.1 74 1 0 (w32 v4)).bind fun G8 =>
some (.inl 0, (W5.1, (W5.2.1, (G8, W5.2.2.2))))) (fun W6 =>
some (.inl 1, W6)) (fun W7 =>
some (.inl 2, W7)) (fun _ => none)
set_option maxRecDepth 100000 in
theorem T_L_stepAt (scr : mScr) (d : Nat) (W : mW)  (p1 : Int) (p2 : Int) (p3 : Int) : SimC scr (d + 4) 256 [sR 0, sI p1, sI p2, sI p3, sR 74] (mkM W) (e2I) (P_L_stepAt p1 p2 p3 W) := by
  refine sm_callX (cs := mc_L_stepAt) (maxL := 6) (rk := 0) (o := 112) (hs := [(0, (12, (15, 0))), (0, (12, (19, 1)))]) (d := d + 3) [lR 0, lI p1, lI p2, lI p3, lR 74, none] rfl rfl rfl rfl ?_
  unfold P_L_stepAt
  refine sm_go 6 (s' := (7, ([lR 0, lI p1, lI p2, lI p3, lR 74, none], ([sI p3, sI p2, sI p1, sR 0, sI 0, sR 74], (mSH W.1 W.2.1, (W.2.2.1, W.2.2.2)))))) ?_ rfl
  refine sm_ctc (rest := [sI 0, sR 74]) (T_X10_stepAt scr d W p1 p2 p3) rfl (Or.inl rfl) rfl rfl rfl rfl (fun _ _ => rfl) (fun v4 W5 => (10, ([lR 0, lI p1, lI p2, lI p3, lR 74, none], ([sI v4, sI 0, sR 74], (mSH W5.1 W5.2.1, (W5.2.2.1, W5.2.2.2)))))) (fun _ _ => rfl) (fun v4 W5 => ?_) (Or.inl ⟨15, rfl, fun W6 => ?_⟩) (Or.inl ⟨19, rfl, fun W7 => ?_⟩) (Or.inr rfl)
  · refine sm_go 1 (s' := (11, ([lR 0, lI p1, lI p2, lI p3, lR 74, none], ([sL (w32 v4), sI 0, sR 74], (mSH W5.1 W5.2.1, (W5.2.2.1, W5.2.2.2)))))) ?_ rfl
    refine sm_lst rfl rfl fun G8 => ?_
    refine sm_go 1 (s' := (23, ([lR 0, lI p1, lI p2, lI p3, lR 74, none], ([], (mSH W5.1 W5.2.1, (G8, W5.2.2.2)))))) ?_ rfl
    refine sm_go 1 (s' := (24, ([lR 0, lI p1, lI p2, lI p3, lR 74, none], ([sI 0], (mSH W5.1 W5.2.1, (G8, W5.2.2.2)))))) ?_ rfl
    exact sm_retI rfl rfl rfl
  · refine sm_go 2 (s' := (18, ([lR 0, lI p1, lI p2, lI p3, lR 74, lO], ([sI 1], (mSH W6.1 W6.2.1, (W6.2.2.1, W6.2.2.2)))))) ?_ rfl
    exact sm_retI rfl rfl rfl
  · refine sm_go 2 (s' := (22, ([lR 0, lI p1, lI p2, lI p3, lR 74, lO], ([sI 2], (mSH W7.1 W7.2.1, (W7.2.2.1, W7.2.2.2)))))) ?_ rfl
    exact sm_retI rfl rfl rfl
def P_X11_isStep (p1 : Int) (p2 : Int) (G : mG) : Option (Bool) :=
(P_X11_isJob p1 G).bind fun v3 =>
letK (some false) fun k5 =>
bif v3 then
(P_X11_of p1 4 G).bind fun v6 =>
(P_X11_in p2 0 (v6 - 1)).bind fun v7 =>
bif v7 then
some true
else
k5
else
k5
set_option maxRecDepth 100000 in
theorem T_X11_isStep (scr : mScr) (d : Nat) (r : List (Option Nat)) (tl : List mSh) (nk : Nat × Nat) (G : mG)  (p1 : Int) (p2 : Int) : SimC scr (d + 3) 149 [sR 56, sI p1, sI p2] (mSH r tl, (G, nk)) (e0B (mSH r tl, (G, nk))) (P_X11_isStep p1 p2 G) := by
  refine sm_callX (cs := mc_X11_isStep) (maxL := 3) (rk := 1) (o := 11) (hs := []) (d := d + 2) [lR 56, lI p1, lI p2] rfl rfl rfl rfl ?_
  unfold P_X11_isStep
  refine sm_go 2 (s' := (2, ([lR 56, lI p1, lI p2], ([sI p1, sR 56], (mSH r tl, (G, nk)))))) ?_ rfl
  refine sm_callG (rest := []) (T_X11_isJob scr d r tl nk G p1) rfl (Or.inl rfl) rfl rfl rfl rfl (fun _ => rfl) (fun v3 => (5, ([lR 56, lI p1, lI p2], ([sI (b2i v3)], (mSH r tl, (G, nk)))))) (fun _ => rfl) fun v3 => ?_
  refine sm_letK0 (S := fun (g4 : Unit) => (28, ([lR 56, lI p1, lI p2], ([], (mSH r tl, (G, nk)))))) ?_ ?_
  · intro g4
    refine sm_go 1 (s' := (29, ([lR 56, lI p1, lI p2], ([sI 0], (mSH r tl, (G, nk)))))) ?_ rfl
    exact sm_retB1 (b := false) rfl rfl
  · intro k5 hk5
    refine sm_if1n (t := v3) (pt := 28) (mCmpB_eq v3) rfl rfl (fun _ => ?_) (fun _ => ?_)
    · refine sm_go 5 (s' := (13, ([lR 56, lI p1, lI p2], ([sI 4, sI p1, sR 56, sI 0, sI p2], (mSH r tl, (G, nk)))))) ?_ rfl
      refine sm_callG (rest := [sI 0, sI p2]) (T_X11_of scr (d + 1) r tl nk G p1 4) rfl (Or.inl rfl) rfl rfl rfl rfl (fun _ => rfl) (fun v6 => (16, ([lR 56, lI p1, lI p2], ([sI v6, sI 0, sI p2], (mSH r tl, (G, nk)))))) (fun _ => rfl) fun v6 => ?_
      refine sm_go 2 (s' := (18, ([lR 56, lI p1, lI p2], ([sI (v6 - 1), sI 0, sI p2], (mSH r tl, (G, nk)))))) ?_ rfl
      refine sm_callG (rest := []) (T_X11_in scr (d + 1) r tl nk G p2 0 (v6 - 1)) rfl (Or.inr (Or.inl rfl)) rfl rfl rfl rfl (fun _ => rfl) (fun v7 => (21, ([lR 56, lI p1, lI p2], ([sI (b2i v7)], (mSH r tl, (G, nk)))))) (fun _ => rfl) fun v7 => ?_
      refine sm_if1n (t := v7) (pt := 28) (mCmpB_eq v7) rfl rfl (fun _ => ?_) (fun _ => ?_)
      · refine sm_go 2 (s' := (29, ([lR 56, lI p1, lI p2], ([sI 1], (mSH r tl, (G, nk)))))) ?_ rfl
        exact sm_retB1 (b := true) rfl rfl
      · exact hk5 ()
    · exact hk5 ()
