/-! ===== programs as functions, 25 13: printed by wip/whole/gen/gen_p_out.py ===== -/
def P_X11_meanEnd (G : mG) : Option (UInt64 × mG) :=
(P_X11_isPlanned G).bind fun z1 =>
(P_X11_fits (b2i z1.1) 1 1 z1.2).bind fun z2 =>
bif z2.1 then
letK (fun (x3 : Int) =>
(ald z2.2 57 282 0).bind fun v5 =>
bif (ieq v5 0) then
some (FP.dconst0, z2.2)
else
(ald z2.2 57 282 0).bind fun v6 =>
(ddv (FP.i2d (Int32.ofInt x3)) (FP.i2d (Int32.ofInt v6))).bind fun v7 =>
some (v7, z2.2)) fun k8 =>
loop2 LF (fun again12 (x9 : Int) (x10 : Int) =>
(ald z2.2 57 282 0).bind fun v13 =>
bif (ilt x10 v13) then
(ald z2.2 61 6 x10).bind fun v14 =>
again12 (x9 + v14) (x10 + 1)
else
k8 x9) 0 0
else
some (FP.dconst0, z2.2)
set_option maxRecDepth 100000 in
theorem T_X11_meanEnd (scr : mScr) (d : Nat) (r : List (Option Nat)) (tl : List mSh) (nk : Nat × Nat) (G : mG)  : SimC scr (d + 7) 232 [sR 56] (mSH r tl, (G, nk)) (e1D r tl nk) (P_X11_meanEnd G) := by
  refine sm_callX (cs := mc_X11_meanEnd) (maxL := 3) (rk := 0) (o := 11) (hs := []) (d := d + 6) [lR 56, none, none] rfl rfl rfl rfl ?_
  unfold P_X11_meanEnd
  refine sm_go 2 (s' := (2, ([lR 56, none, none], ([sR 56, sR 56], (mSH r tl, (G, nk)))))) ?_ rfl
  refine sm_callG (rest := [sR 56]) (T_X11_isPlanned scr d r tl nk G) rfl (Or.inl rfl) rfl rfl rfl rfl (fun _ => rfl) (fun z1 => (5, ([lR 56, none, none], ([sI (b2i z1.1), sR 56], (mSH r tl, (z1.2, nk)))))) (fun _ => rfl) fun z1 => ?_
  refine sm_go 2 (s' := (7, ([lR 56, none, none], ([sI 1, sI 1, sI (b2i z1.1), sR 56], (mSH r tl, (z1.2, nk)))))) ?_ rfl
  refine sm_callG (rest := []) (T_X11_fits scr (d + 5) r tl nk z1.2 (b2i z1.1) 1 1) rfl (Or.inl rfl) rfl rfl rfl rfl (fun _ => rfl) (fun z2 => (10, ([lR 56, none, none], ([sI (b2i z2.1)], (mSH r tl, (z2.2, nk)))))) (fun _ => rfl) fun z2 => ?_
  refine sm_if1 (t := z2.1) (pt := 15) (mCmpB_ne z2.1) rfl rfl (fun _ => ?_) (fun _ => ?_)
  · refine sm_go 4 (s' := (19, ([lR 56, lI 0, lI 0], ([], (mSH r tl, (z2.2, nk)))))) ?_ rfl
    refine sm_letK1 (S := fun (g4 : Option mV) (x3 : Int) => (44, ([lR 56, lI x3, g4], ([], (mSH r tl, (z2.2, nk)))))) ?_ ?_
    · intro g4 x3
      refine sm_go 3 (s' := (49, ([lR 56, lI x3, g4], ([sI 0, sR 57], (mSH r tl, (z2.2, nk)))))) ?_ rfl
      refine sm_ald rfl rfl fun v5 => ?_
      refine sm_if1n (t := (ieq v5 0)) (pt := 57) rfl rfl rfl (fun _ => ?_) (fun _ => ?_)
      · refine sm_go 2 (s' := (67, ([lR 56, lI x3, g4], ([sD FP.dconst0], (mSH r tl, (z2.2, nk)))))) ?_ rfl
        exact sm_retD rfl rfl
      · refine sm_go 5 (s' := (64, ([lR 56, lI x3, g4], ([sI 0, sR 57, sD (FP.i2d (Int32.ofInt x3))], (mSH r tl, (z2.2, nk)))))) ?_ rfl
        refine sm_ald rfl rfl fun v6 => ?_
        refine sm_go 1 (s' := (66, ([lR 56, lI x3, g4], ([sD (FP.i2d (Int32.ofInt v6)), sD (FP.i2d (Int32.ofInt x3))], (mSH r tl, (z2.2, nk)))))) ?_ rfl
        refine sm_ddv rfl fun v7 => ?_
        exact sm_retD rfl rfl
    · intro k8 hk8
      refine sm_loop2 (S := fun (g11 : Unit) (x9 : Int) (x10 : Int) => (19, ([lR 56, lI x9, lI x10], ([], (mSH r tl, (z2.2, nk)))))) ?_ LF () 0 0
      intro again12 hagain12 g11 x9 x10
      refine sm_go 4 (s' := (25, ([lR 56, lI x9, lI x10], ([sI 0, sR 57, sI x10], (mSH r tl, (z2.2, nk)))))) ?_ rfl
      refine sm_ald rfl rfl fun v13 => ?_
      refine sm_if2n (t := (ilt x10 v13)) (pt := 44) rfl rfl rfl (fun _ => ?_) (fun _ => ?_)
      · refine sm_go 4 (s' := (35, ([lR 56, lI x9, lI x10], ([sI x10, sR 61, sI x9], (mSH r tl, (z2.2, nk)))))) ?_ rfl
        refine sm_ald rfl rfl fun v14 => ?_
        exact sm_go 4 (hagain12 () (x9 + v14) (x10 + 1)) rfl
      · exact hk8 (lI x10) x9
  · refine sm_go 1 (s' := (14, ([lR 56, none, none], ([sD FP.dconst0], (mSH r tl, (z2.2, nk)))))) ?_ rfl
    exact sm_retD rfl rfl
noncomputable def P_X10_use (p1 : Int) (W : mW) : Option ((UInt32 ⊕ Nat) × mW) :=
thrB (P_X10_needMachine p1 W) fun v2 W3 =>
thrB (P_X10_needPlan W3) fun v4 W5 =>
(P_X8_aimed 17 0 W5.2.2.1).bind fun v6 =>
bif (ieq v6 0) then
some (.inl FP.fconst0, W5)
else
(P_X7_hoursOn p1 W5.2.2.1).bind fun v7 =>
(fdv (FP.i2f (Int32.ofInt v7)) (FP.i2f (Int32.ofInt v6))).bind fun v8 =>
some (.inl v8, W5)
set_option maxRecDepth 100000 in
theorem T_X10_use (scr : mScr) (d : Nat) (W : mW)  (p1 : Int) : SimC scr (d + 5) 117 [sR 0, sI p1] (mkM W) (e2F) (P_X10_use p1 W) := by
  refine sm_callX (cs := mc_X10_use) (maxL := 3) (rk := 0) (o := 10) (hs := []) (d := d + 4) [lR 0, lI p1, none] rfl rfl rfl rfl ?_
  unfold P_X10_use
  refine sm_go 1 (s' := (1, ([lR 0, lI p1, none], ([sI p1], (mSH W.1 W.2.1, (W.2.2.1, W.2.2.2)))))) ?_ rfl
  refine sm_thr (rest := []) (T_X10_needMachine scr (d + 3) W p1) rfl (Or.inr (Or.inl rfl)) rfl rfl rfl rfl (fun _ _ => rfl) (fun _ _ => rfl) (fun v2 W3 => (4, ([lR 0, lI p1, none], ([], (mSH W3.1 W3.2.1, (W3.2.2.1, W3.2.2.2)))))) (fun _ _ => rfl) fun v2 W3 => ?_
  refine sm_go 1 (s' := (5, ([lR 0, lI p1, none], ([sR 0], (mSH W3.1 W3.2.1, (W3.2.2.1, W3.2.2.2)))))) ?_ rfl
  refine sm_thr (rest := []) (T_X10_needPlan scr (d + 3) W3) rfl (Or.inl rfl) rfl rfl rfl rfl (fun _ _ => rfl) (fun _ _ => rfl) (fun v4 W5 => (8, ([lR 0, lI p1, none], ([], (mSH W5.1 W5.2.1, (W5.2.2.1, W5.2.2.2)))))) (fun _ _ => rfl) fun v4 W5 => ?_
  refine sm_go 3 (s' := (13, ([lR 0, lI p1, none], ([sI 0, sR 17], (mSH W5.1 W5.2.1, (W5.2.2.1, W5.2.2.2)))))) ?_ rfl
  refine sm_callG (rest := []) (T_X8_aimed_17 scr d W5.1 W5.2.1 W5.2.2.2 W5.2.2.1 0) rfl (Or.inl rfl) rfl rfl rfl rfl (fun _ => rfl) (fun v6 => (16, ([lR 0, lI p1, none], ([sI v6], (mSH W5.1 W5.2.1, (W5.2.2.1, W5.2.2.2)))))) (fun _ => rfl) fun v6 => ?_
  refine sm_go 2 (s' := (18, ([lR 0, lI p1, lI v6], ([sI v6], (mSH W5.1 W5.2.1, (W5.2.2.1, W5.2.2.2)))))) ?_ rfl
  refine sm_if1n (t := (ieq v6 0)) (pt := 23) rfl rfl rfl (fun _ => ?_) (fun _ => ?_)
  · refine sm_go 1 (s' := (22, ([lR 0, lI p1, lI v6], ([sF FP.fconst0], (mSH W5.1 W5.2.1, (W5.2.2.1, W5.2.2.2)))))) ?_ rfl
    exact sm_retF rfl rfl
  · refine sm_go 3 (s' := (28, ([lR 0, lI p1, lI v6], ([sI p1, sR 1], (mSH W5.1 W5.2.1, (W5.2.2.1, W5.2.2.2)))))) ?_ rfl
    refine sm_callG (rest := []) (T_X7_hoursOn scr (d + 3) W5.1 W5.2.1 W5.2.2.2 W5.2.2.1 p1) rfl (Or.inl rfl) rfl rfl rfl rfl (fun _ => rfl) (fun v7 => (31, ([lR 0, lI p1, lI v6], ([sI v7], (mSH W5.1 W5.2.1, (W5.2.2.1, W5.2.2.2)))))) (fun _ => rfl) fun v7 => ?_
    refine sm_go 3 (s' := (34, ([lR 0, lI p1, lI v6], ([sF (FP.i2f (Int32.ofInt v6)), sF (FP.i2f (Int32.ofInt v7))], (mSH W5.1 W5.2.1, (W5.2.2.1, W5.2.2.2)))))) ?_ rfl
    refine sm_fdv rfl fun v8 => ?_
    exact sm_retF rfl rfl
noncomputable def P_L_use (p1 : Int) (W : mW) : Option ((Int ⊕ Nat) × mW) :=
ctcB (P_X10_use p1 W) (fun v2 W3 =>
(ftd v2).bind fun v6 =>
(dst W3.2.2.1 75 1 0 v6).bind fun G7 =>
some (.inl 0, (W3.1, (W3.2.1, (G7, W3.2.2.2))))) (fun W4 =>
some (.inl 1, W4)) (fun _ => none) (fun W5 =>
some (.inl 2, W5))
set_option maxRecDepth 100000 in
theorem T_L_use (scr : mScr) (d : Nat) (W : mW)  (p1 : Int) : SimC scr (d + 6) 276 [sR 0, sI p1, sR 75] (mkM W) (e2I) (P_L_use p1 W) := by
  refine sm_callX (cs := mc_L_use) (maxL := 4) (rk := 0) (o := 112) (hs := [(0, (9, (12, 0))), (0, (9, (15, 2)))]) (d := d + 5) [lR 0, lI p1, lR 75, none] rfl rfl rfl rfl ?_
  unfold P_L_use
  refine sm_go 4 (s' := (4, ([lR 0, lI p1, lR 75, none], ([sI p1, sR 0, sI 0, sR 75], (mSH W.1 W.2.1, (W.2.2.1, W.2.2.2)))))) ?_ rfl
  refine sm_ctc (rest := [sI 0, sR 75]) (T_X10_use scr d W p1) rfl (Or.inl rfl) rfl rfl rfl rfl (fun _ _ => rfl) (fun v2 W3 => (7, ([lR 0, lI p1, lR 75, none], ([sF v2, sI 0, sR 75], (mSH W3.1 W3.2.1, (W3.2.2.1, W3.2.2.2)))))) (fun _ _ => rfl) (fun v2 W3 => ?_) (Or.inl ⟨12, rfl, fun W4 => ?_⟩) (Or.inr rfl) (Or.inl ⟨15, rfl, fun W5 => ?_⟩)
  · refine sm_ftd rfl fun v6 => ?_
    refine sm_dst rfl rfl fun G7 => ?_
    refine sm_go 1 (s' := (18, ([lR 0, lI p1, lR 75, none], ([], (mSH W3.1 W3.2.1, (G7, W3.2.2.2)))))) ?_ rfl
    refine sm_go 1 (s' := (19, ([lR 0, lI p1, lR 75, none], ([sI 0], (mSH W3.1 W3.2.1, (G7, W3.2.2.2)))))) ?_ rfl
    exact sm_retI rfl rfl rfl
  · refine sm_go 2 (s' := (14, ([lR 0, lI p1, lR 75, lO], ([sI 1], (mSH W4.1 W4.2.1, (W4.2.2.1, W4.2.2.2)))))) ?_ rfl
    exact sm_retI rfl rfl rfl
  · refine sm_go 2 (s' := (17, ([lR 0, lI p1, lR 75, lO], ([sI 2], (mSH W5.1 W5.2.1, (W5.2.2.1, W5.2.2.2)))))) ?_ rfl
    exact sm_retI rfl rfl rfl
def P_X11_use (p1 : Int) (G : mG) : Option (UInt32 × mG) :=
(P_X11_in p1 0 3).bind fun v2 =>
(P_X11_isPlanned G).bind fun z3 =>
(P_X11_fits (b2i v2) (b2i z3.1) 1 z3.2).bind fun z4 =>
bif z4.1 then
(P_X11_planEnd z4.2).bind fun v5 =>
bif (ieq v5 0) then
some (FP.fconst0, z4.2)
else
(P_X11_hoursOn p1 z4.2).bind fun v6 =>
(P_X11_planEnd z4.2).bind fun v7 =>
(fdv (FP.i2f (Int32.ofInt v6)) (FP.i2f (Int32.ofInt v7))).bind fun v8 =>
some (v8, z4.2)
else
some (FP.fconst0, z4.2)
set_option maxRecDepth 100000 in
theorem T_X11_use (scr : mScr) (d : Nat) (r : List (Option Nat)) (tl : List mSh) (nk : Nat × Nat) (G : mG)  (p1 : Int) : SimC scr (d + 7) 233 [sR 56, sI p1] (mSH r tl, (G, nk)) (e1F r tl nk) (P_X11_use p1 G) := by
  refine sm_callX (cs := mc_X11_use) (maxL := 2) (rk := 0) (o := 11) (hs := []) (d := d + 6) [lR 56, lI p1] rfl rfl rfl rfl ?_
  unfold P_X11_use
  refine sm_go 4 (s' := (4, ([lR 56, lI p1], ([sI 3, sI 0, sI p1, sR 56], (mSH r tl, (G, nk)))))) ?_ rfl
  refine sm_callG (rest := [sR 56]) (T_X11_in scr (d + 5) r tl nk G p1 0 3) rfl (Or.inr (Or.inl rfl)) rfl rfl rfl rfl (fun _ => rfl) (fun v2 => (7, ([lR 56, lI p1], ([sI (b2i v2), sR 56], (mSH r tl, (G, nk)))))) (fun _ => rfl) fun v2 => ?_
  refine sm_go 1 (s' := (8, ([lR 56, lI p1], ([sR 56, sI (b2i v2), sR 56], (mSH r tl, (G, nk)))))) ?_ rfl
  refine sm_callG (rest := [sI (b2i v2), sR 56]) (T_X11_isPlanned scr d r tl nk G) rfl (Or.inl rfl) rfl rfl rfl rfl (fun _ => rfl) (fun z3 => (11, ([lR 56, lI p1], ([sI (b2i z3.1), sI (b2i v2), sR 56], (mSH r tl, (z3.2, nk)))))) (fun _ => rfl) fun z3 => ?_
  refine sm_go 1 (s' := (12, ([lR 56, lI p1], ([sI 1, sI (b2i z3.1), sI (b2i v2), sR 56], (mSH r tl, (z3.2, nk)))))) ?_ rfl
  refine sm_callG (rest := []) (T_X11_fits scr (d + 5) r tl nk z3.2 (b2i v2) (b2i z3.1) 1) rfl (Or.inl rfl) rfl rfl rfl rfl (fun _ => rfl) (fun z4 => (15, ([lR 56, lI p1], ([sI (b2i z4.1)], (mSH r tl, (z4.2, nk)))))) (fun _ => rfl) fun z4 => ?_
  refine sm_if1 (t := z4.1) (pt := 20) (mCmpB_ne z4.1) rfl rfl (fun _ => ?_) (fun _ => ?_)
  · refine sm_go 1 (s' := (21, ([lR 56, lI p1], ([sR 56], (mSH r tl, (z4.2, nk)))))) ?_ rfl
    refine sm_callG (rest := []) (T_X11_planEnd scr (d + 5) r tl nk z4.2) rfl (Or.inl rfl) rfl rfl rfl rfl (fun _ => rfl) (fun v5 => (24, ([lR 56, lI p1], ([sI v5], (mSH r tl, (z4.2, nk)))))) (fun _ => rfl) fun v5 => ?_
    refine sm_if1n (t := (ieq v5 0)) (pt := 31) rfl rfl rfl (fun _ => ?_) (fun _ => ?_)
    · refine sm_go 2 (s' := (43, ([lR 56, lI p1], ([sF FP.fconst0], (mSH r tl, (z4.2, nk)))))) ?_ rfl
      exact sm_retF rfl rfl
    · refine sm_go 2 (s' := (33, ([lR 56, lI p1], ([sI p1, sR 56], (mSH r tl, (z4.2, nk)))))) ?_ rfl
      refine sm_callG (rest := []) (T_X11_hoursOn scr (d + 3) r tl nk z4.2 p1) rfl (Or.inl rfl) rfl rfl rfl rfl (fun _ => rfl) (fun v6 => (36, ([lR 56, lI p1], ([sI v6], (mSH r tl, (z4.2, nk)))))) (fun _ => rfl) fun v6 => ?_
      refine sm_go 2 (s' := (38, ([lR 56, lI p1], ([sR 56, sF (FP.i2f (Int32.ofInt v6))], (mSH r tl, (z4.2, nk)))))) ?_ rfl
      refine sm_callG (rest := [sF (FP.i2f (Int32.ofInt v6))]) (T_X11_planEnd scr (d + 5) r tl nk z4.2) rfl (Or.inl rfl) rfl rfl rfl rfl (fun _ => rfl) (fun v7 => (41, ([lR 56, lI p1], ([sI v7, sF (FP.i2f (Int32.ofInt v6))], (mSH r tl, (z4.2, nk)))))) (fun _ => rfl) fun v7 => ?_
      refine sm_go 1 (s' := (42, ([lR 56, lI p1], ([sF (FP.i2f (Int32.ofInt v7)), sF (FP.i2f (Int32.ofInt v6))], (mSH r tl, (z4.2, nk)))))) ?_ rfl
      refine sm_fdv rfl fun v8 => ?_
      exact sm_retF rfl rfl
  · refine sm_go 1 (s' := (19, ([lR 56, lI p1], ([sF FP.fconst0], (mSH r tl, (z4.2, nk)))))) ?_ rfl
    exact sm_retF rfl rfl
def P_X7_isClosedIn (p1 : Int) (p2 : Int) (G : mG) : Option (Bool) :=
loop1 LF (fun again5 (x3 : Int) =>
(ald G 9 4 p1).bind fun v6 =>
bif (ilt x3 v6) then
(ald G 10 16 ((p1 * 4) + x3)).bind fun v7 =>
letK (again5 (x3 + 1)) fun k9 =>
bif (ilt p2 v7) then
k9
else
(ald G 11 16 ((p1 * 4) + x3)).bind fun v10 =>
bif (ilt p2 v10) then
some true
else
k9
else
some false) 0
set_option maxRecDepth 100000 in
theorem T_X7_isClosedIn (scr : mScr) (d : Nat) (r : List (Option Nat)) (tl : List mSh) (nk : Nat × Nat) (G : mG)  (p1 : Int) (p2 : Int) : SimC scr (d + 1) 44 [sR 1, sI p1, sI p2] (mSH r tl, (G, nk)) (e0B (mSH r tl, (G, nk))) (P_X7_isClosedIn p1 p2 G) := by
  refine sm_callX (cs := mc_X7_isClosedIn) (maxL := 5) (rk := 1) (o := 7) (hs := []) (d := d + 0) [lR 1, lI p1, lI p2, none, none] rfl rfl rfl rfl ?_
  unfold P_X7_isClosedIn
  refine sm_go 2 (s' := (2, ([lR 1, lI p1, lI p2, lI 0, none], ([], (mSH r tl, (G, nk)))))) ?_ rfl
  refine sm_loop1 (S := fun (g4 : Option mV) (x3 : Int) => (2, ([lR 1, lI p1, lI p2, lI x3, g4], ([], (mSH r tl, (G, nk)))))) ?_ LF (none) 0
  intro again5 hagain5 g4 x3
  refine sm_go 4 (s' := (8, ([lR 1, lI p1, lI p2, lI x3, g4], ([sI p1, sR 9, sI x3], (mSH r tl, (G, nk)))))) ?_ rfl
  refine sm_ald rfl rfl fun v6 => ?_
  refine sm_if2n (t := (ilt x3 v6)) (pt := 49) rfl rfl rfl (fun _ => ?_) (fun _ => ?_)
  · refine sm_go 9 (s' := (25, ([lR 1, lI p1, lI p2, lI x3, lI ((p1 * 4) + x3)], ([sI ((p1 * 4) + x3), sR 10], (mSH r tl, (G, nk)))))) ?_ rfl
    refine sm_ald rfl rfl fun v7 => ?_
    refine sm_letK0 (S := fun (g8 : Unit) => (43, ([lR 1, lI p1, lI p2, lI x3, lI ((p1 * 4) + x3)], ([], (mSH r tl, (G, nk)))))) ?_ ?_
    · intro g8
      exact sm_go 2 (hagain5 (lI ((p1 * 4) + x3)) (x3 + 1)) rfl
    · intro k9 hk9
      refine sm_go 1 (s' := (27, ([lR 1, lI p1, lI p2, lI x3, lI ((p1 * 4) + x3)], ([sI p2, sI v7], (mSH r tl, (G, nk)))))) ?_ rfl
      refine sm_if2 (t := (ilt p2 v7)) (pt := 43) rfl rfl rfl (fun _ => ?_) (fun _ => ?_)
      · exact hk9 ()
      · refine sm_go 4 (s' := (37, ([lR 1, lI p1, lI p2, lI x3, lI ((p1 * 4) + x3)], ([sI ((p1 * 4) + x3), sR 11, sI p2], (mSH r tl, (G, nk)))))) ?_ rfl
        refine sm_ald rfl rfl fun v10 => ?_
        refine sm_if2n (t := (ilt p2 v10)) (pt := 43) rfl rfl rfl (fun _ => ?_) (fun _ => ?_)
        · refine sm_go 1 (s' := (42, ([lR 1, lI p1, lI p2, lI x3, lI ((p1 * 4) + x3)], ([sI 1], (mSH r tl, (G, nk)))))) ?_ rfl
          exact sm_retB1 (b := true) rfl rfl
        · exact hk9 ()
  · refine sm_go 1 (s' := (50, ([lR 1, lI p1, lI p2, lI x3, g4], ([sI 0], (mSH r tl, (G, nk)))))) ?_ rfl
    exact sm_retB1 (b := false) rfl rfl
def P_X2_markStep (p1 : Int) (p2 : Int) (G : mG) : Option (mG) :=
(ald G 7 30 p2).bind fun v3 =>
(P_X8_endOfStep 17 p2 G).bind fun v4 =>
(ald G 22 30 p2).bind fun v5 =>
loop2 LF (fun again9 (x6 : Int) (G7 : mG) =>
bif (ilt x6 (iMin v4 5000)) then
(ald G7 43 5000 x6).bind fun v10 =>
letK (fun (x11 : Int) =>
(ald G7 43 5000 x6).bind fun v13 =>
letK (fun (x14 : Int) =>
(ast G7 43 5000 x6 (iOr v13 x14)).bind fun G16 =>
again9 (x6 + 1) G16) fun k17 =>
bif (ieq x11 0) then
k17 (iOr (iShl 1 v3) (iShl 1 (4 + p1)))
else
k17 (iOr (iOr (iShl 1 v3) (iShl 1 (4 + p1))) 1024)) fun k18 =>
letK (k18 1) fun k20 =>
bif (ieq (iAnd v10 (iOr (iShl 1 v3) (iShl 1 (4 + p1)))) 0) then
(P_X7_isClosedIn v3 x6 G7).bind fun v21 =>
bif v21 then
k20
else
k18 0
else
k20
else
some G7) (iMax v5 0) G
set_option maxRecDepth 100000 in
theorem T_X2_markStep (scr : mScr) (d : Nat) (r : List (Option Nat)) (tl : List mSh) (nk : Nat × Nat) (G : mG)  (p1 : Int) (p2 : Int) : SimC scr (d + 2) 9 [sR 42, sI p1, sI p2] (mSH r tl, (G, nk)) (e1U r tl nk) (P_X2_markStep p1 p2 G) := by
  refine sm_callX (cs := mc_X2_markStep) (maxL := 8) (rk := 0) (o := 2) (hs := []) (d := d + 1) [lR 42, lI p1, lI p2, none, none, none, none, none] rfl rfl rfl rfl ?_
  unfold P_X2_markStep
  refine sm_go 4 (s' := (8, ([lR 42, lI p1, lI p2, none, none, none, none, none], ([sI p2, sR 7], (mSH r tl, (G, nk)))))) ?_ rfl
  refine sm_ald rfl rfl fun v3 => ?_
  refine sm_go 14 (s' := (26, ([lR 42, lI p1, lI p2, lI v3, lI (iOr (iShl 1 v3) (iShl 1 (4 + p1))), none, none, none], ([sI p2, sR 17], (mSH r tl, (G, nk)))))) ?_ rfl
  refine sm_callG (rest := []) (T_X8_endOfStep_17 scr d r tl nk G p2) rfl (Or.inl rfl) rfl rfl rfl rfl (fun _ => rfl) (fun v4 => (29, ([lR 42, lI p1, lI p2, lI v3, lI (iOr (iShl 1 v3) (iShl 1 (4 + p1))), none, none, none], ([sI v4], (mSH r tl, (G, nk)))))) (fun _ => rfl) fun v4 => ?_
  refine sm_go 9 (s' := (47, ([lR 42, lI p1, lI p2, lI v3, lI (iOr (iShl 1 v3) (iShl 1 (4 + p1))), lI (iMin v4 5000), none, none], ([sI p2, sR 22], (mSH r tl, (G, nk)))))) ?_ rfl
  refine sm_ald rfl rfl fun v5 => ?_
  refine sm_go 3 (s' := (54, ([lR 42, lI p1, lI p2, lI v3, lI (iOr (iShl 1 v3) (iShl 1 (4 + p1))), lI (iMin v4 5000), lI (iMax v5 0), none], ([], (mSH r tl, (G, nk)))))) ?_ rfl
  refine sm_loop2 (S := fun (g8 : Option mV) (x6 : Int) (G7 : mG) => (54, ([lR 42, lI p1, lI p2, lI v3, lI (iOr (iShl 1 v3) (iShl 1 (4 + p1))), lI (iMin v4 5000), lI x6, g8], ([], (mSH r tl, (G7, nk)))))) ?_ LF (none) (iMax v5 0) G
  intro again9 hagain9 g8 x6 G7
  refine sm_go 2 (s' := (58, ([lR 42, lI p1, lI p2, lI v3, lI (iOr (iShl 1 v3) (iShl 1 (4 + p1))), lI (iMin v4 5000), lI x6, g8], ([sI (iMin v4 5000), sI x6], (mSH r tl, (G7, nk)))))) ?_ rfl
  refine sm_if2n (t := (ilt x6 (iMin v4 5000))) (pt := 126) rfl rfl rfl (fun _ => ?_) (fun _ => ?_)
  · refine sm_go 3 (s' := (67, ([lR 42, lI p1, lI p2, lI v3, lI (iOr (iShl 1 v3) (iShl 1 (4 + p1))), lI (iMin v4 5000), lI x6, g8], ([sI x6, sR 43], (mSH r tl, (G7, nk)))))) ?_ rfl
    refine sm_ald rfl rfl fun v10 => ?_
    refine sm_letK1 (S := fun (g12 : Unit) (x11 : Int) => (92, ([lR 42, lI p1, lI p2, lI v3, lI (iOr (iShl 1 v3) (iShl 1 (4 + p1))), lI (iMin v4 5000), lI x6, g8], ([sI x11], (mSH r tl, (G7, nk)))))) ?_ ?_
    · intro g12 x11
      refine sm_go 5 (s' := (101, ([lR 42, lI p1, lI p2, lI v3, lI (iOr (iShl 1 v3) (iShl 1 (4 + p1))), lI (iMin v4 5000), lI x6, lI x11], ([sI x6, sR 43, sI x6, sR 43], (mSH r tl, (G7, nk)))))) ?_ rfl
      refine sm_ald rfl rfl fun v13 => ?_
      refine sm_letK1 (S := fun (g15 : Unit) (x14 : Int) => (118, ([lR 42, lI p1, lI p2, lI v3, lI (iOr (iShl 1 v3) (iShl 1 (4 + p1))), lI (iMin v4 5000), lI x6, lI x11], ([sI x14, sI v13, sI x6, sR 43], (mSH r tl, (G7, nk)))))) ?_ ?_
      · intro g15 x14
        refine sm_go 1 (s' := (119, ([lR 42, lI p1, lI p2, lI v3, lI (iOr (iShl 1 v3) (iShl 1 (4 + p1))), lI (iMin v4 5000), lI x6, lI x11], ([sI (iOr v13 x14), sI x6, sR 43], (mSH r tl, (G7, nk)))))) ?_ rfl
        refine sm_ast rfl rfl fun G16 => ?_
        exact sm_go 2 (hagain9 (lI x11) (x6 + 1) G16) rfl
      · intro k17 hk17
        refine sm_go 1 (s' := (104, ([lR 42, lI p1, lI p2, lI v3, lI (iOr (iShl 1 v3) (iShl 1 (4 + p1))), lI (iMin v4 5000), lI x6, lI x11], ([sI x11, sI v13, sI x6, sR 43], (mSH r tl, (G7, nk)))))) ?_ rfl
        refine sm_if1 (t := (ieq x11 0)) (pt := 116) rfl rfl rfl (fun _ => ?_) (fun _ => ?_)
        · exact sm_go 1 (hk17 () (iOr (iShl 1 v3) (iShl 1 (4 + p1)))) rfl
        · exact sm_go 4 (hk17 () (iOr (iOr (iShl 1 v3) (iShl 1 (4 + p1))) 1024)) rfl
    · intro k18 hk18
      refine sm_letK0 (S := fun (g19 : Unit) => (87, ([lR 42, lI p1, lI p2, lI v3, lI (iOr (iShl 1 v3) (iShl 1 (4 + p1))), lI (iMin v4 5000), lI x6, g8], ([], (mSH r tl, (G7, nk)))))) ?_ ?_
      · intro g19
        exact sm_go 2 (hk18 () 1) rfl
      · intro k20 hk20
        refine sm_go 2 (s' := (71, ([lR 42, lI p1, lI p2, lI v3, lI (iOr (iShl 1 v3) (iShl 1 (4 + p1))), lI (iMin v4 5000), lI x6, g8], ([sI (iAnd v10 (iOr (iShl 1 v3) (iShl 1 (4 + p1))))], (mSH r tl, (G7, nk)))))) ?_ rfl
        refine sm_if1n (t := (ieq (iAnd v10 (iOr (iShl 1 v3) (iShl 1 (4 + p1)))) 0)) (pt := 87) rfl rfl rfl (fun _ => ?_) (fun _ => ?_)
        · refine sm_go 4 (s' := (81, ([lR 42, lI p1, lI p2, lI v3, lI (iOr (iShl 1 v3) (iShl 1 (4 + p1))), lI (iMin v4 5000), lI x6, g8], ([sI x6, sI v3, sR 1], (mSH r tl, (G7, nk)))))) ?_ rfl
          refine sm_callG (rest := []) (T_X7_isClosedIn scr d r tl nk G7 v3 x6) rfl (Or.inl rfl) rfl rfl rfl rfl (fun _ => rfl) (fun v21 => (84, ([lR 42, lI p1, lI p2, lI v3, lI (iOr (iShl 1 v3) (iShl 1 (4 + p1))), lI (iMin v4 5000), lI x6, g8], ([sI (b2i v21)], (mSH r tl, (G7, nk)))))) (fun _ => rfl) fun v21 => ?_
          refine sm_if1n (t := v21) (pt := 91) (mCmpB_eq v21) rfl rfl (fun _ => ?_) (fun _ => ?_)
          · exact hk20 ()
          · exact sm_go 1 (hk18 () 0) rfl
        · exact hk20 ()
  · exact sm_retU rfl rfl
def P_X2_wrongHours (G : mG) : Option (Int × mG) :=
(P_J7_fill_53178 43 5000 0 G).bind fun G1 =>
letK (fun (G2 : mG) =>
loop2 LF (fun again7 (x4 : Int) (x5 : Int) =>
bif (ilt x5 5000) then
(ald G2 43 5000 x5).bind fun v8 =>
letK (fun (x9 : Int) =>
again7 (x4 + x9) (x5 + 1)) fun k11 =>
bif (ieq (iAnd v8 1024) 0) then
k11 0
else
k11 1
else
some (x4, G2)) 0 0) fun k12 =>
loop2 LF (fun again16 (x13 : Int) (G14 : mG) =>
bif (ilt x13 (G14 1 0)) then
letK (fun (G17 : mG) =>
again16 (x13 + 1) G17) fun k19 =>
loop2 LF (fun again23 (x20 : Int) (G21 : mG) =>
(ald G21 6 6 x13).bind fun v24 =>
bif (ilt x20 v24) then
(P_X2_markStep x13 ((x13 * 5) + x20) G21).bind fun G25 =>
again23 (x20 + 1) G25
else
k19 G21) 0 G14
else
k12 G14) 0 G1
set_option maxRecDepth 100000 in
theorem T_X2_wrongHours (scr : mScr) (d : Nat) (r : List (Option Nat)) (tl : List mSh) (nk : Nat × Nat) (G : mG)  : SimC scr (d + 3) 8 [sR 42] (mSH r tl, (G, nk)) (e1I r tl nk) (P_X2_wrongHours G) := by
  refine sm_callX (cs := mc_X2_wrongHours) (maxL := 3) (rk := 0) (o := 2) (hs := []) (d := d + 2) [lR 42, none, none] rfl rfl rfl rfl ?_
  unfold P_X2_wrongHours
  refine sm_go 3 (s' := (5, ([lR 42, none, none], ([sI 0, sR 43], (mSH r tl, (G, nk)))))) ?_ rfl
  refine sm_callG (rest := []) (T_J7_fill_53178 scr (d + 1) r tl nk G 43 5000 rfl 0) rfl (Or.inr (Or.inl rfl)) rfl rfl rfl rfl (fun _ => rfl) (fun G1 => (8, ([lR 42, none, none], ([], (mSH r tl, (G1, nk)))))) (fun _ => rfl) fun G1 => ?_
  refine sm_go 2 (s' := (10, ([lR 42, lI 0, none], ([], (mSH r tl, (G1, nk)))))) ?_ rfl
  refine sm_letK1 (S := fun (g3 : Option mV × Option mV) (G2 : mG) => (58, ([lR 42, g3.1, g3.2], ([], (mSH r tl, (G2, nk)))))) ?_ ?_
  · intro g3 G2
    refine sm_go 4 (s' := (62, ([lR 42, lI 0, lI 0], ([], (mSH r tl, (G2, nk)))))) ?_ rfl
    refine sm_loop2 (S := fun (g6 : Unit) (x4 : Int) (x5 : Int) => (62, ([lR 42, lI x4, lI x5], ([], (mSH r tl, (G2, nk)))))) ?_ LF () 0 0
    intro again7 hagain7 g6 x4 x5
    refine sm_go 4 (s' := (68, ([lR 42, lI x4, lI x5], ([sI 5000, sI x5], (mSH r tl, (G2, nk)))))) ?_ rfl
    refine sm_if2n (t := (ilt x5 5000)) (pt := 98) rfl rfl rfl (fun _ => ?_) (fun _ => ?_)
    · refine sm_go 4 (s' := (77, ([lR 42, lI x4, lI x5], ([sI x5, sR 43, sI x4], (mSH r tl, (G2, nk)))))) ?_ rfl
      refine sm_ald rfl rfl fun v8 => ?_
      refine sm_letK1 (S := fun (g10 : Unit) (x9 : Int) => (90, ([lR 42, lI x4, lI x5], ([sI x9, sI x4], (mSH r tl, (G2, nk)))))) ?_ ?_
      · intro g10 x9
        exact sm_go 4 (hagain7 () (x4 + x9) (x5 + 1)) rfl
      · intro k11 hk11
        refine sm_go 2 (s' := (82, ([lR 42, lI x4, lI x5], ([sI (iAnd v8 1024), sI x4], (mSH r tl, (G2, nk)))))) ?_ rfl
        refine sm_if1n (t := (ieq (iAnd v8 1024) 0)) (pt := 89) rfl rfl rfl (fun _ => ?_) (fun _ => ?_)
        · exact sm_go 2 (hk11 () 0) rfl
        · exact sm_go 1 (hk11 () 1) rfl
    · refine sm_go 1 (s' := (99, ([lR 42, lI x4, lI x5], ([sI x4], (mSH r tl, (G2, nk)))))) ?_ rfl
      exact sm_retI rfl rfl rfl
  · intro k12 hk12
    refine sm_loop2 (S := fun (g15 : Option mV) (x13 : Int) (G14 : mG) => (10, ([lR 42, lI x13, g15], ([], (mSH r tl, (G14, nk)))))) ?_ LF (none) 0 G1
    intro again16 hagain16 g15 x13 G14
    refine sm_go 4 (s' := (18, ([lR 42, lI x13, g15], ([sI (G14 1 0), sI x13], (mSH r tl, (G14, nk)))))) ?_ rfl
    refine sm_if2n (t := (ilt x13 (G14 1 0))) (pt := 58) rfl rfl rfl (fun _ => ?_) (fun _ => ?_)
    · refine sm_go 2 (s' := (23, ([lR 42, lI x13, lI 0], ([], (mSH r tl, (G14, nk)))))) ?_ rfl
      refine sm_letK1 (S := fun (g18 : Option mV) (G17 : mG) => (52, ([lR 42, lI x13, g18], ([], (mSH r tl, (G17, nk)))))) ?_ ?_
      · intro g18 G17
        exact sm_go 2 (hagain16 (g18) (x13 + 1) G17) rfl
      · intro k19 hk19
        refine sm_loop2 (S := fun (g22 : Unit) (x20 : Int) (G21 : mG) => (23, ([lR 42, lI x13, lI x20], ([], (mSH r tl, (G21, nk)))))) ?_ LF () 0 G14
        intro again23 hagain23 g22 x20 G21
        refine sm_go 5 (s' := (32, ([lR 42, lI x13, lI x20], ([sI x13, sR 6, sI x20], (mSH r tl, (G21, nk)))))) ?_ rfl
        refine sm_ald rfl rfl fun v24 => ?_
        refine sm_if2n (t := (ilt x20 v24)) (pt := 52) rfl rfl rfl (fun _ => ?_) (fun _ => ?_)
        · refine sm_go 7 (s' := (43, ([lR 42, lI x13, lI x20], ([sI ((x13 * 5) + x20), sI x13, sR 42], (mSH r tl, (G21, nk)))))) ?_ rfl
          refine sm_callG (rest := []) (T_X2_markStep scr d r tl nk G21 x13 ((x13 * 5) + x20)) rfl (Or.inl rfl) rfl rfl rfl rfl (fun _ => rfl) (fun G25 => (46, ([lR 42, lI x13, lI x20], ([], (mSH r tl, (G25, nk)))))) (fun _ => rfl) fun G25 => ?_
          exact sm_go 2 (hagain23 () (x20 + 1) G25) rfl
        · exact hk19 (lI x20) G21
    · exact hk12 (lI x13, g15) G14
def P_X10_errors (G : mG) : Option (Int × mG) :=
bif (ieq (G 1 15) 0) then
some (0, G)
else
(P_X8_aimed 17 0 G).bind fun v1 =>
(P_X7_leastHours G).bind fun v2 =>
letK (fun (x3 : Int) =>
(P_X2_wrongHours G).bind fun z5 =>
some ((z5.1 + x3), z5.2)) fun k6 =>
bif (ilt v1 v2) then
k6 1
else
k6 0
set_option maxRecDepth 100000 in
theorem T_X10_errors (scr : mScr) (d : Nat) (r : List (Option Nat)) (tl : List mSh) (nk : Nat × Nat) (G : mG)  : SimC scr (d + 5) 118 [sR 0] (mSH r tl, (G, nk)) (e1I r tl nk) (P_X10_errors G) := by
  refine sm_callX (cs := mc_X10_errors) (maxL := 2) (rk := 0) (o := 10) (hs := []) (d := d + 4) [lR 0, none] rfl rfl rfl rfl ?_
  unfold P_X10_errors
  refine sm_go 3 (s' := (7, ([lR 0, none], ([sI (G 1 15)], (mSH r tl, (G, nk)))))) ?_ rfl
  refine sm_if1n (t := (ieq (G 1 15) 0)) (pt := 12) rfl rfl rfl (fun _ => ?_) (fun _ => ?_)
  · refine sm_go 1 (s' := (11, ([lR 0, none], ([sI 0], (mSH r tl, (G, nk)))))) ?_ rfl
    exact sm_retI rfl rfl rfl
  · refine sm_go 3 (s' := (17, ([lR 0, none], ([sI 0, sR 17], (mSH r tl, (G, nk)))))) ?_ rfl
    refine sm_callG (rest := []) (T_X8_aimed_17 scr d r tl nk G 0) rfl (Or.inl rfl) rfl rfl rfl rfl (fun _ => rfl) (fun v1 => (20, ([lR 0, none], ([sI v1], (mSH r tl, (G, nk)))))) (fun _ => rfl) fun v1 => ?_
    refine sm_go 2 (s' := (24, ([lR 0, none], ([sR 1, sI v1], (mSH r tl, (G, nk)))))) ?_ rfl
    refine sm_callG (rest := [sI v1]) (T_X7_leastHours scr (d + 2) r tl nk G) rfl (Or.inl rfl) rfl rfl rfl rfl (fun _ => rfl) (fun v2 => (27, ([lR 0, none], ([sI v2, sI v1], (mSH r tl, (G, nk)))))) (fun _ => rfl) fun v2 => ?_
    refine sm_letK1 (S := fun (g4 : Unit) (x3 : Int) => (35, ([lR 0, none], ([sI x3], (mSH r tl, (G, nk)))))) ?_ ?_
    · intro g4 x3
      refine sm_go 3 (s' := (40, ([lR 0, lI x3], ([sR 42], (mSH r tl, (G, nk)))))) ?_ rfl
      refine sm_callG (rest := []) (T_X2_wrongHours scr (d + 1) r tl nk G) rfl (Or.inl rfl) rfl rfl rfl rfl (fun _ => rfl) (fun z5 => (43, ([lR 0, lI x3], ([sI z5.1], (mSH r tl, (z5.2, nk)))))) (fun _ => rfl) fun z5 => ?_
      refine sm_go 2 (s' := (45, ([lR 0, lI x3], ([sI (z5.1 + x3)], (mSH r tl, (z5.2, nk)))))) ?_ rfl
      exact sm_retI rfl rfl rfl
    · intro k6 hk6
      refine sm_if2n (t := (ilt v1 v2)) (pt := 34) rfl rfl rfl (fun _ => ?_) (fun _ => ?_)
      · exact sm_go 2 (hk6 () 1) rfl
      · exact sm_go 1 (hk6 () 0) rfl
def P_X11_isClosed (p1 : Int) (p2 : Int) (G : mG) : Option (Bool) :=
loop2 LF (fun again6 (x3 : Int) (x4 : Int) =>
(ald G 57 282 (1 + (p1 * 11))).bind fun v7 =>
bif (ilt x4 v7) then
letK (fun (x9 : Int) =>
again6 x9 (x4 + 1)) fun k11 =>
letK (k11 1) fun k13 =>
bif (ieq x3 0) then
(ald G 57 282 (((1 + (p1 * 11)) + 1) + (2 * x4))).bind fun v14 =>
letK (k11 0) fun k16 =>
bif (ilt p2 v14) then
k16
else
(ald G 57 282 ((((1 + (p1 * 11)) + 1) + (2 * x4)) + 1)).bind fun v17 =>
bif (ilt p2 v17) then
k13
else
k16
else
k13
else
(retZ x3).bind fun b8 =>
some b8) 0 0
set_option maxRecDepth 100000 in
theorem T_X11_isClosed (scr : mScr) (d : Nat) (r : List (Option Nat)) (tl : List mSh) (nk : Nat × Nat) (G : mG)  (p1 : Int) (p2 : Int) : SimC scr (d + 1) 234 [sR 56, sI p1, sI p2] (mSH r tl, (G, nk)) (e0B (mSH r tl, (G, nk))) (P_X11_isClosed p1 p2 G) := by
  refine sm_callX (cs := mc_X11_isClosed) (maxL := 6) (rk := 1) (o := 11) (hs := []) (d := d + 0) [lR 56, lI p1, lI p2, none, none, none] rfl rfl rfl rfl ?_
  unfold P_X11_isClosed
  refine sm_go 4 (s' := (5, ([lR 56, lI p1, lI p2, lI 0, lI 0, none], ([], (mSH r tl, (G, nk)))))) ?_ rfl
  refine sm_loop2 (S := fun (g5 : Option mV) (x3 : Int) (x4 : Int) => (5, ([lR 56, lI p1, lI p2, lI x3, lI x4, g5], ([], (mSH r tl, (G, nk)))))) ?_ LF (none) 0 0
  intro again6 hagain6 g5 x3 x4
  refine sm_go 8 (s' := (17, ([lR 56, lI p1, lI p2, lI x3, lI x4, g5], ([sI (1 + (p1 * 11)), sR 57, sI x4], (mSH r tl, (G, nk)))))) ?_ rfl
  refine sm_ald rfl rfl fun v7 => ?_
  refine sm_if2n (t := (ilt x4 v7)) (pt := 76) rfl rfl rfl (fun _ => ?_) (fun _ => ?_)
  · refine sm_letK1 (S := fun (g10 : Unit) (x9 : Int) => (69, ([lR 56, lI p1, lI p2, lI x3, lI x4, lI (((1 + (p1 * 11)) + 1) + (2 * x4))], ([sI x9], (mSH r tl, (G, nk)))))) ?_ ?_
    · intro g10 x9
      exact sm_go 3 (hagain6 (lI (((1 + (p1 * 11)) + 1) + (2 * x4))) x9 (x4 + 1)) rfl
    · intro k11 hk11
      refine sm_letK0 (S := fun (g12 : Unit) => (64, ([lR 56, lI p1, lI p2, lI x3, lI x4, lI (((1 + (p1 * 11)) + 1) + (2 * x4))], ([], (mSH r tl, (G, nk)))))) ?_ ?_
      · intro g12
        exact sm_go 2 (hk11 () 1) rfl
      · intro k13 hk13
        refine sm_go 13 (s' := (37, ([lR 56, lI p1, lI p2, lI x3, lI x4, lI (((1 + (p1 * 11)) + 1) + (2 * x4))], ([sI x3], (mSH r tl, (G, nk)))))) ?_ rfl
        refine sm_if1n (t := (ieq x3 0)) (pt := 64) rfl rfl rfl (fun _ => ?_) (fun _ => ?_)
        · refine sm_go 3 (s' := (46, ([lR 56, lI p1, lI p2, lI x3, lI x4, lI (((1 + (p1 * 11)) + 1) + (2 * x4))], ([sI (((1 + (p1 * 11)) + 1) + (2 * x4)), sR 57], (mSH r tl, (G, nk)))))) ?_ rfl
          refine sm_ald rfl rfl fun v14 => ?_
          refine sm_letK0 (S := fun (g15 : Unit) => (68, ([lR 56, lI p1, lI p2, lI x3, lI x4, lI (((1 + (p1 * 11)) + 1) + (2 * x4))], ([], (mSH r tl, (G, nk)))))) ?_ ?_
          · intro g15
            exact sm_go 1 (hk11 () 0) rfl
          · intro k16 hk16
            refine sm_go 1 (s' := (48, ([lR 56, lI p1, lI p2, lI x3, lI x4, lI (((1 + (p1 * 11)) + 1) + (2 * x4))], ([sI p2, sI v14], (mSH r tl, (G, nk)))))) ?_ rfl
            refine sm_if2 (t := (ilt p2 v14)) (pt := 68) rfl rfl rfl (fun _ => ?_) (fun _ => ?_)
            · exact hk16 ()
            · refine sm_go 6 (s' := (60, ([lR 56, lI p1, lI p2, lI x3, lI x4, lI (((1 + (p1 * 11)) + 1) + (2 * x4))], ([sI ((((1 + (p1 * 11)) + 1) + (2 * x4)) + 1), sR 57, sI p2], (mSH r tl, (G, nk)))))) ?_ rfl
              refine sm_ald rfl rfl fun v17 => ?_
              refine sm_if2n (t := (ilt p2 v17)) (pt := 68) rfl rfl rfl (fun _ => ?_) (fun _ => ?_)
              · exact hk13 ()
              · exact hk16 ()
        · exact hk13 ()
  · refine sm_go 1 (s' := (77, ([lR 56, lI p1, lI p2, lI x3, lI x4, g5], ([sI x3], (mSH r tl, (G, nk)))))) ?_ rfl
    refine sm_retZ rfl fun b8 _ => ?_
    exact sm_retB1 rfl rfl
def P_X11_isWrong (p1 : Int) (G : mG) : Option (Bool) :=
loop3 LF (fun again6 (x2 : Int) (x3 : Int) (x4 : Int) =>
(ald G 57 282 0).bind fun v7 =>
bif (ilt x4 v7) then
letK (fun (x9 : Int) (x10 : Int) =>
again6 x9 x10 (x4 + 1)) fun k12 =>
loop4 LF (fun again18 (x13 : Int) (x14 : Int) (x15 : Int) (x16 : Int) =>
(P_X11_of x4 4 G).bind fun v19 =>
bif (ilt x16 v19) then
(P_X11_isDone x4 x16 p1 G).bind fun v20 =>
letK (fun (x21 : Int) (x22 : Int) (x23 : Int) =>
again18 x21 x22 x23 (x16 + 1)) fun k25 =>
bif v20 then
(P_X11_machineOf x4 x16 G).bind fun v26 =>
letK (fun (x27 : Int) =>
k25 (iOr x13 (iShl 1 v26)) x27 (x15 + 1)) fun k29 =>
letK (k29 1) fun k31 =>
bif (ieq x14 0) then
bif (ieq (iAnd (iShr x13 v26) 1) 1) then
k31
else
bif (ilt 0 x15) then
k31
else
(P_X11_isClosed v26 p1 G).bind fun v32 =>
bif v32 then
k31
else
k29 0
else
k31
else
k25 x13 x14 x15
else
k12 x13 x14) x2 x3 0 0
else
(retZ x3).bind fun b8 =>
some b8) 0 0 0
set_option maxRecDepth 100000 in
theorem T_X11_isWrong (scr : mScr) (d : Nat) (r : List (Option Nat)) (tl : List mSh) (nk : Nat × Nat) (G : mG)  (p1 : Int) : SimC scr (d + 5) 235 [sR 56, sI p1] (mSH r tl, (G, nk)) (e0B (mSH r tl, (G, nk))) (P_X11_isWrong p1 G) := by
  refine sm_callX (cs := mc_X11_isWrong) (maxL := 8) (rk := 1) (o := 11) (hs := []) (d := d + 4) [lR 56, lI p1, none, none, none, none, none, none] rfl rfl rfl rfl ?_
  unfold P_X11_isWrong
  refine sm_go 6 (s' := (7, ([lR 56, lI p1, lI 0, lI 0, lI 0, none, none, none], ([], (mSH r tl, (G, nk)))))) ?_ rfl
  refine sm_loop3 (S := fun (g5 : Option mV × Option mV × Option mV) (x2 : Int) (x3 : Int) (x4 : Int) => (7, ([lR 56, lI p1, lI x2, lI x3, lI x4, g5.1, g5.2.1, g5.2.2], ([], (mSH r tl, (G, nk)))))) ?_ LF (none, none, none) 0 0 0
  intro again6 hagain6 g5 x2 x3 x4
  refine sm_go 4 (s' := (14, ([lR 56, lI p1, lI x2, lI x3, lI x4, g5.1, g5.2.1, g5.2.2], ([sI 0, sR 57, sI x4], (mSH r tl, (G, nk)))))) ?_ rfl
  refine sm_ald rfl rfl fun v7 => ?_
  refine sm_if2n (t := (ilt x4 v7)) (pt := 118) rfl rfl rfl (fun _ => ?_) (fun _ => ?_)
  · refine sm_go 4 (s' := (24, ([lR 56, lI p1, lI x2, lI x3, lI x4, lI 0, lI 0, g5.2.2], ([], (mSH r tl, (G, nk)))))) ?_ rfl
    refine sm_letK2 (S := fun (g11 : Option mV × Option mV × Option mV) (x9 : Int) (x10 : Int) => (112, ([lR 56, lI p1, lI x9, lI x10, lI x4, g11.1, g11.2.1, g11.2.2], ([], (mSH r tl, (G, nk)))))) ?_ ?_
    · intro g11 x9 x10
      exact sm_go 2 (hagain6 (g11.1, g11.2.1, g11.2.2) x9 x10 (x4 + 1)) rfl
    · intro k12 hk12
      refine sm_loop4 (S := fun (g17 : Option mV) (x13 : Int) (x14 : Int) (x15 : Int) (x16 : Int) => (24, ([lR 56, lI p1, lI x13, lI x14, lI x4, lI x15, lI x16, g17], ([], (mSH r tl, (G, nk)))))) ?_ LF (g5.2.2) x2 x3 0 0
      intro again18 hagain18 g17 x13 x14 x15 x16
      refine sm_go 4 (s' := (30, ([lR 56, lI p1, lI x13, lI x14, lI x4, lI x15, lI x16, g17], ([sI 4, sI x4, sR 56, sI x16], (mSH r tl, (G, nk)))))) ?_ rfl
      refine sm_callG (rest := [sI x16]) (T_X11_of scr (d + 3) r tl nk G x4 4) rfl (Or.inl rfl) rfl rfl rfl rfl (fun _ => rfl) (fun v19 => (33, ([lR 56, lI p1, lI x13, lI x14, lI x4, lI x15, lI x16, g17], ([sI v19, sI x16], (mSH r tl, (G, nk)))))) (fun _ => rfl) fun v19 => ?_
      refine sm_if2n (t := (ilt x16 v19)) (pt := 112) rfl rfl rfl (fun _ => ?_) (fun _ => ?_)
      · refine sm_go 4 (s' := (42, ([lR 56, lI p1, lI x13, lI x14, lI x4, lI x15, lI x16, g17], ([sI p1, sI x16, sI x4, sR 56], (mSH r tl, (G, nk)))))) ?_ rfl
        refine sm_callG (rest := []) (T_X11_isDone scr d r tl nk G x4 x16 p1) rfl (Or.inl rfl) rfl rfl rfl rfl (fun _ => rfl) (fun v20 => (45, ([lR 56, lI p1, lI x13, lI x14, lI x4, lI x15, lI x16, g17], ([sI (b2i v20)], (mSH r tl, (G, nk)))))) (fun _ => rfl) fun v20 => ?_
        refine sm_letK3 (S := fun (g24 : Option mV) (x21 : Int) (x22 : Int) (x23 : Int) => (106, ([lR 56, lI p1, lI x21, lI x22, lI x4, lI x23, lI x16, g24], ([], (mSH r tl, (G, nk)))))) ?_ ?_
        · intro g24 x21 x22 x23
          exact sm_go 2 (hagain18 (g24) x21 x22 x23 (x16 + 1)) rfl
        · intro k25 hk25
          refine sm_if1 (t := v20) (pt := 51) (mCmpB_ne v20) rfl rfl (fun _ => ?_) (fun _ => ?_)
          · refine sm_go 3 (s' := (56, ([lR 56, lI p1, lI x13, lI x14, lI x4, lI x15, lI x16, g17], ([sI x16, sI x4, sR 56], (mSH r tl, (G, nk)))))) ?_ rfl
            refine sm_callG (rest := []) (T_X11_machineOf scr (d + 2) r tl nk G x4 x16) rfl (Or.inl rfl) rfl rfl rfl rfl (fun _ => rfl) (fun v26 => (59, ([lR 56, lI p1, lI x13, lI x14, lI x4, lI x15, lI x16, g17], ([sI v26], (mSH r tl, (G, nk)))))) (fun _ => rfl) fun v26 => ?_
            refine sm_letK1 (S := fun (g28 : Unit) (x27 : Int) => (95, ([lR 56, lI p1, lI x13, lI x14, lI x4, lI x15, lI x16, lI v26], ([sI x27], (mSH r tl, (G, nk)))))) ?_ ?_
            · intro g28 x27
              exact sm_go 8 (hk25 (lI v26) (iOr x13 (iShl 1 v26)) x27 (x15 + 1)) rfl
            · intro k29 hk29
              refine sm_letK0 (S := fun (g30 : Unit) => (90, ([lR 56, lI p1, lI x13, lI x14, lI x4, lI x15, lI x16, lI v26], ([], (mSH r tl, (G, nk)))))) ?_ ?_
              · intro g30
                exact sm_go 2 (hk29 () 1) rfl
              · intro k31 hk31
                refine sm_go 2 (s' := (62, ([lR 56, lI p1, lI x13, lI x14, lI x4, lI x15, lI x16, lI v26], ([sI x14], (mSH r tl, (G, nk)))))) ?_ rfl
                refine sm_if1n (t := (ieq x14 0)) (pt := 90) rfl rfl rfl (fun _ => ?_) (fun _ => ?_)
                · refine sm_go 6 (s' := (72, ([lR 56, lI p1, lI x13, lI x14, lI x4, lI x15, lI x16, lI v26], ([sI 1, sI (iAnd (iShr x13 v26) 1)], (mSH r tl, (G, nk)))))) ?_ rfl
                  refine sm_if2 (t := (ieq (iAnd (iShr x13 v26) 1) 1)) (pt := 90) rfl rfl rfl (fun _ => ?_) (fun _ => ?_)
                  · exact hk31 ()
                  · refine sm_go 1 (s' := (77, ([lR 56, lI p1, lI x13, lI x14, lI x4, lI x15, lI x16, lI v26], ([sI x15], (mSH r tl, (G, nk)))))) ?_ rfl
                    refine sm_if1 (t := (ilt 0 x15)) (pt := 90) rfl rfl rfl (fun _ => ?_) (fun _ => ?_)
                    · exact hk31 ()
                    · refine sm_go 3 (s' := (84, ([lR 56, lI p1, lI x13, lI x14, lI x4, lI x15, lI x16, lI v26], ([sI p1, sI v26, sR 56], (mSH r tl, (G, nk)))))) ?_ rfl
                      refine sm_callG (rest := []) (T_X11_isClosed scr (d + 3) r tl nk G v26 p1) rfl (Or.inl rfl) rfl rfl rfl rfl (fun _ => rfl) (fun v32 => (87, ([lR 56, lI p1, lI x13, lI x14, lI x4, lI x15, lI x16, lI v26], ([sI (b2i v32)], (mSH r tl, (G, nk)))))) (fun _ => rfl) fun v32 => ?_
                      refine sm_if1n (t := v32) (pt := 94) (mCmpB_eq v32) rfl rfl (fun _ => ?_) (fun _ => ?_)
                      · exact hk31 ()
                      · exact sm_go 1 (hk29 () 0) rfl
                · exact hk31 ()
          · exact sm_go 1 (hk25 (g17) x13 x14 x15) rfl
      · exact hk12 (lI x15, lI x16, g17) x13 x14
  · refine sm_go 1 (s' := (119, ([lR 56, lI p1, lI x2, lI x3, lI x4, g5.1, g5.2.1, g5.2.2], ([sI x3], (mSH r tl, (G, nk)))))) ?_ rfl
    refine sm_retZ rfl fun b8 _ => ?_
    exact sm_retB1 rfl rfl
def P_X11_errors (G : mG) : Option (Int × mG) :=
(pst G 56 3 0).bind fun G1 =>
(P_X11_isPlanned G1).bind fun z2 =>
bif z2.1 then
(P_X11_planEnd z2.2).bind fun v3 =>
(P_X11_bound z2.2).bind fun z4 =>
letK (fun (x5 : Int) =>
loop2 LF (fun again10 (x7 : Int) (x8 : Int) =>
bif (ilt x8 v3) then
(P_X11_isWrong x8 z4.2).bind fun v11 =>
letK (fun (x12 : Int) =>
again10 (x7 + x12) (x8 + 1)) fun k14 =>
bif v11 then
k14 1
else
k14 0
else
some (x7, z4.2)) x5 0) fun k15 =>
bif (ilt v3 z4.1) then
k15 1
else
k15 0
else
some (0, z2.2)
set_option maxRecDepth 100000 in
theorem T_X11_errors (scr : mScr) (d : Nat) (r : List (Option Nat)) (tl : List mSh) (nk : Nat × Nat) (G : mG)  : SimC scr (d + 7) 236 [sR 56] (mSH r tl, (G, nk)) (e1I r tl nk) (P_X11_errors G) := by
  refine sm_callX (cs := mc_X11_errors) (maxL := 4) (rk := 0) (o := 11) (hs := []) (d := d + 6) [lR 56, none, none, none] rfl rfl rfl rfl ?_
  unfold P_X11_errors
  refine sm_go 2 (s' := (2, ([lR 56, none, none, none], ([sI 0, sR 56], (mSH r tl, (G, nk)))))) ?_ rfl
  refine sm_pst rfl rfl rfl fun G1 => ?_
  refine sm_go 1 (s' := (6, ([lR 56, none, none, none], ([sR 56], (mSH r tl, (G1, nk)))))) ?_ rfl
  refine sm_callG (rest := []) (T_X11_isPlanned scr d r tl nk G1) rfl (Or.inl rfl) rfl rfl rfl rfl (fun _ => rfl) (fun z2 => (9, ([lR 56, none, none, none], ([sI (b2i z2.1)], (mSH r tl, (z2.2, nk)))))) (fun _ => rfl) fun z2 => ?_
  refine sm_if1 (t := z2.1) (pt := 14) (mCmpB_ne z2.1) rfl rfl (fun _ => ?_) (fun _ => ?_)
  · refine sm_go 1 (s' := (15, ([lR 56, none, none, none], ([sR 56], (mSH r tl, (z2.2, nk)))))) ?_ rfl
    refine sm_callG (rest := []) (T_X11_planEnd scr (d + 5) r tl nk z2.2) rfl (Or.inl rfl) rfl rfl rfl rfl (fun _ => rfl) (fun v3 => (18, ([lR 56, none, none, none], ([sI v3], (mSH r tl, (z2.2, nk)))))) (fun _ => rfl) fun v3 => ?_
    refine sm_go 3 (s' := (21, ([lR 56, lI v3, none, none], ([sR 56, sI v3], (mSH r tl, (z2.2, nk)))))) ?_ rfl
    refine sm_callG (rest := [sI v3]) (T_X11_bound scr (d + 1) r tl nk z2.2) rfl (Or.inl rfl) rfl rfl rfl rfl (fun _ => rfl) (fun z4 => (24, ([lR 56, lI v3, none, none], ([sI z4.1, sI v3], (mSH r tl, (z4.2, nk)))))) (fun _ => rfl) fun z4 => ?_
    refine sm_letK1 (S := fun (g6 : Unit) (x5 : Int) => (32, ([lR 56, lI v3, none, none], ([sI x5], (mSH r tl, (z4.2, nk)))))) ?_ ?_
    · intro g6 x5
      refine sm_go 3 (s' := (35, ([lR 56, lI v3, lI x5, lI 0], ([], (mSH r tl, (z4.2, nk)))))) ?_ rfl
      refine sm_loop2 (S := fun (g9 : Unit) (x7 : Int) (x8 : Int) => (35, ([lR 56, lI v3, lI x7, lI x8], ([], (mSH r tl, (z4.2, nk)))))) ?_ LF () x5 0
      intro again10 hagain10 g9 x7 x8
      refine sm_go 2 (s' := (37, ([lR 56, lI v3, lI x7, lI x8], ([sI v3, sI x8], (mSH r tl, (z4.2, nk)))))) ?_ rfl
      refine sm_if2n (t := (ilt x8 v3)) (pt := 62) rfl rfl rfl (fun _ => ?_) (fun _ => ?_)
      · refine sm_go 3 (s' := (43, ([lR 56, lI v3, lI x7, lI x8], ([sI x8, sR 56, sI x7], (mSH r tl, (z4.2, nk)))))) ?_ rfl
        refine sm_callG (rest := [sI x7]) (T_X11_isWrong scr (d + 1) r tl nk z4.2 x8) rfl (Or.inl rfl) rfl rfl rfl rfl (fun _ => rfl) (fun v11 => (46, ([lR 56, lI v3, lI x7, lI x8], ([sI (b2i v11), sI x7], (mSH r tl, (z4.2, nk)))))) (fun _ => rfl) fun v11 => ?_
        refine sm_letK1 (S := fun (g13 : Unit) (x12 : Int) => (54, ([lR 56, lI v3, lI x7, lI x8], ([sI x12, sI x7], (mSH r tl, (z4.2, nk)))))) ?_ ?_
        · intro g13 x12
          exact sm_go 4 (hagain10 () (x7 + x12) (x8 + 1)) rfl
        · intro k14 hk14
          refine sm_if1n (t := v11) (pt := 53) (mCmpB_eq v11) rfl rfl (fun _ => ?_) (fun _ => ?_)
          · exact sm_go 2 (hk14 () 1) rfl
          · exact sm_go 1 (hk14 () 0) rfl
      · refine sm_go 1 (s' := (63, ([lR 56, lI v3, lI x7, lI x8], ([sI x7], (mSH r tl, (z4.2, nk)))))) ?_ rfl
        exact sm_retI rfl rfl rfl
    · intro k15 hk15
      refine sm_if2n (t := (ilt v3 z4.1)) (pt := 31) rfl rfl rfl (fun _ => ?_) (fun _ => ?_)
      · exact sm_go 2 (hk15 () 1) rfl
      · exact sm_go 1 (hk15 () 0) rfl
  · refine sm_go 1 (s' := (13, ([lR 56, none, none, none], ([sI 0], (mSH r tl, (z2.2, nk)))))) ?_ rfl
    exact sm_retI rfl rfl rfl
def P_X7_copyFrom (q p : Nat) (G : mG) : Option (mG) :=
(pst G q 0 (G p 0)).bind fun G1 =>
(P_X7_copy (p + 1) 6 (q + 1) 6 G1).bind fun G2 =>
(P_X7_copy (p + 2) 6 (q + 2) 6 G2).bind fun G3 =>
(P_X7_copy (p + 3) 6 (q + 3) 6 G3).bind fun G4 =>
(P_X7_copy (p + 4) 6 (q + 4) 6 G4).bind fun G5 =>
(P_X7_copy (p + 5) 6 (q + 5) 6 G5).bind fun G6 =>
(P_X7_copy (p + 6) 30 (q + 6) 30 G6).bind fun G7 =>
(P_X7_copy (p + 7) 30 (q + 7) 30 G7).bind fun G8 =>
(P_X7_copy (p + 8) 4 (q + 8) 4 G8).bind fun G9 =>
(P_X7_copy (p + 9) 16 (q + 9) 16 G9).bind fun G10 =>
(P_X7_copy (p + 10) 16 (q + 10) 16 G10).bind fun G11 =>
(P_X7_copy (p + 11) 4 (q + 11) 4 G11).bind fun G12 =>
(P_X7_copy (p + 12) 4 (q + 12) 4 G12).bind fun G13 =>
(P_X7_copy (p + 13) 16 (q + 13) 16 G13).bind fun G14 =>
(P_X7_copy (p + 14) 6 (q + 14) 6 G14).bind fun G15 =>
(pstZ G15 q 15 (G15 p 15)).bind fun G16 =>
(P_X7_copy (p + 15) 30 (q + 15) 30 G16).bind fun G17 =>
some G17
set_option maxRecDepth 100000 in
theorem T_X7_copyFrom (scr : mScr) (d : Nat) (r : List (Option Nat)) (tl : List mSh) (nk : Nat × Nat) (G : mG) (q : Nat) (hq : mShop (mSH r tl) q) (p : Nat) (hp : mShop (mSH r tl) p)  : SimC scr (d + 2) 32 [sR q, sR p] (mSH r tl, (G, nk)) (e1U r tl nk) (P_X7_copyFrom q p G) := by
  obtain ⟨hq0, hq1, hq2, hq3, hq4, hq5, hq6, hq7, hq8, hq9, hq10, hq11, hq12, hq13, hq14, hq15⟩ := hq
  obtain ⟨hp0, hp1, hp2, hp3, hp4, hp5, hp6, hp7, hp8, hp9, hp10, hp11, hp12, hp13, hp14, hp15⟩ := hp
  refine sm_callX (cs := mc_X7_copyFrom) (maxL := 2) (rk := 0) (o := 7) (hs := []) (d := d + 1) [lR q, lR p] rfl (by simp only [mRecv, hq0, Nat.beq_refl, Bool.or_true]) rfl rfl ?_
  unfold P_X7_copyFrom
  refine sm_go 2 (s' := (2, ([lR q, lR p], ([sR p, sR q], (mSH r tl, (G, nk)))))) ?_ rfl
  refine sm_gf hp0 rfl rfl ?_
  refine sm_pst rfl hq0 rfl fun G1 => ?_
  refine sm_go 1 (s' := (9, ([lR q, lR p], ([sR p], (mSH r tl, (G1, nk)))))) ?_ rfl
  refine sm_gf hp0 rfl rfl ?_
  refine sm_go 1 (s' := (13, ([lR q, lR p], ([sR q, sR (p + 1)], (mSH r tl, (G1, nk)))))) ?_ rfl
  refine sm_gf hq0 rfl rfl ?_
  refine sm_callG (rest := []) (T_X7_copy scr d r tl nk G1 (p + 1) 6 hp1 (q + 1) 6 hq1) rfl (Or.inr (Or.inl rfl)) rfl rfl rfl rfl (fun _ => rfl) (fun G2 => (19, ([lR q, lR p], ([], (mSH r tl, (G2, nk)))))) (fun _ => rfl) fun G2 => ?_
  refine sm_go 1 (s' := (20, ([lR q, lR p], ([sR p], (mSH r tl, (G2, nk)))))) ?_ rfl
  refine sm_gf hp0 rfl rfl ?_
  refine sm_go 1 (s' := (24, ([lR q, lR p], ([sR q, sR (p + 2)], (mSH r tl, (G2, nk)))))) ?_ rfl
  refine sm_gf hq0 rfl rfl ?_
  refine sm_callG (rest := []) (T_X7_copy scr d r tl nk G2 (p + 2) 6 hp2 (q + 2) 6 hq2) rfl (Or.inr (Or.inl rfl)) rfl rfl rfl rfl (fun _ => rfl) (fun G3 => (30, ([lR q, lR p], ([], (mSH r tl, (G3, nk)))))) (fun _ => rfl) fun G3 => ?_
  refine sm_go 1 (s' := (31, ([lR q, lR p], ([sR p], (mSH r tl, (G3, nk)))))) ?_ rfl
  refine sm_gf hp0 rfl rfl ?_
  refine sm_go 1 (s' := (35, ([lR q, lR p], ([sR q, sR (p + 3)], (mSH r tl, (G3, nk)))))) ?_ rfl
  refine sm_gf hq0 rfl rfl ?_
  refine sm_callG (rest := []) (T_X7_copy scr d r tl nk G3 (p + 3) 6 hp3 (q + 3) 6 hq3) rfl (Or.inr (Or.inl rfl)) rfl rfl rfl rfl (fun _ => rfl) (fun G4 => (41, ([lR q, lR p], ([], (mSH r tl, (G4, nk)))))) (fun _ => rfl) fun G4 => ?_
  refine sm_go 1 (s' := (42, ([lR q, lR p], ([sR p], (mSH r tl, (G4, nk)))))) ?_ rfl
  refine sm_gf hp0 rfl rfl ?_
  refine sm_go 1 (s' := (46, ([lR q, lR p], ([sR q, sR (p + 4)], (mSH r tl, (G4, nk)))))) ?_ rfl
  refine sm_gf hq0 rfl rfl ?_
  refine sm_callG (rest := []) (T_X7_copy scr d r tl nk G4 (p + 4) 6 hp4 (q + 4) 6 hq4) rfl (Or.inr (Or.inl rfl)) rfl rfl rfl rfl (fun _ => rfl) (fun G5 => (52, ([lR q, lR p], ([], (mSH r tl, (G5, nk)))))) (fun _ => rfl) fun G5 => ?_
  refine sm_go 1 (s' := (53, ([lR q, lR p], ([sR p], (mSH r tl, (G5, nk)))))) ?_ rfl
  refine sm_gf hp0 rfl rfl ?_
  refine sm_go 1 (s' := (57, ([lR q, lR p], ([sR q, sR (p + 5)], (mSH r tl, (G5, nk)))))) ?_ rfl
  refine sm_gf hq0 rfl rfl ?_
  refine sm_callG (rest := []) (T_X7_copy scr d r tl nk G5 (p + 5) 6 hp5 (q + 5) 6 hq5) rfl (Or.inr (Or.inl rfl)) rfl rfl rfl rfl (fun _ => rfl) (fun G6 => (63, ([lR q, lR p], ([], (mSH r tl, (G6, nk)))))) (fun _ => rfl) fun G6 => ?_
  refine sm_go 1 (s' := (64, ([lR q, lR p], ([sR p], (mSH r tl, (G6, nk)))))) ?_ rfl
  refine sm_gf hp0 rfl rfl ?_
  refine sm_go 1 (s' := (68, ([lR q, lR p], ([sR q, sR (p + 6)], (mSH r tl, (G6, nk)))))) ?_ rfl
  refine sm_gf hq0 rfl rfl ?_
  refine sm_callG (rest := []) (T_X7_copy scr d r tl nk G6 (p + 6) 30 hp6 (q + 6) 30 hq6) rfl (Or.inr (Or.inl rfl)) rfl rfl rfl rfl (fun _ => rfl) (fun G7 => (74, ([lR q, lR p], ([], (mSH r tl, (G7, nk)))))) (fun _ => rfl) fun G7 => ?_
  refine sm_go 1 (s' := (75, ([lR q, lR p], ([sR p], (mSH r tl, (G7, nk)))))) ?_ rfl
  refine sm_gf hp0 rfl rfl ?_
  refine sm_go 1 (s' := (79, ([lR q, lR p], ([sR q, sR (p + 7)], (mSH r tl, (G7, nk)))))) ?_ rfl
  refine sm_gf hq0 rfl rfl ?_
  refine sm_callG (rest := []) (T_X7_copy scr d r tl nk G7 (p + 7) 30 hp7 (q + 7) 30 hq7) rfl (Or.inr (Or.inl rfl)) rfl rfl rfl rfl (fun _ => rfl) (fun G8 => (85, ([lR q, lR p], ([], (mSH r tl, (G8, nk)))))) (fun _ => rfl) fun G8 => ?_
  refine sm_go 1 (s' := (86, ([lR q, lR p], ([sR p], (mSH r tl, (G8, nk)))))) ?_ rfl
  refine sm_gf hp0 rfl rfl ?_
  refine sm_go 1 (s' := (90, ([lR q, lR p], ([sR q, sR (p + 8)], (mSH r tl, (G8, nk)))))) ?_ rfl
  refine sm_gf hq0 rfl rfl ?_
  refine sm_callG (rest := []) (T_X7_copy scr d r tl nk G8 (p + 8) 4 hp8 (q + 8) 4 hq8) rfl (Or.inr (Or.inl rfl)) rfl rfl rfl rfl (fun _ => rfl) (fun G9 => (96, ([lR q, lR p], ([], (mSH r tl, (G9, nk)))))) (fun _ => rfl) fun G9 => ?_
  refine sm_go 1 (s' := (97, ([lR q, lR p], ([sR p], (mSH r tl, (G9, nk)))))) ?_ rfl
  refine sm_gf hp0 rfl rfl ?_
  refine sm_go 1 (s' := (101, ([lR q, lR p], ([sR q, sR (p + 9)], (mSH r tl, (G9, nk)))))) ?_ rfl
  refine sm_gf hq0 rfl rfl ?_
  refine sm_callG (rest := []) (T_X7_copy scr d r tl nk G9 (p + 9) 16 hp9 (q + 9) 16 hq9) rfl (Or.inr (Or.inl rfl)) rfl rfl rfl rfl (fun _ => rfl) (fun G10 => (107, ([lR q, lR p], ([], (mSH r tl, (G10, nk)))))) (fun _ => rfl) fun G10 => ?_
  refine sm_go 1 (s' := (108, ([lR q, lR p], ([sR p], (mSH r tl, (G10, nk)))))) ?_ rfl
  refine sm_gf hp0 rfl rfl ?_
  refine sm_go 1 (s' := (112, ([lR q, lR p], ([sR q, sR (p + 10)], (mSH r tl, (G10, nk)))))) ?_ rfl
  refine sm_gf hq0 rfl rfl ?_
  refine sm_callG (rest := []) (T_X7_copy scr d r tl nk G10 (p + 10) 16 hp10 (q + 10) 16 hq10) rfl (Or.inr (Or.inl rfl)) rfl rfl rfl rfl (fun _ => rfl) (fun G11 => (118, ([lR q, lR p], ([], (mSH r tl, (G11, nk)))))) (fun _ => rfl) fun G11 => ?_
  refine sm_go 1 (s' := (119, ([lR q, lR p], ([sR p], (mSH r tl, (G11, nk)))))) ?_ rfl
  refine sm_gf hp0 rfl rfl ?_
  refine sm_go 1 (s' := (123, ([lR q, lR p], ([sR q, sR (p + 11)], (mSH r tl, (G11, nk)))))) ?_ rfl
  refine sm_gf hq0 rfl rfl ?_
  refine sm_callG (rest := []) (T_X7_copy scr d r tl nk G11 (p + 11) 4 hp11 (q + 11) 4 hq11) rfl (Or.inr (Or.inl rfl)) rfl rfl rfl rfl (fun _ => rfl) (fun G12 => (129, ([lR q, lR p], ([], (mSH r tl, (G12, nk)))))) (fun _ => rfl) fun G12 => ?_
  refine sm_go 1 (s' := (130, ([lR q, lR p], ([sR p], (mSH r tl, (G12, nk)))))) ?_ rfl
  refine sm_gf hp0 rfl rfl ?_
  refine sm_go 1 (s' := (134, ([lR q, lR p], ([sR q, sR (p + 12)], (mSH r tl, (G12, nk)))))) ?_ rfl
  refine sm_gf hq0 rfl rfl ?_
  refine sm_callG (rest := []) (T_X7_copy scr d r tl nk G12 (p + 12) 4 hp12 (q + 12) 4 hq12) rfl (Or.inr (Or.inl rfl)) rfl rfl rfl rfl (fun _ => rfl) (fun G13 => (140, ([lR q, lR p], ([], (mSH r tl, (G13, nk)))))) (fun _ => rfl) fun G13 => ?_
  refine sm_go 1 (s' := (141, ([lR q, lR p], ([sR p], (mSH r tl, (G13, nk)))))) ?_ rfl
  refine sm_gf hp0 rfl rfl ?_
  refine sm_go 1 (s' := (145, ([lR q, lR p], ([sR q, sR (p + 13)], (mSH r tl, (G13, nk)))))) ?_ rfl
  refine sm_gf hq0 rfl rfl ?_
  refine sm_callG (rest := []) (T_X7_copy scr d r tl nk G13 (p + 13) 16 hp13 (q + 13) 16 hq13) rfl (Or.inr (Or.inl rfl)) rfl rfl rfl rfl (fun _ => rfl) (fun G14 => (151, ([lR q, lR p], ([], (mSH r tl, (G14, nk)))))) (fun _ => rfl) fun G14 => ?_
  refine sm_go 1 (s' := (152, ([lR q, lR p], ([sR p], (mSH r tl, (G14, nk)))))) ?_ rfl
  refine sm_gf hp0 rfl rfl ?_
  refine sm_go 1 (s' := (156, ([lR q, lR p], ([sR q, sR (p + 14)], (mSH r tl, (G14, nk)))))) ?_ rfl
  refine sm_gf hq0 rfl rfl ?_
  refine sm_callG (rest := []) (T_X7_copy scr d r tl nk G14 (p + 14) 6 hp14 (q + 14) 6 hq14) rfl (Or.inr (Or.inl rfl)) rfl rfl rfl rfl (fun _ => rfl) (fun G15 => (162, ([lR q, lR p], ([], (mSH r tl, (G15, nk)))))) (fun _ => rfl) fun G15 => ?_
  refine sm_go 2 (s' := (164, ([lR q, lR p], ([sR p, sR q], (mSH r tl, (G15, nk)))))) ?_ rfl
  refine sm_gf hp0 rfl rfl ?_
  refine sm_pstZ rfl hq0 rfl fun G16 => ?_
  refine sm_go 1 (s' := (171, ([lR q, lR p], ([sR p], (mSH r tl, (G16, nk)))))) ?_ rfl
  refine sm_gf hp0 rfl rfl ?_
  refine sm_go 1 (s' := (175, ([lR q, lR p], ([sR q, sR (p + 15)], (mSH r tl, (G16, nk)))))) ?_ rfl
  refine sm_gf hq0 rfl rfl ?_
  refine sm_callG (rest := []) (T_X7_copy scr d r tl nk G16 (p + 15) 30 hp15 (q + 15) 30 hq15) rfl (Or.inr (Or.inl rfl)) rfl rfl rfl rfl (fun _ => rfl) (fun G17 => (181, ([lR q, lR p], ([], (mSH r tl, (G17, nk)))))) (fun _ => rfl) fun G17 => ?_
  exact sm_retU rfl rfl
