/-! ===== programs as functions, 25 9: printed by wip/whole/gen/gen_p_out.py ===== -/
def P_X11_block (p1 : Int) (G : mG) : Option (Int × mG) :=
(P_X11_laysWay G).bind fun G2 =>
letK (fun (x3 : Int) (x4 : Int) =>
bif (ieq p1 0) then
some (x3, G2)
else
some (x4, G2)) fun k6 =>
loop4 LF (fun again12 (x7 : Int) (x8 : Int) (x9 : Int) (x10 : Int) =>
bif (ilt x10 (G2 56 19)) then
letK (fun (x13 : Int) =>
letK (fun (x15 : Int) =>
letK (fun (x17 : Int) =>
again12 (x7 + x17) (iMax x8 x15) x15 (x10 + 1)) fun k19 =>
bif (ieq x13 0) then
k19 1
else
k19 0) fun k20 =>
bif (ieq x13 0) then
k20 1
else
k20 (x9 + 1)) fun k21 =>
letK (k21 0) fun k23 =>
bif (ilt 0 x10) then
(ald G2 73 30 x10).bind fun v24 =>
(ald G2 73 30 x10).bind fun v25 =>
(P_X11_machineOf (iDiv v24 10) (iRem v25 10) G2).bind fun v26 =>
(ald G2 73 30 (x10 - 1)).bind fun v27 =>
(ald G2 73 30 (x10 - 1)).bind fun v28 =>
(P_X11_machineOf (iDiv v27 10) (iRem v28 10) G2).bind fun v29 =>
bif (ieq v26 v29) then
k21 1
else
k23
else
k23
else
k6 x7 x8) 0 0 0 0
set_option maxRecDepth 100000 in
theorem T_X11_block (scr : mScr) (d : Nat) (r : List (Option Nat)) (tl : List mSh) (nk : Nat × Nat) (G : mG)  (p1 : Int) : SimC scr (d + 6) 205 [sR 56, sI p1] (mSH r tl, (G, nk)) (e1I r tl nk) (P_X11_block p1 G) := by
  refine sm_callX (cs := mc_X11_block) (maxL := 7) (rk := 0) (o := 11) (hs := []) (d := d + 5) [lR 56, lI p1, none, none, none, none, none] rfl rfl rfl rfl ?_
  unfold P_X11_block
  refine sm_go 1 (s' := (1, ([lR 56, lI p1, none, none, none, none, none], ([sR 56], (mSH r tl, (G, nk)))))) ?_ rfl
  refine sm_callG (rest := []) (T_X11_laysWay scr d r tl nk G) rfl (Or.inl rfl) rfl rfl rfl rfl (fun _ => rfl) (fun G2 => (4, ([lR 56, lI p1, none, none, none, none, none], ([], (mSH r tl, (G2, nk)))))) (fun _ => rfl) fun G2 => ?_
  refine sm_go 8 (s' := (14, ([lR 56, lI p1, lI 0, lI 0, lI 0, lI 0, none], ([], (mSH r tl, (G2, nk)))))) ?_ rfl
  refine sm_letK2 (S := fun (g5 : Option mV × Option mV × Option mV) (x3 : Int) (x4 : Int) => (131, ([lR 56, lI p1, lI x3, lI x4, g5.1, g5.2.1, g5.2.2], ([], (mSH r tl, (G2, nk)))))) ?_ ?_
  · intro g5 x3 x4
    refine sm_go 1 (s' := (132, ([lR 56, lI p1, lI x3, lI x4, g5.1, g5.2.1, g5.2.2], ([sI p1], (mSH r tl, (G2, nk)))))) ?_ rfl
    refine sm_if1 (t := (ieq p1 0)) (pt := 139) rfl rfl rfl (fun _ => ?_) (fun _ => ?_)
    · refine sm_go 1 (s' := (140, ([lR 56, lI p1, lI x3, lI x4, g5.1, g5.2.1, g5.2.2], ([sI x3], (mSH r tl, (G2, nk)))))) ?_ rfl
      exact sm_retI rfl rfl rfl
    · refine sm_go 2 (s' := (140, ([lR 56, lI p1, lI x3, lI x4, g5.1, g5.2.1, g5.2.2], ([sI x4], (mSH r tl, (G2, nk)))))) ?_ rfl
      exact sm_retI rfl rfl rfl
  · intro k6 hk6
    refine sm_loop4 (S := fun (g11 : Option mV) (x7 : Int) (x8 : Int) (x9 : Int) (x10 : Int) => (14, ([lR 56, lI p1, lI x7, lI x8, lI x9, lI x10, g11], ([], (mSH r tl, (G2, nk)))))) ?_ LF (none) 0 0 0 0
    intro again12 hagain12 g11 x7 x8 x9 x10
    refine sm_go 3 (s' := (20, ([lR 56, lI p1, lI x7, lI x8, lI x9, lI x10, g11], ([sI (G2 56 19), sI x10], (mSH r tl, (G2, nk)))))) ?_ rfl
    refine sm_if2n (t := (ilt x10 (G2 56 19))) (pt := 131) rfl rfl rfl (fun _ => ?_) (fun _ => ?_)
    · refine sm_letK1 (S := fun (g14 : Unit) (x13 : Int) => (88, ([lR 56, lI p1, lI x7, lI x8, lI x9, lI x10, g11], ([sI x13], (mSH r tl, (G2, nk)))))) ?_ ?_
      · intro g14 x13
        refine sm_letK1 (S := fun (g16 : Unit) (x15 : Int) => (103, ([lR 56, lI p1, lI x7, lI x8, lI x9, lI x10, lI x13], ([sI x15], (mSH r tl, (G2, nk)))))) ?_ ?_
        · intro g16 x15
          refine sm_letK1 (S := fun (g18 : Unit) (x17 : Int) => (116, ([lR 56, lI p1, lI x7, lI x8, lI x15, lI x10, lI x13], ([sI x17, sI x7], (mSH r tl, (G2, nk)))))) ?_ ?_
          · intro g18 x17
            exact sm_go 8 (hagain12 (lI x13) (x7 + x17) (iMax x8 x15) x15 (x10 + 1)) rfl
          · intro k19 hk19
            refine sm_go 3 (s' := (108, ([lR 56, lI p1, lI x7, lI x8, lI x15, lI x10, lI x13], ([sI x13, sI x7], (mSH r tl, (G2, nk)))))) ?_ rfl
            refine sm_if1 (t := (ieq x13 0)) (pt := 115) rfl rfl rfl (fun _ => ?_) (fun _ => ?_)
            · exact sm_go 1 (hk19 () 1) rfl
            · exact sm_go 2 (hk19 () 0) rfl
        · intro k20 hk20
          refine sm_go 2 (s' := (92, ([lR 56, lI p1, lI x7, lI x8, lI x9, lI x10, lI x13], ([sI x13], (mSH r tl, (G2, nk)))))) ?_ rfl
          refine sm_if1 (t := (ieq x13 0)) (pt := 102) rfl rfl rfl (fun _ => ?_) (fun _ => ?_)
          · exact sm_go 1 (hk20 () 1) rfl
          · exact sm_go 4 (hk20 () (x9 + 1)) rfl
      · intro k21 hk21
        refine sm_letK0 (S := fun (g22 : Unit) => (87, ([lR 56, lI p1, lI x7, lI x8, lI x9, lI x10, g11], ([], (mSH r tl, (G2, nk)))))) ?_ ?_
        · intro g22
          exact sm_go 1 (hk21 () 0) rfl
        · intro k23 hk23
          refine sm_go 1 (s' := (25, ([lR 56, lI p1, lI x7, lI x8, lI x9, lI x10, g11], ([sI x10], (mSH r tl, (G2, nk)))))) ?_ rfl
          refine sm_if1n (t := (ilt 0 x10)) (pt := 87) rfl rfl rfl (fun _ => ?_) (fun _ => ?_)
          · refine sm_go 4 (s' := (35, ([lR 56, lI p1, lI x7, lI x8, lI x9, lI x10, g11], ([sI x10, sR 73, sR 56], (mSH r tl, (G2, nk)))))) ?_ rfl
            refine sm_ald rfl rfl fun v24 => ?_
            refine sm_go 5 (s' := (45, ([lR 56, lI p1, lI x7, lI x8, lI x9, lI x10, g11], ([sI x10, sR 73, sI (iDiv v24 10), sR 56], (mSH r tl, (G2, nk)))))) ?_ rfl
            refine sm_ald rfl rfl fun v25 => ?_
            refine sm_go 2 (s' := (49, ([lR 56, lI p1, lI x7, lI x8, lI x9, lI x10, g11], ([sI (iRem v25 10), sI (iDiv v24 10), sR 56], (mSH r tl, (G2, nk)))))) ?_ rfl
            refine sm_callG (rest := []) (T_X11_machineOf scr (d + 3) r tl nk G2 (iDiv v24 10) (iRem v25 10)) rfl (Or.inl rfl) rfl rfl rfl rfl (fun _ => rfl) (fun v26 => (52, ([lR 56, lI p1, lI x7, lI x8, lI x9, lI x10, g11], ([sI v26], (mSH r tl, (G2, nk)))))) (fun _ => rfl) fun v26 => ?_
            refine sm_go 6 (s' := (61, ([lR 56, lI p1, lI x7, lI x8, lI x9, lI x10, g11], ([sI (x10 - 1), sR 73, sR 56, sI v26], (mSH r tl, (G2, nk)))))) ?_ rfl
            refine sm_ald rfl rfl fun v27 => ?_
            refine sm_go 7 (s' := (73, ([lR 56, lI p1, lI x7, lI x8, lI x9, lI x10, g11], ([sI (x10 - 1), sR 73, sI (iDiv v27 10), sR 56, sI v26], (mSH r tl, (G2, nk)))))) ?_ rfl
            refine sm_ald rfl rfl fun v28 => ?_
            refine sm_go 2 (s' := (77, ([lR 56, lI p1, lI x7, lI x8, lI x9, lI x10, g11], ([sI (iRem v28 10), sI (iDiv v27 10), sR 56, sI v26], (mSH r tl, (G2, nk)))))) ?_ rfl
            refine sm_callG (rest := [sI v26]) (T_X11_machineOf scr (d + 3) r tl nk G2 (iDiv v27 10) (iRem v28 10)) rfl (Or.inl rfl) rfl rfl rfl rfl (fun _ => rfl) (fun v29 => (80, ([lR 56, lI p1, lI x7, lI x8, lI x9, lI x10, g11], ([sI v29, sI v26], (mSH r tl, (G2, nk)))))) (fun _ => rfl) fun v29 => ?_
            refine sm_if2n (t := (ieq v26 v29)) (pt := 87) rfl rfl rfl (fun _ => ?_) (fun _ => ?_)
            · exact sm_go 2 (hk21 () 1) rfl
            · exact hk23 ()
          · exact hk23 ()
    · exact hk6 (lI x9, lI x10, g11) x7 x8
def P_X11_blocks (G : mG) : Option (Int × mG) :=
(P_X11_isPlanned G).bind fun z1 =>
(P_X11_fits (b2i z1.1) 1 1 z1.2).bind fun z2 =>
bif z2.1 then
(P_X11_block 0 z2.2).bind fun z3 =>
some (z3.1, z3.2)
else
some (0, z2.2)
set_option maxRecDepth 100000 in
theorem T_X11_blocks (scr : mScr) (d : Nat) (r : List (Option Nat)) (tl : List mSh) (nk : Nat × Nat) (G : mG)  : SimC scr (d + 7) 206 [sR 56] (mSH r tl, (G, nk)) (e1I r tl nk) (P_X11_blocks G) := by
  refine sm_callX (cs := mc_X11_blocks) (maxL := 1) (rk := 0) (o := 11) (hs := []) (d := d + 6) [lR 56] rfl rfl rfl rfl ?_
  unfold P_X11_blocks
  refine sm_go 2 (s' := (2, ([lR 56], ([sR 56, sR 56], (mSH r tl, (G, nk)))))) ?_ rfl
  refine sm_callG (rest := [sR 56]) (T_X11_isPlanned scr d r tl nk G) rfl (Or.inl rfl) rfl rfl rfl rfl (fun _ => rfl) (fun z1 => (5, ([lR 56], ([sI (b2i z1.1), sR 56], (mSH r tl, (z1.2, nk)))))) (fun _ => rfl) fun z1 => ?_
  refine sm_go 2 (s' := (7, ([lR 56], ([sI 1, sI 1, sI (b2i z1.1), sR 56], (mSH r tl, (z1.2, nk)))))) ?_ rfl
  refine sm_callG (rest := []) (T_X11_fits scr (d + 5) r tl nk z1.2 (b2i z1.1) 1 1) rfl (Or.inl rfl) rfl rfl rfl rfl (fun _ => rfl) (fun z2 => (10, ([lR 56], ([sI (b2i z2.1)], (mSH r tl, (z2.2, nk)))))) (fun _ => rfl) fun z2 => ?_
  refine sm_if1n (t := z2.1) (pt := 21) (mCmpB_eq z2.1) rfl rfl (fun _ => ?_) (fun _ => ?_)
  · refine sm_go 2 (s' := (15, ([lR 56], ([sI 0, sR 56], (mSH r tl, (z2.2, nk)))))) ?_ rfl
    refine sm_callG (rest := []) (T_X11_block scr d r tl nk z2.2 0) rfl (Or.inl rfl) rfl rfl rfl rfl (fun _ => rfl) (fun z3 => (18, ([lR 56], ([sI z3.1], (mSH r tl, (z3.2, nk)))))) (fun _ => rfl) fun z3 => ?_
    refine sm_go 1 (s' := (22, ([lR 56], ([sI z3.1], (mSH r tl, (z3.2, nk)))))) ?_ rfl
    exact sm_retI rfl rfl rfl
  · refine sm_go 1 (s' := (22, ([lR 56], ([sI 0], (mSH r tl, (z2.2, nk)))))) ?_ rfl
    exact sm_retI rfl rfl rfl
noncomputable def P_X10_longestBlock (W : mW) : Option ((Int ⊕ Nat) × mW) :=
thrB (P_X10_needPlan W) fun v1 W2 =>
(P_X9_trace W2.2.2.1).bind fun G3 =>
some (.inl (G3 40 5), (W2.1, (W2.2.1, (G3, W2.2.2.2))))
set_option maxRecDepth 100000 in
theorem T_X10_longestBlock (scr : mScr) (d : Nat) (W : mW)  : SimC scr (d + 4) 101 [sR 0] (mkM W) (e2I) (P_X10_longestBlock W) := by
  refine sm_callX (cs := mc_X10_longestBlock) (maxL := 1) (rk := 0) (o := 10) (hs := []) (d := d + 3) [lR 0] rfl rfl rfl rfl ?_
  unfold P_X10_longestBlock
  refine sm_go 1 (s' := (1, ([lR 0], ([sR 0], (mSH W.1 W.2.1, (W.2.2.1, W.2.2.2)))))) ?_ rfl
  refine sm_thr (rest := []) (T_X10_needPlan scr (d + 2) W) rfl (Or.inl rfl) rfl rfl rfl rfl (fun _ _ => rfl) (fun _ _ => rfl) (fun v1 W2 => (4, ([lR 0], ([], (mSH W2.1 W2.2.1, (W2.2.2.1, W2.2.2.2)))))) (fun _ _ => rfl) fun v1 W2 => ?_
  refine sm_go 2 (s' := (8, ([lR 0], ([sR 40], (mSH W2.1 W2.2.1, (W2.2.2.1, W2.2.2.2)))))) ?_ rfl
  refine sm_callG (rest := []) (T_X9_trace scr d W2.1 W2.2.1 W2.2.2.2 W2.2.2.1) rfl (Or.inl rfl) rfl rfl rfl rfl (fun _ => rfl) (fun G3 => (11, ([lR 0], ([], (mSH W2.1 W2.2.1, (G3, W2.2.2.2)))))) (fun _ => rfl) fun G3 => ?_
  refine sm_go 3 (s' := (18, ([lR 0], ([sI (G3 40 5)], (mSH W2.1 W2.2.1, (G3, W2.2.2.2)))))) ?_ rfl
  exact sm_retI rfl rfl rfl
noncomputable def P_L_longestBlock (W : mW) : Option ((Int ⊕ Nat) × mW) :=
ctcB (P_X10_longestBlock W) (fun v1 W2 =>
(ast W2.2.2.1 74 1 0 (w32 v1)).bind fun G4 =>
some (.inl 0, (W2.1, (W2.2.1, (G4, W2.2.2.2))))) (fun _ => none) (fun _ => none) (fun W3 =>
some (.inl 1, W3))
set_option maxRecDepth 100000 in
theorem T_L_longestBlock (scr : mScr) (d : Nat) (W : mW)  : SimC scr (d + 5) 265 [sR 0, sR 74] (mkM W) (e2I) (P_L_longestBlock W) := by
  refine sm_callX (cs := mc_L_longestBlock) (maxL := 3) (rk := 0) (o := 112) (hs := [(0, (8, (11, 2)))]) (d := d + 4) [lR 0, lR 74, none] rfl rfl rfl rfl ?_
  unfold P_L_longestBlock
  refine sm_go 3 (s' := (3, ([lR 0, lR 74, none], ([sR 0, sI 0, sR 74], (mSH W.1 W.2.1, (W.2.2.1, W.2.2.2)))))) ?_ rfl
  refine sm_ctc (rest := [sI 0, sR 74]) (T_X10_longestBlock scr d W) rfl (Or.inl rfl) rfl rfl rfl rfl (fun _ _ => rfl) (fun v1 W2 => (6, ([lR 0, lR 74, none], ([sI v1, sI 0, sR 74], (mSH W2.1 W2.2.1, (W2.2.2.1, W2.2.2.2)))))) (fun _ _ => rfl) (fun v1 W2 => ?_) (Or.inr rfl) (Or.inr rfl) (Or.inl ⟨11, rfl, fun W3 => ?_⟩)
  · refine sm_go 1 (s' := (7, ([lR 0, lR 74, none], ([sL (w32 v1), sI 0, sR 74], (mSH W2.1 W2.2.1, (W2.2.2.1, W2.2.2.2)))))) ?_ rfl
    refine sm_lst rfl rfl fun G4 => ?_
    refine sm_go 1 (s' := (14, ([lR 0, lR 74, none], ([], (mSH W2.1 W2.2.1, (G4, W2.2.2.2)))))) ?_ rfl
    refine sm_go 1 (s' := (15, ([lR 0, lR 74, none], ([sI 0], (mSH W2.1 W2.2.1, (G4, W2.2.2.2)))))) ?_ rfl
    exact sm_retI rfl rfl rfl
  · refine sm_go 2 (s' := (13, ([lR 0, lR 74, lO], ([sI 1], (mSH W3.1 W3.2.1, (W3.2.2.1, W3.2.2.2)))))) ?_ rfl
    exact sm_retI rfl rfl rfl
def P_X11_longestBlock (G : mG) : Option (Int × mG) :=
(P_X11_isPlanned G).bind fun z1 =>
(P_X11_fits (b2i z1.1) 1 1 z1.2).bind fun z2 =>
bif z2.1 then
(P_X11_block 1 z2.2).bind fun z3 =>
some (z3.1, z3.2)
else
some (0, z2.2)
set_option maxRecDepth 100000 in
theorem T_X11_longestBlock (scr : mScr) (d : Nat) (r : List (Option Nat)) (tl : List mSh) (nk : Nat × Nat) (G : mG)  : SimC scr (d + 7) 207 [sR 56] (mSH r tl, (G, nk)) (e1I r tl nk) (P_X11_longestBlock G) := by
  refine sm_callX (cs := mc_X11_longestBlock) (maxL := 1) (rk := 0) (o := 11) (hs := []) (d := d + 6) [lR 56] rfl rfl rfl rfl ?_
  unfold P_X11_longestBlock
  refine sm_go 2 (s' := (2, ([lR 56], ([sR 56, sR 56], (mSH r tl, (G, nk)))))) ?_ rfl
  refine sm_callG (rest := [sR 56]) (T_X11_isPlanned scr d r tl nk G) rfl (Or.inl rfl) rfl rfl rfl rfl (fun _ => rfl) (fun z1 => (5, ([lR 56], ([sI (b2i z1.1), sR 56], (mSH r tl, (z1.2, nk)))))) (fun _ => rfl) fun z1 => ?_
  refine sm_go 2 (s' := (7, ([lR 56], ([sI 1, sI 1, sI (b2i z1.1), sR 56], (mSH r tl, (z1.2, nk)))))) ?_ rfl
  refine sm_callG (rest := []) (T_X11_fits scr (d + 5) r tl nk z1.2 (b2i z1.1) 1 1) rfl (Or.inl rfl) rfl rfl rfl rfl (fun _ => rfl) (fun z2 => (10, ([lR 56], ([sI (b2i z2.1)], (mSH r tl, (z2.2, nk)))))) (fun _ => rfl) fun z2 => ?_
  refine sm_if1n (t := z2.1) (pt := 21) (mCmpB_eq z2.1) rfl rfl (fun _ => ?_) (fun _ => ?_)
  · refine sm_go 2 (s' := (15, ([lR 56], ([sI 1, sR 56], (mSH r tl, (z2.2, nk)))))) ?_ rfl
    refine sm_callG (rest := []) (T_X11_block scr d r tl nk z2.2 1) rfl (Or.inl rfl) rfl rfl rfl rfl (fun _ => rfl) (fun z3 => (18, ([lR 56], ([sI z3.1], (mSH r tl, (z3.2, nk)))))) (fun _ => rfl) fun z3 => ?_
    refine sm_go 1 (s' := (22, ([lR 56], ([sI z3.1], (mSH r tl, (z3.2, nk)))))) ?_ rfl
    exact sm_retI rfl rfl rfl
  · refine sm_go 1 (s' := (22, ([lR 56], ([sI 0], (mSH r tl, (z2.2, nk)))))) ?_ rfl
    exact sm_retI rfl rfl rfl
noncomputable def P_X10_slack (p1 : Int) (p2 : Int) (W : mW) : Option ((Int ⊕ Nat) × mW) :=
thrB (P_X10_needStep p1 p2 W) fun v3 W4 =>
thrB (P_X10_needPlan W4) fun v5 W6 =>
(P_X8_aimed 17 0 W6.2.2.1).bind fun v7 =>
loop3 LF (fun again12 (x8 : Int) (x9 : Int) (G10 : mG) =>
bif (ilt 0 x9) then
letK (fun (x13 : Int) (G14 : mG) =>
again12 x13 (iDiv x9 2) G14) fun k16 =>
bif (ilt 1000 (x8 + x9)) then
k16 x8 G10
else
(ald G10 22 30 ((p1 * 5) + p2)).bind fun v17 =>
(P_X8_putDelayed 26 ((p1 * 5) + p2) ((v17 + x8) + x9) G10).bind fun G18 =>
(P_X8_aimed 26 0 G18).bind fun v19 =>
bif (ilt v7 v19) then
k16 x8 G18
else
k16 (x8 + x9) G18
else
some (.inl x8, (W6.1, (W6.2.1, (G10, W6.2.2.2))))) 0 512 W6.2.2.1
set_option maxRecDepth 100000 in
theorem T_X10_slack (scr : mScr) (d : Nat) (W : mW)  (p1 : Int) (p2 : Int) : SimC scr (d + 6) 102 [sR 0, sI p1, sI p2] (mkM W) (e2I) (P_X10_slack p1 p2 W) := by
  refine sm_callX (cs := mc_X10_slack) (maxL := 7) (rk := 0) (o := 10) (hs := []) (d := d + 5) [lR 0, lI p1, lI p2, none, none, none, none] rfl rfl rfl rfl ?_
  unfold P_X10_slack
  refine sm_go 3 (s' := (3, ([lR 0, lI p1, lI p2, none, none, none, none], ([sI p2, sI p1, sR 0], (mSH W.1 W.2.1, (W.2.2.1, W.2.2.2)))))) ?_ rfl
  refine sm_thr (rest := []) (T_X10_needStep scr (d + 3) W p1 p2) rfl (Or.inl rfl) rfl rfl rfl rfl (fun _ _ => rfl) (fun _ _ => rfl) (fun v3 W4 => (6, ([lR 0, lI p1, lI p2, none, none, none, none], ([], (mSH W4.1 W4.2.1, (W4.2.2.1, W4.2.2.2)))))) (fun _ _ => rfl) fun v3 W4 => ?_
  refine sm_go 1 (s' := (7, ([lR 0, lI p1, lI p2, none, none, none, none], ([sR 0], (mSH W4.1 W4.2.1, (W4.2.2.1, W4.2.2.2)))))) ?_ rfl
  refine sm_thr (rest := []) (T_X10_needPlan scr (d + 4) W4) rfl (Or.inl rfl) rfl rfl rfl rfl (fun _ _ => rfl) (fun _ _ => rfl) (fun v5 W6 => (10, ([lR 0, lI p1, lI p2, none, none, none, none], ([], (mSH W6.1 W6.2.1, (W6.2.2.1, W6.2.2.2)))))) (fun _ _ => rfl) fun v5 W6 => ?_
  refine sm_go 9 (s' := (21, ([lR 0, lI p1, lI p2, lI ((p1 * 5) + p2), none, none, none], ([sI 0, sR 17], (mSH W6.1 W6.2.1, (W6.2.2.1, W6.2.2.2)))))) ?_ rfl
  refine sm_callG (rest := []) (T_X8_aimed_17 scr (d + 1) W6.1 W6.2.1 W6.2.2.2 W6.2.2.1 0) rfl (Or.inl rfl) rfl rfl rfl rfl (fun _ => rfl) (fun v7 => (24, ([lR 0, lI p1, lI p2, lI ((p1 * 5) + p2), none, none, none], ([sI v7], (mSH W6.1 W6.2.1, (W6.2.2.1, W6.2.2.2)))))) (fun _ => rfl) fun v7 => ?_
  refine sm_go 5 (s' := (34, ([lR 0, lI p1, lI p2, lI ((p1 * 5) + p2), lI v7, lI 0, lI 512], ([], (mSH W6.1 W6.2.1, (W6.2.2.1, W6.2.2.2)))))) ?_ rfl
  refine sm_loop3 (S := fun (g11 : Unit) (x8 : Int) (x9 : Int) (G10 : mG) => (34, ([lR 0, lI p1, lI p2, lI ((p1 * 5) + p2), lI v7, lI x8, lI x9], ([], (mSH W6.1 W6.2.1, (G10, W6.2.2.2)))))) ?_ LF () 0 512 W6.2.2.1
  intro again12 hagain12 g11 x8 x9 G10
  refine sm_go 1 (s' := (36, ([lR 0, lI p1, lI p2, lI ((p1 * 5) + p2), lI v7, lI x8, lI x9], ([sI x9], (mSH W6.1 W6.2.1, (G10, W6.2.2.2)))))) ?_ rfl
  refine sm_if1n (t := (ilt 0 x9)) (pt := 102) rfl rfl rfl (fun _ => ?_) (fun _ => ?_)
  · refine sm_letK2 (S := fun (g15 : Unit) (x13 : Int) (G14 : mG) => (93, ([lR 0, lI p1, lI p2, lI ((p1 * 5) + p2), lI v7, lI x13, lI x9], ([], (mSH W6.1 W6.2.1, (G14, W6.2.2.2)))))) ?_ ?_
    · intro g15 x13 G14
      exact sm_go 5 (hagain12 () x13 (iDiv x9 2) G14) rfl
    · intro k16 hk16
      refine sm_go 4 (s' := (47, ([lR 0, lI p1, lI p2, lI ((p1 * 5) + p2), lI v7, lI x8, lI x9], ([sI 1000, sI (x8 + x9)], (mSH W6.1 W6.2.1, (G10, W6.2.2.2)))))) ?_ rfl
      refine sm_if2 (t := (ilt 1000 (x8 + x9))) (pt := 93) rfl rfl rfl (fun _ => ?_) (fun _ => ?_)
      · exact hk16 () x8 G10
      · refine sm_go 7 (s' := (63, ([lR 0, lI p1, lI p2, lI ((p1 * 5) + p2), lI v7, lI x8, lI x9], ([sI ((p1 * 5) + p2), sR 22, sI ((p1 * 5) + p2), sR 26], (mSH W6.1 W6.2.1, (G10, W6.2.2.2)))))) ?_ rfl
        refine sm_ald rfl rfl fun v17 => ?_
        refine sm_go 4 (s' := (70, ([lR 0, lI p1, lI p2, lI ((p1 * 5) + p2), lI v7, lI x8, lI x9], ([sI ((v17 + x8) + x9), sI ((p1 * 5) + p2), sR 26], (mSH W6.1 W6.2.1, (G10, W6.2.2.2)))))) ?_ rfl
        refine sm_callG (rest := []) (T_X8_putDelayed_26 scr d W6.1 W6.2.1 W6.2.2.2 G10 ((p1 * 5) + p2) ((v17 + x8) + x9)) rfl (Or.inl rfl) rfl rfl rfl rfl (fun _ => rfl) (fun G18 => (73, ([lR 0, lI p1, lI p2, lI ((p1 * 5) + p2), lI v7, lI x8, lI x9], ([], (mSH W6.1 W6.2.1, (G18, W6.2.2.2)))))) (fun _ => rfl) fun G18 => ?_
        refine sm_go 3 (s' := (78, ([lR 0, lI p1, lI p2, lI ((p1 * 5) + p2), lI v7, lI x8, lI x9], ([sI 0, sR 26], (mSH W6.1 W6.2.1, (G18, W6.2.2.2)))))) ?_ rfl
        refine sm_callG (rest := []) (T_X8_aimed_26 scr (d + 1) W6.1 W6.2.1 W6.2.2.2 G18 0) rfl (Or.inl rfl) rfl rfl rfl rfl (fun _ => rfl) (fun v19 => (81, ([lR 0, lI p1, lI p2, lI ((p1 * 5) + p2), lI v7, lI x8, lI x9], ([sI v19], (mSH W6.1 W6.2.1, (G18, W6.2.2.2)))))) (fun _ => rfl) fun v19 => ?_
        refine sm_go 1 (s' := (83, ([lR 0, lI p1, lI p2, lI ((p1 * 5) + p2), lI v7, lI x8, lI x9], ([sI v7, sI v19], (mSH W6.1 W6.2.1, (G18, W6.2.2.2)))))) ?_ rfl
        refine sm_if2 (t := (ilt v7 v19)) (pt := 93) rfl rfl rfl (fun _ => ?_) (fun _ => ?_)
        · exact hk16 () x8 G18
        · exact sm_go 4 (hk16 () (x8 + x9) G18) rfl
  · refine sm_go 1 (s' := (104, ([lR 0, lI p1, lI p2, lI ((p1 * 5) + p2), lI v7, lI x8, lI x9], ([sI x8], (mSH W6.1 W6.2.1, (G10, W6.2.2.2)))))) ?_ rfl
    exact sm_retI rfl rfl rfl
noncomputable def P_L_slack (p1 : Int) (p2 : Int) (W : mW) : Option ((Int ⊕ Nat) × mW) :=
ctcB (P_X10_slack p1 p2 W) (fun v3 W4 =>
(ast W4.2.2.1 74 1 0 (w32 v3)).bind fun G7 =>
some (.inl 0, (W4.1, (W4.2.1, (G7, W4.2.2.2))))) (fun W5 =>
some (.inl 1, W5)) (fun _ => none) (fun W6 =>
some (.inl 2, W6))
set_option maxRecDepth 100000 in
theorem T_L_slack (scr : mScr) (d : Nat) (W : mW)  (p1 : Int) (p2 : Int) : SimC scr (d + 7) 266 [sR 0, sI p1, sI p2, sR 74] (mkM W) (e2I) (P_L_slack p1 p2 W) := by
  refine sm_callX (cs := mc_L_slack) (maxL := 5) (rk := 0) (o := 112) (hs := [(0, (10, (13, 0))), (0, (10, (17, 2)))]) (d := d + 6) [lR 0, lI p1, lI p2, lR 74, none] rfl rfl rfl rfl ?_
  unfold P_L_slack
  refine sm_go 5 (s' := (5, ([lR 0, lI p1, lI p2, lR 74, none], ([sI p2, sI p1, sR 0, sI 0, sR 74], (mSH W.1 W.2.1, (W.2.2.1, W.2.2.2)))))) ?_ rfl
  refine sm_ctc (rest := [sI 0, sR 74]) (T_X10_slack scr d W p1 p2) rfl (Or.inl rfl) rfl rfl rfl rfl (fun _ _ => rfl) (fun v3 W4 => (8, ([lR 0, lI p1, lI p2, lR 74, none], ([sI v3, sI 0, sR 74], (mSH W4.1 W4.2.1, (W4.2.2.1, W4.2.2.2)))))) (fun _ _ => rfl) (fun v3 W4 => ?_) (Or.inl ⟨13, rfl, fun W5 => ?_⟩) (Or.inr rfl) (Or.inl ⟨17, rfl, fun W6 => ?_⟩)
  · refine sm_go 1 (s' := (9, ([lR 0, lI p1, lI p2, lR 74, none], ([sL (w32 v3), sI 0, sR 74], (mSH W4.1 W4.2.1, (W4.2.2.1, W4.2.2.2)))))) ?_ rfl
    refine sm_lst rfl rfl fun G7 => ?_
    refine sm_go 1 (s' := (21, ([lR 0, lI p1, lI p2, lR 74, none], ([], (mSH W4.1 W4.2.1, (G7, W4.2.2.2)))))) ?_ rfl
    refine sm_go 1 (s' := (22, ([lR 0, lI p1, lI p2, lR 74, none], ([sI 0], (mSH W4.1 W4.2.1, (G7, W4.2.2.2)))))) ?_ rfl
    exact sm_retI rfl rfl rfl
  · refine sm_go 2 (s' := (16, ([lR 0, lI p1, lI p2, lR 74, lO], ([sI 1], (mSH W5.1 W5.2.1, (W5.2.2.1, W5.2.2.2)))))) ?_ rfl
    exact sm_retI rfl rfl rfl
  · refine sm_go 2 (s' := (20, ([lR 0, lI p1, lI p2, lR 74, lO], ([sI 2], (mSH W6.1 W6.2.1, (W6.2.2.1, W6.2.2.2)))))) ?_ rfl
    exact sm_retI rfl rfl rfl
def P_X11_slack (p1 : Int) (p2 : Int) (G : mG) : Option (Int × mG) :=
(P_X11_isStep p1 p2 G).bind fun v3 =>
(P_X11_isPlanned G).bind fun z4 =>
(P_X11_fits (b2i v3) (b2i z4.1) 1 z4.2).bind fun z5 =>
bif z5.1 then
(P_X11_planEnd z5.2).bind fun v6 =>
loop2 LF (fun again10 (x7 : Int) (G8 : mG) =>
bif (ilt x7 1000) then
(P_X11_worksOut 57 282 152 ((10 * p1) + p2) (x7 + 1) G8).bind fun z11 =>
bif z11.1 then
(P_X11_planEnd z11.2).bind fun v12 =>
bif (ilt v6 v12) then
some (x7, z11.2)
else
again10 (x7 + 1) z11.2
else
some (x7, z11.2)
else
some (x7, G8)) 0 z5.2
else
some (0, z5.2)
set_option maxRecDepth 100000 in
theorem T_X11_slack (scr : mScr) (d : Nat) (r : List (Option Nat)) (tl : List mSh) (nk : Nat × Nat) (G : mG)  (p1 : Int) (p2 : Int) : SimC scr (d + 7) 208 [sR 56, sI p1, sI p2] (mSH r tl, (G, nk)) (e1I r tl nk) (P_X11_slack p1 p2 G) := by
  refine sm_callX (cs := mc_X11_slack) (maxL := 5) (rk := 0) (o := 11) (hs := []) (d := d + 6) [lR 56, lI p1, lI p2, none, none] rfl rfl rfl rfl ?_
  unfold P_X11_slack
  refine sm_go 4 (s' := (4, ([lR 56, lI p1, lI p2, none, none], ([sI p2, sI p1, sR 56, sR 56], (mSH r tl, (G, nk)))))) ?_ rfl
  refine sm_callG (rest := [sR 56]) (T_X11_isStep scr (d + 3) r tl nk G p1 p2) rfl (Or.inl rfl) rfl rfl rfl rfl (fun _ => rfl) (fun v3 => (7, ([lR 56, lI p1, lI p2, none, none], ([sI (b2i v3), sR 56], (mSH r tl, (G, nk)))))) (fun _ => rfl) fun v3 => ?_
  refine sm_go 1 (s' := (8, ([lR 56, lI p1, lI p2, none, none], ([sR 56, sI (b2i v3), sR 56], (mSH r tl, (G, nk)))))) ?_ rfl
  refine sm_callG (rest := [sI (b2i v3), sR 56]) (T_X11_isPlanned scr d r tl nk G) rfl (Or.inl rfl) rfl rfl rfl rfl (fun _ => rfl) (fun z4 => (11, ([lR 56, lI p1, lI p2, none, none], ([sI (b2i z4.1), sI (b2i v3), sR 56], (mSH r tl, (z4.2, nk)))))) (fun _ => rfl) fun z4 => ?_
  refine sm_go 1 (s' := (12, ([lR 56, lI p1, lI p2, none, none], ([sI 1, sI (b2i z4.1), sI (b2i v3), sR 56], (mSH r tl, (z4.2, nk)))))) ?_ rfl
  refine sm_callG (rest := []) (T_X11_fits scr (d + 5) r tl nk z4.2 (b2i v3) (b2i z4.1) 1) rfl (Or.inl rfl) rfl rfl rfl rfl (fun _ => rfl) (fun z5 => (15, ([lR 56, lI p1, lI p2, none, none], ([sI (b2i z5.1)], (mSH r tl, (z5.2, nk)))))) (fun _ => rfl) fun z5 => ?_
  refine sm_if1 (t := z5.1) (pt := 20) (mCmpB_ne z5.1) rfl rfl (fun _ => ?_) (fun _ => ?_)
  · refine sm_go 1 (s' := (21, ([lR 56, lI p1, lI p2, none, none], ([sR 56], (mSH r tl, (z5.2, nk)))))) ?_ rfl
    refine sm_callG (rest := []) (T_X11_planEnd scr (d + 5) r tl nk z5.2) rfl (Or.inl rfl) rfl rfl rfl rfl (fun _ => rfl) (fun v6 => (24, ([lR 56, lI p1, lI p2, none, none], ([sI v6], (mSH r tl, (z5.2, nk)))))) (fun _ => rfl) fun v6 => ?_
    refine sm_go 3 (s' := (28, ([lR 56, lI p1, lI p2, lI v6, lI 0], ([], (mSH r tl, (z5.2, nk)))))) ?_ rfl
    refine sm_loop2 (S := fun (g9 : Unit) (x7 : Int) (G8 : mG) => (28, ([lR 56, lI p1, lI p2, lI v6, lI x7], ([], (mSH r tl, (G8, nk)))))) ?_ LF () 0 z5.2
    intro again10 hagain10 g9 x7 G8
    refine sm_go 2 (s' := (33, ([lR 56, lI p1, lI p2, lI v6, lI x7], ([sI 1000, sI x7], (mSH r tl, (G8, nk)))))) ?_ rfl
    refine sm_if2n (t := (ilt x7 1000)) (pt := 74) rfl rfl rfl (fun _ => ?_) (fun _ => ?_)
    · refine sm_go 12 (s' := (54, ([lR 56, lI p1, lI p2, lI v6, lI x7], ([sI (x7 + 1), sI ((10 * p1) + p2), sI 152, sR 57, sR 56], (mSH r tl, (G8, nk)))))) ?_ rfl
      refine sm_callG (rest := []) (T_X11_worksOut_57 scr (d + 2) r tl nk G8 152 ((10 * p1) + p2) (x7 + 1)) rfl (Or.inl rfl) rfl rfl rfl rfl (fun _ => rfl) (fun z11 => (57, ([lR 56, lI p1, lI p2, lI v6, lI x7], ([sI (b2i z11.1)], (mSH r tl, (z11.2, nk)))))) (fun _ => rfl) fun z11 => ?_
      refine sm_if1n (t := z11.1) (pt := 74) (mCmpB_eq z11.1) rfl rfl (fun _ => ?_) (fun _ => ?_)
      · refine sm_go 1 (s' := (61, ([lR 56, lI p1, lI p2, lI v6, lI x7], ([sR 56], (mSH r tl, (z11.2, nk)))))) ?_ rfl
        refine sm_callG (rest := []) (T_X11_planEnd scr (d + 5) r tl nk z11.2) rfl (Or.inl rfl) rfl rfl rfl rfl (fun _ => rfl) (fun v12 => (64, ([lR 56, lI p1, lI p2, lI v6, lI x7], ([sI v12], (mSH r tl, (z11.2, nk)))))) (fun _ => rfl) fun v12 => ?_
        refine sm_go 1 (s' := (65, ([lR 56, lI p1, lI p2, lI v6, lI x7], ([sI v6, sI v12], (mSH r tl, (z11.2, nk)))))) ?_ rfl
        refine sm_if2 (t := (ilt v6 v12)) (pt := 74) rfl rfl rfl (fun _ => ?_) (fun _ => ?_)
        · refine sm_go 1 (s' := (76, ([lR 56, lI p1, lI p2, lI v6, lI x7], ([sI x7], (mSH r tl, (z11.2, nk)))))) ?_ rfl
          exact sm_retI rfl rfl rfl
        · exact sm_go 2 (hagain10 () (x7 + 1) z11.2) rfl
      · refine sm_go 1 (s' := (76, ([lR 56, lI p1, lI p2, lI v6, lI x7], ([sI x7], (mSH r tl, (z11.2, nk)))))) ?_ rfl
        exact sm_retI rfl rfl rfl
    · refine sm_go 1 (s' := (76, ([lR 56, lI p1, lI p2, lI v6, lI x7], ([sI x7], (mSH r tl, (G8, nk)))))) ?_ rfl
      exact sm_retI rfl rfl rfl
  · refine sm_go 1 (s' := (19, ([lR 56, lI p1, lI p2, none, none], ([sI 0], (mSH r tl, (z5.2, nk)))))) ?_ rfl
    exact sm_retI rfl rfl rfl
noncomputable def P_X10_delay (p1 : Int) (p2 : Int) (W : mW) : Option ((Int ⊕ Nat) × mW) :=
thrB (P_X10_needJob p1 W) fun v3 W4 =>
thrB (P_X10_needJob p2 W4) fun v5 W6 =>
thrB (P_X10_needPlan W6) fun v7 W8 =>
(P_X8_putRushed 26 p1 W8.2.2.1).bind fun G9 =>
(P_X8_leastEndOf 26 p2 G9).bind fun v10 =>
(P_X8_leastEndOf 17 p2 G9).bind fun v11 =>
some (.inl (v10 - v11), (W8.1, (W8.2.1, (G9, W8.2.2.2))))
set_option maxRecDepth 100000 in
theorem T_X10_delay (scr : mScr) (d : Nat) (W : mW)  (p1 : Int) (p2 : Int) : SimC scr (d + 6) 103 [sR 0, sI p1, sI p2] (mkM W) (e2I) (P_X10_delay p1 p2 W) := by
  refine sm_callX (cs := mc_X10_delay) (maxL := 3) (rk := 0) (o := 10) (hs := []) (d := d + 5) [lR 0, lI p1, lI p2] rfl rfl rfl rfl ?_
  unfold P_X10_delay
  refine sm_go 2 (s' := (2, ([lR 0, lI p1, lI p2], ([sI p1, sR 0], (mSH W.1 W.2.1, (W.2.2.1, W.2.2.2)))))) ?_ rfl
  refine sm_thr (rest := []) (T_X10_needJob scr (d + 4) W p1) rfl (Or.inl rfl) rfl rfl rfl rfl (fun _ _ => rfl) (fun _ _ => rfl) (fun v3 W4 => (5, ([lR 0, lI p1, lI p2], ([], (mSH W4.1 W4.2.1, (W4.2.2.1, W4.2.2.2)))))) (fun _ _ => rfl) fun v3 W4 => ?_
  refine sm_go 2 (s' := (7, ([lR 0, lI p1, lI p2], ([sI p2, sR 0], (mSH W4.1 W4.2.1, (W4.2.2.1, W4.2.2.2)))))) ?_ rfl
  refine sm_thr (rest := []) (T_X10_needJob scr (d + 4) W4 p2) rfl (Or.inl rfl) rfl rfl rfl rfl (fun _ _ => rfl) (fun _ _ => rfl) (fun v5 W6 => (10, ([lR 0, lI p1, lI p2], ([], (mSH W6.1 W6.2.1, (W6.2.2.1, W6.2.2.2)))))) (fun _ _ => rfl) fun v5 W6 => ?_
  refine sm_go 1 (s' := (11, ([lR 0, lI p1, lI p2], ([sR 0], (mSH W6.1 W6.2.1, (W6.2.2.1, W6.2.2.2)))))) ?_ rfl
  refine sm_thr (rest := []) (T_X10_needPlan scr (d + 4) W6) rfl (Or.inl rfl) rfl rfl rfl rfl (fun _ _ => rfl) (fun _ _ => rfl) (fun v7 W8 => (14, ([lR 0, lI p1, lI p2], ([], (mSH W8.1 W8.2.1, (W8.2.2.1, W8.2.2.2)))))) (fun _ _ => rfl) fun v7 W8 => ?_
  refine sm_go 3 (s' := (19, ([lR 0, lI p1, lI p2], ([sI p1, sR 26], (mSH W8.1 W8.2.1, (W8.2.2.1, W8.2.2.2)))))) ?_ rfl
  refine sm_callG (rest := []) (T_X8_putRushed_26 scr d W8.1 W8.2.1 W8.2.2.2 W8.2.2.1 p1) rfl (Or.inl rfl) rfl rfl rfl rfl (fun _ => rfl) (fun G9 => (22, ([lR 0, lI p1, lI p2], ([], (mSH W8.1 W8.2.1, (G9, W8.2.2.2)))))) (fun _ => rfl) fun G9 => ?_
  refine sm_go 3 (s' := (27, ([lR 0, lI p1, lI p2], ([sI p2, sR 26], (mSH W8.1 W8.2.1, (G9, W8.2.2.2)))))) ?_ rfl
  refine sm_callG (rest := []) (T_X8_leastEndOf_26 scr (d + 2) W8.1 W8.2.1 W8.2.2.2 G9 p2) rfl (Or.inl rfl) rfl rfl rfl rfl (fun _ => rfl) (fun v10 => (30, ([lR 0, lI p1, lI p2], ([sI v10], (mSH W8.1 W8.2.1, (G9, W8.2.2.2)))))) (fun _ => rfl) fun v10 => ?_
  refine sm_go 3 (s' := (35, ([lR 0, lI p1, lI p2], ([sI p2, sR 17, sI v10], (mSH W8.1 W8.2.1, (G9, W8.2.2.2)))))) ?_ rfl
  refine sm_callG (rest := [sI v10]) (T_X8_leastEndOf_17 scr (d + 2) W8.1 W8.2.1 W8.2.2.2 G9 p2) rfl (Or.inl rfl) rfl rfl rfl rfl (fun _ => rfl) (fun v11 => (38, ([lR 0, lI p1, lI p2], ([sI v11, sI v10], (mSH W8.1 W8.2.1, (G9, W8.2.2.2)))))) (fun _ => rfl) fun v11 => ?_
  refine sm_go 1 (s' := (39, ([lR 0, lI p1, lI p2], ([sI (v10 - v11)], (mSH W8.1 W8.2.1, (G9, W8.2.2.2)))))) ?_ rfl
  exact sm_retI rfl rfl rfl
noncomputable def P_L_delay (p1 : Int) (p2 : Int) (W : mW) : Option ((Int ⊕ Nat) × mW) :=
ctcB (P_X10_delay p1 p2 W) (fun v3 W4 =>
(ast W4.2.2.1 74 1 0 (w32 v3)).bind fun G7 =>
some (.inl 0, (W4.1, (W4.2.1, (G7, W4.2.2.2))))) (fun W5 =>
some (.inl 1, W5)) (fun _ => none) (fun W6 =>
some (.inl 2, W6))
set_option maxRecDepth 100000 in
theorem T_L_delay (scr : mScr) (d : Nat) (W : mW)  (p1 : Int) (p2 : Int) : SimC scr (d + 7) 267 [sR 0, sI p1, sI p2, sR 74] (mkM W) (e2I) (P_L_delay p1 p2 W) := by
  refine sm_callX (cs := mc_L_delay) (maxL := 5) (rk := 0) (o := 112) (hs := [(0, (10, (13, 0))), (0, (10, (17, 2)))]) (d := d + 6) [lR 0, lI p1, lI p2, lR 74, none] rfl rfl rfl rfl ?_
  unfold P_L_delay
  refine sm_go 5 (s' := (5, ([lR 0, lI p1, lI p2, lR 74, none], ([sI p2, sI p1, sR 0, sI 0, sR 74], (mSH W.1 W.2.1, (W.2.2.1, W.2.2.2)))))) ?_ rfl
  refine sm_ctc (rest := [sI 0, sR 74]) (T_X10_delay scr d W p1 p2) rfl (Or.inl rfl) rfl rfl rfl rfl (fun _ _ => rfl) (fun v3 W4 => (8, ([lR 0, lI p1, lI p2, lR 74, none], ([sI v3, sI 0, sR 74], (mSH W4.1 W4.2.1, (W4.2.2.1, W4.2.2.2)))))) (fun _ _ => rfl) (fun v3 W4 => ?_) (Or.inl ⟨13, rfl, fun W5 => ?_⟩) (Or.inr rfl) (Or.inl ⟨17, rfl, fun W6 => ?_⟩)
  · refine sm_go 1 (s' := (9, ([lR 0, lI p1, lI p2, lR 74, none], ([sL (w32 v3), sI 0, sR 74], (mSH W4.1 W4.2.1, (W4.2.2.1, W4.2.2.2)))))) ?_ rfl
    refine sm_lst rfl rfl fun G7 => ?_
    refine sm_go 1 (s' := (21, ([lR 0, lI p1, lI p2, lR 74, none], ([], (mSH W4.1 W4.2.1, (G7, W4.2.2.2)))))) ?_ rfl
    refine sm_go 1 (s' := (22, ([lR 0, lI p1, lI p2, lR 74, none], ([sI 0], (mSH W4.1 W4.2.1, (G7, W4.2.2.2)))))) ?_ rfl
    exact sm_retI rfl rfl rfl
  · refine sm_go 2 (s' := (16, ([lR 0, lI p1, lI p2, lR 74, lO], ([sI 1], (mSH W5.1 W5.2.1, (W5.2.2.1, W5.2.2.2)))))) ?_ rfl
    exact sm_retI rfl rfl rfl
  · refine sm_go 2 (s' := (20, ([lR 0, lI p1, lI p2, lR 74, lO], ([sI 2], (mSH W6.1 W6.2.1, (W6.2.2.1, W6.2.2.2)))))) ?_ rfl
    exact sm_retI rfl rfl rfl
def P_X11_delay (p1 : Int) (p2 : Int) (G : mG) : Option (Int × mG) :=
(P_X11_isJob p1 G).bind fun v3 =>
letK (fun (x4 : Int) =>
(P_X11_isPlanned G).bind fun z6 =>
(P_X11_fits x4 (b2i z6.1) 1 z6.2).bind fun z7 =>
bif z7.1 then
(ald z7.2 61 6 p2).bind fun v8 =>
(P_X11_laysRushed p1 z7.2).bind fun G9 =>
(P_X11_worksOut 66 124 0 (-1) 0 G9).bind fun z10 =>
(ald z10.2 61 6 p2).bind fun v11 =>
some ((v11 - v8), z10.2)
else
some (0, z7.2)) fun k12 =>
letK (k12 0) fun k14 =>
bif v3 then
(P_X11_isJob p2 G).bind fun v15 =>
bif v15 then
k12 1
else
k14
else
k14
set_option maxRecDepth 100000 in
theorem T_X11_delay (scr : mScr) (d : Nat) (r : List (Option Nat)) (tl : List mSh) (nk : Nat × Nat) (G : mG)  (p1 : Int) (p2 : Int) : SimC scr (d + 7) 209 [sR 56, sI p1, sI p2] (mSH r tl, (G, nk)) (e1I r tl nk) (P_X11_delay p1 p2 G) := by
  refine sm_callX (cs := mc_X11_delay) (maxL := 5) (rk := 0) (o := 11) (hs := []) (d := d + 6) [lR 56, lI p1, lI p2, none, none] rfl rfl rfl rfl ?_
  unfold P_X11_delay
  refine sm_go 3 (s' := (3, ([lR 56, lI p1, lI p2, none, none], ([sI p1, sR 56, sR 56], (mSH r tl, (G, nk)))))) ?_ rfl
  refine sm_callG (rest := [sR 56]) (T_X11_isJob scr (d + 4) r tl nk G p1) rfl (Or.inl rfl) rfl rfl rfl rfl (fun _ => rfl) (fun v3 => (6, ([lR 56, lI p1, lI p2, none, none], ([sI (b2i v3), sR 56], (mSH r tl, (G, nk)))))) (fun _ => rfl) fun v3 => ?_
  refine sm_letK1 (S := fun (g5 : Unit) (x4 : Int) => (22, ([lR 56, lI p1, lI p2, none, none], ([sI x4, sR 56], (mSH r tl, (G, nk)))))) ?_ ?_
  · intro g5 x4
    refine sm_go 1 (s' := (23, ([lR 56, lI p1, lI p2, none, none], ([sR 56, sI x4, sR 56], (mSH r tl, (G, nk)))))) ?_ rfl
    refine sm_callG (rest := [sI x4, sR 56]) (T_X11_isPlanned scr d r tl nk G) rfl (Or.inl rfl) rfl rfl rfl rfl (fun _ => rfl) (fun z6 => (26, ([lR 56, lI p1, lI p2, none, none], ([sI (b2i z6.1), sI x4, sR 56], (mSH r tl, (z6.2, nk)))))) (fun _ => rfl) fun z6 => ?_
    refine sm_go 1 (s' := (27, ([lR 56, lI p1, lI p2, none, none], ([sI 1, sI (b2i z6.1), sI x4, sR 56], (mSH r tl, (z6.2, nk)))))) ?_ rfl
    refine sm_callG (rest := []) (T_X11_fits scr (d + 5) r tl nk z6.2 x4 (b2i z6.1) 1) rfl (Or.inl rfl) rfl rfl rfl rfl (fun _ => rfl) (fun z7 => (30, ([lR 56, lI p1, lI p2, none, none], ([sI (b2i z7.1)], (mSH r tl, (z7.2, nk)))))) (fun _ => rfl) fun z7 => ?_
    refine sm_if1 (t := z7.1) (pt := 35) (mCmpB_ne z7.1) rfl rfl (fun _ => ?_) (fun _ => ?_)
    · refine sm_go 3 (s' := (40, ([lR 56, lI p1, lI p2, none, none], ([sI p2, sR 61], (mSH r tl, (z7.2, nk)))))) ?_ rfl
      refine sm_ald rfl rfl fun v8 => ?_
      refine sm_go 3 (s' := (44, ([lR 56, lI p1, lI p2, lI v8, none], ([sI p1, sR 56], (mSH r tl, (z7.2, nk)))))) ?_ rfl
      refine sm_callG (rest := []) (T_X11_laysRushed scr (d + 4) r tl nk z7.2 p1) rfl (Or.inl rfl) rfl rfl rfl rfl (fun _ => rfl) (fun G9 => (47, ([lR 56, lI p1, lI p2, lI v8, none], ([], (mSH r tl, (G9, nk)))))) (fun _ => rfl) fun G9 => ?_
      refine sm_go 6 (s' := (55, ([lR 56, lI p1, lI p2, lI v8, none], ([sI 0, sI (-1), sI 0, sR 66, sR 56], (mSH r tl, (G9, nk)))))) ?_ rfl
      refine sm_callG (rest := []) (T_X11_worksOut_66 scr (d + 2) r tl nk G9 0 (-1) 0) rfl (Or.inl rfl) rfl rfl rfl rfl (fun _ => rfl) (fun z10 => (58, ([lR 56, lI p1, lI p2, lI v8, none], ([sI (b2i z10.1)], (mSH r tl, (z10.2, nk)))))) (fun _ => rfl) fun z10 => ?_
      refine sm_go 4 (s' := (65, ([lR 56, lI p1, lI p2, lI v8, lI (b2i z10.1)], ([sI p2, sR 61], (mSH r tl, (z10.2, nk)))))) ?_ rfl
      refine sm_ald rfl rfl fun v11 => ?_
      refine sm_go 2 (s' := (68, ([lR 56, lI p1, lI p2, lI v8, lI (b2i z10.1)], ([sI (v11 - v8)], (mSH r tl, (z10.2, nk)))))) ?_ rfl
      exact sm_retI rfl rfl rfl
    · refine sm_go 1 (s' := (34, ([lR 56, lI p1, lI p2, none, none], ([sI 0], (mSH r tl, (z7.2, nk)))))) ?_ rfl
      exact sm_retI rfl rfl rfl
  · intro k12 hk12
    refine sm_letK0 (S := fun (g13 : Unit) => (21, ([lR 56, lI p1, lI p2, none, none], ([sR 56], (mSH r tl, (G, nk)))))) ?_ ?_
    · intro g13
      exact sm_go 1 (hk12 () 0) rfl
    · intro k14 hk14
      refine sm_if1n (t := v3) (pt := 21) (mCmpB_eq v3) rfl rfl (fun _ => ?_) (fun _ => ?_)
      · refine sm_go 2 (s' := (11, ([lR 56, lI p1, lI p2, none, none], ([sI p2, sR 56, sR 56], (mSH r tl, (G, nk)))))) ?_ rfl
        refine sm_callG (rest := [sR 56]) (T_X11_isJob scr (d + 4) r tl nk G p2) rfl (Or.inl rfl) rfl rfl rfl rfl (fun _ => rfl) (fun v15 => (14, ([lR 56, lI p1, lI p2, none, none], ([sI (b2i v15), sR 56], (mSH r tl, (G, nk)))))) (fun _ => rfl) fun v15 => ?_
        refine sm_if1n (t := v15) (pt := 21) (mCmpB_eq v15) rfl rfl (fun _ => ?_) (fun _ => ?_)
        · exact sm_go 2 (hk12 () 1) rfl
        · exact hk14 ()
      · exact hk14 ()
def P_X3_clear (G : mG) : Option (mG) :=
(pst G 45 2 0).bind fun G1 =>
some G1
set_option maxRecDepth 100000 in
theorem T_X3_clear (scr : mScr) (d : Nat) (r : List (Option Nat)) (tl : List mSh) (nk : Nat × Nat) (G : mG)  : SimC scr (d + 1) 11 [sR 45] (mSH r tl, (G, nk)) (e1U r tl nk) (P_X3_clear G) := by
  refine sm_callX (cs := mc_X3_clear) (maxL := 1) (rk := 0) (o := 3) (hs := []) (d := d + 0) [lR 45] rfl rfl rfl rfl ?_
  unfold P_X3_clear
  refine sm_go 2 (s' := (2, ([lR 45], ([sI 0, sR 45], (mSH r tl, (G, nk)))))) ?_ rfl
  refine sm_pst rfl rfl rfl fun G1 => ?_
  exact sm_retU rfl rfl
def P_X3_insert (p1 : Int) (p2 : Int) (G : mG) : Option (mG) :=
bif (ilt (G 45 2) 6) then
letK (fun (x3 : Int) (G4 : mG) =>
(ast G4 47 6 x3 p2).bind fun G6 =>
(ast G6 46 6 x3 p1).bind fun G7 =>
(pst G7 45 2 ((G7 45 2) + 1)).bind fun G8 =>
some G8) fun k9 =>
loop2 LF (fun again13 (x10 : Int) (G11 : mG) =>
bif (ilt 0 x10) then
(ald G11 47 6 (x10 - 1)).bind fun v14 =>
bif (ilt p2 v14) then
(ald G11 47 6 (x10 - 1)).bind fun v15 =>
(ast G11 47 6 x10 v15).bind fun G16 =>
(ald G16 46 6 (x10 - 1)).bind fun v17 =>
(ast G16 46 6 x10 v17).bind fun G18 =>
again13 (x10 + (-1)) G18
else
k9 x10 G11
else
k9 x10 G11) (G 45 2) G
else
some G
set_option maxRecDepth 100000 in
theorem T_X3_insert (scr : mScr) (d : Nat) (r : List (Option Nat)) (tl : List mSh) (nk : Nat × Nat) (G : mG)  (p1 : Int) (p2 : Int) : SimC scr (d + 1) 12 [sR 45, sI p1, sI p2] (mSH r tl, (G, nk)) (e1U r tl nk) (P_X3_insert p1 p2 G) := by
  refine sm_callX (cs := mc_X3_insert) (maxL := 4) (rk := 0) (o := 3) (hs := []) (d := d + 0) [lR 45, lI p1, lI p2, none] rfl rfl rfl rfl ?_
  unfold P_X3_insert
  refine sm_go 3 (s' := (6, ([lR 45, lI p1, lI p2, none], ([sI 6, sI (G 45 2)], (mSH r tl, (G, nk)))))) ?_ rfl
  refine sm_if2 (t := (ilt (G 45 2) 6)) (pt := 10) rfl rfl rfl (fun _ => ?_) (fun _ => ?_)
  · refine sm_go 3 (s' := (15, ([lR 45, lI p1, lI p2, lI (G 45 2)], ([], (mSH r tl, (G, nk)))))) ?_ rfl
    refine sm_letK2 (S := fun (g5 : Unit) (x3 : Int) (G4 : mG) => (65, ([lR 45, lI p1, lI p2, lI x3], ([], (mSH r tl, (G4, nk)))))) ?_ ?_
    · intro g5 x3 G4
      refine sm_go 4 (s' := (71, ([lR 45, lI p1, lI p2, lI x3], ([sI p2, sI x3, sR 47], (mSH r tl, (G4, nk)))))) ?_ rfl
      refine sm_ast rfl rfl fun G6 => ?_
      refine sm_go 4 (s' := (78, ([lR 45, lI p1, lI p2, lI x3], ([sI p1, sI x3, sR 46], (mSH r tl, (G6, nk)))))) ?_ rfl
      refine sm_ast rfl rfl fun G7 => ?_
      refine sm_go 5 (s' := (86, ([lR 45, lI p1, lI p2, lI x3], ([sI ((G7 45 2) + 1), sR 45], (mSH r tl, (G7, nk)))))) ?_ rfl
      refine sm_pst rfl rfl rfl fun G8 => ?_
      exact sm_retU rfl rfl
    · intro k9 hk9
      refine sm_loop2 (S := fun (g12 : Unit) (x10 : Int) (G11 : mG) => (15, ([lR 45, lI p1, lI p2, lI x10], ([], (mSH r tl, (G11, nk)))))) ?_ LF () (G 45 2) G
      intro again13 hagain13 g12 x10 G11
      refine sm_go 1 (s' := (16, ([lR 45, lI p1, lI p2, lI x10], ([sI x10], (mSH r tl, (G11, nk)))))) ?_ rfl
      refine sm_if1n (t := (ilt 0 x10)) (pt := 65) rfl rfl rfl (fun _ => ?_) (fun _ => ?_)
      · refine sm_go 5 (s' := (26, ([lR 45, lI p1, lI p2, lI x10], ([sI (x10 - 1), sR 47], (mSH r tl, (G11, nk)))))) ?_ rfl
        refine sm_ald rfl rfl fun v14 => ?_
        refine sm_go 1 (s' := (28, ([lR 45, lI p1, lI p2, lI x10], ([sI p2, sI v14], (mSH r tl, (G11, nk)))))) ?_ rfl
        refine sm_if2n (t := (ilt p2 v14)) (pt := 65) rfl rfl rfl (fun _ => ?_) (fun _ => ?_)
        · refine sm_go 8 (s' := (43, ([lR 45, lI p1, lI p2, lI x10], ([sI (x10 - 1), sR 47, sI x10, sR 47], (mSH r tl, (G11, nk)))))) ?_ rfl
          refine sm_ald rfl rfl fun v15 => ?_
          refine sm_ast rfl rfl fun G16 => ?_
          refine sm_go 8 (s' := (57, ([lR 45, lI p1, lI p2, lI x10], ([sI (x10 - 1), sR 46, sI x10, sR 46], (mSH r tl, (G16, nk)))))) ?_ rfl
          refine sm_ald rfl rfl fun v17 => ?_
          refine sm_ast rfl rfl fun G18 => ?_
          exact sm_go 2 (hagain13 () (x10 + (-1)) G18) rfl
        · exact hk9 () x10 G11
      · exact hk9 () x10 G11
  · exact sm_retU rfl rfl
def P_X5_sortByLength (G : mG) : Option (mG) :=
(P_X3_clear G).bind fun G1 =>
loop2 LF (fun again5 (x2 : Int) (G3 : mG) =>
bif (ilt x2 (G3 1 0)) then
(P_X7_hoursFrom x2 0 G3).bind fun v6 =>
(P_X3_insert x2 v6 G3).bind fun G7 =>
again5 (x2 + 1) G7
else
some G3) 0 G1
set_option maxRecDepth 100000 in
theorem T_X5_sortByLength (scr : mScr) (d : Nat) (r : List (Option Nat)) (tl : List mSh) (nk : Nat × Nat) (G : mG)  : SimC scr (d + 2) 17 [sR 44] (mSH r tl, (G, nk)) (e1U r tl nk) (P_X5_sortByLength G) := by
  refine sm_callX (cs := mc_X5_sortByLength) (maxL := 2) (rk := 0) (o := 5) (hs := []) (d := d + 1) [lR 44, none] rfl rfl rfl rfl ?_
  unfold P_X5_sortByLength
  refine sm_go 2 (s' := (4, ([lR 44, none], ([sR 45], (mSH r tl, (G, nk)))))) ?_ rfl
  refine sm_callG (rest := []) (T_X3_clear scr d r tl nk G) rfl (Or.inl rfl) rfl rfl rfl rfl (fun _ => rfl) (fun G1 => (7, ([lR 44, none], ([], (mSH r tl, (G1, nk)))))) (fun _ => rfl) fun G1 => ?_
  refine sm_go 2 (s' := (9, ([lR 44, lI 0], ([], (mSH r tl, (G1, nk)))))) ?_ rfl
  refine sm_loop2 (S := fun (g4 : Unit) (x2 : Int) (G3 : mG) => (9, ([lR 44, lI x2], ([], (mSH r tl, (G3, nk)))))) ?_ LF () 0 G1
  intro again5 hagain5 g4 x2 G3
  refine sm_go 4 (s' := (17, ([lR 44, lI x2], ([sI (G3 1 0), sI x2], (mSH r tl, (G3, nk)))))) ?_ rfl
  refine sm_if2n (t := (ilt x2 (G3 1 0))) (pt := 43) rfl rfl rfl (fun _ => ?_) (fun _ => ?_)
  · refine sm_go 7 (s' := (31, ([lR 44, lI x2], ([sI 0, sI x2, sR 1, sI x2, sR 45], (mSH r tl, (G3, nk)))))) ?_ rfl
    refine sm_callG (rest := [sI x2, sR 45]) (T_X7_hoursFrom scr d r tl nk G3 x2 0) rfl (Or.inl rfl) rfl rfl rfl rfl (fun _ => rfl) (fun v6 => (34, ([lR 44, lI x2], ([sI v6, sI x2, sR 45], (mSH r tl, (G3, nk)))))) (fun _ => rfl) fun v6 => ?_
    refine sm_callG (rest := []) (T_X3_insert scr d r tl nk G3 x2 v6) rfl (Or.inl rfl) rfl rfl rfl rfl (fun _ => rfl) (fun G7 => (37, ([lR 44, lI x2], ([], (mSH r tl, (G7, nk)))))) (fun _ => rfl) fun G7 => ?_
    exact sm_go 2 (hagain5 () (x2 + 1) G7) rfl
  · exact sm_retU rfl rfl
def P_X5_sumOfEnds (G : mG) : Option (Int × mG) :=
(P_X5_sortByLength G).bind fun G1 =>
loop3 LF (fun again6 (x2 : Int) (x3 : Int) (x4 : Int) =>
bif (ilt x4 (G1 45 2)) then
(ald G1 46 6 x4).bind fun v7 =>
(P_X7_hoursFrom v7 0 G1).bind fun v8 =>
again6 (x2 + v8) (x3 + (x2 + v8)) (x4 + 1)
else
some (x3, G1)) 0 0 0
set_option maxRecDepth 100000 in
theorem T_X5_sumOfEnds (scr : mScr) (d : Nat) (r : List (Option Nat)) (tl : List mSh) (nk : Nat × Nat) (G : mG)  : SimC scr (d + 3) 19 [sR 44] (mSH r tl, (G, nk)) (e1I r tl nk) (P_X5_sumOfEnds G) := by
  refine sm_callX (cs := mc_X5_sumOfEnds) (maxL := 4) (rk := 0) (o := 5) (hs := []) (d := d + 2) [lR 44, none, none, none] rfl rfl rfl rfl ?_
  unfold P_X5_sumOfEnds
  refine sm_go 1 (s' := (1, ([lR 44, none, none, none], ([sR 44], (mSH r tl, (G, nk)))))) ?_ rfl
  refine sm_callG (rest := []) (T_X5_sortByLength scr d r tl nk G) rfl (Or.inl rfl) rfl rfl rfl rfl (fun _ => rfl) (fun G1 => (4, ([lR 44, none, none, none], ([], (mSH r tl, (G1, nk)))))) (fun _ => rfl) fun G1 => ?_
  refine sm_go 6 (s' := (10, ([lR 44, lI 0, lI 0, lI 0], ([], (mSH r tl, (G1, nk)))))) ?_ rfl
  refine sm_loop3 (S := fun (g5 : Unit) (x2 : Int) (x3 : Int) (x4 : Int) => (10, ([lR 44, lI x2, lI x3, lI x4], ([], (mSH r tl, (G1, nk)))))) ?_ LF () 0 0 0
  intro again6 hagain6 g5 x2 x3 x4
  refine sm_go 4 (s' := (18, ([lR 44, lI x2, lI x3, lI x4], ([sI (G1 45 2), sI x4], (mSH r tl, (G1, nk)))))) ?_ rfl
  refine sm_if2n (t := (ilt x4 (G1 45 2))) (pt := 51) rfl rfl rfl (fun _ => ?_) (fun _ => ?_)
  · refine sm_go 7 (s' := (34, ([lR 44, lI x2, lI x3, lI x4], ([sI x4, sR 46, sR 1, sI x2], (mSH r tl, (G1, nk)))))) ?_ rfl
    refine sm_ald rfl rfl fun v7 => ?_
    refine sm_go 1 (s' := (36, ([lR 44, lI x2, lI x3, lI x4], ([sI 0, sI v7, sR 1, sI x2], (mSH r tl, (G1, nk)))))) ?_ rfl
    refine sm_callG (rest := [sI x2]) (T_X7_hoursFrom scr (d + 1) r tl nk G1 v7 0) rfl (Or.inl rfl) rfl rfl rfl rfl (fun _ => rfl) (fun v8 => (39, ([lR 44, lI x2, lI x3, lI x4], ([sI v8, sI x2], (mSH r tl, (G1, nk)))))) (fun _ => rfl) fun v8 => ?_
    exact sm_go 8 (hagain6 () (x2 + v8) (x3 + (x2 + v8)) (x4 + 1)) rfl
  · refine sm_go 1 (s' := (52, ([lR 44, lI x2, lI x3, lI x4], ([sI x3], (mSH r tl, (G1, nk)))))) ?_ rfl
    exact sm_retI rfl rfl rfl
def P_X10_leastSum (G : mG) : Option (Int × mG) :=
(P_X5_sumOfEnds G).bind fun z1 =>
some (z1.1, z1.2)
set_option maxRecDepth 100000 in
theorem T_X10_leastSum (scr : mScr) (d : Nat) (r : List (Option Nat)) (tl : List mSh) (nk : Nat × Nat) (G : mG)  : SimC scr (d + 4) 104 [sR 0] (mSH r tl, (G, nk)) (e1I r tl nk) (P_X10_leastSum G) := by
  refine sm_callX (cs := mc_X10_leastSum) (maxL := 1) (rk := 0) (o := 10) (hs := []) (d := d + 3) [lR 0] rfl rfl rfl rfl ?_
  unfold P_X10_leastSum
  refine sm_go 2 (s' := (4, ([lR 0], ([sR 44], (mSH r tl, (G, nk)))))) ?_ rfl
  refine sm_callG (rest := []) (T_X5_sumOfEnds scr d r tl nk G) rfl (Or.inl rfl) rfl rfl rfl rfl (fun _ => rfl) (fun z1 => (7, ([lR 0], ([sI z1.1], (mSH r tl, (z1.2, nk)))))) (fun _ => rfl) fun z1 => ?_
  exact sm_retI rfl rfl rfl
def P_X11_part (p1 : Int) (p2 : Int) (G : mG) : Option (Int) :=
(P_X11_of p1 4 G).bind fun v3 =>
bif (ilt p2 v3) then
(P_X11_hoursOf p1 p2 G).bind fun v4 =>
some v4
else
some 0
set_option maxRecDepth 100000 in
theorem T_X11_part (scr : mScr) (d : Nat) (r : List (Option Nat)) (tl : List mSh) (nk : Nat × Nat) (G : mG)  (p1 : Int) (p2 : Int) : SimC scr (d + 3) 210 [sR 56, sI p1, sI p2] (mSH r tl, (G, nk)) (e0I (mSH r tl, (G, nk))) (P_X11_part p1 p2 G) := by
  refine sm_callX (cs := mc_X11_part) (maxL := 3) (rk := 0) (o := 11) (hs := []) (d := d + 2) [lR 56, lI p1, lI p2] rfl rfl rfl rfl ?_
  unfold P_X11_part
  refine sm_go 4 (s' := (4, ([lR 56, lI p1, lI p2], ([sI 4, sI p1, sR 56, sI p2], (mSH r tl, (G, nk)))))) ?_ rfl
  refine sm_callG (rest := [sI p2]) (T_X11_of scr (d + 1) r tl nk G p1 4) rfl (Or.inl rfl) rfl rfl rfl rfl (fun _ => rfl) (fun v3 => (7, ([lR 56, lI p1, lI p2], ([sI v3, sI p2], (mSH r tl, (G, nk)))))) (fun _ => rfl) fun v3 => ?_
  refine sm_if2n (t := (ilt p2 v3)) (pt := 19) rfl rfl rfl (fun _ => ?_) (fun _ => ?_)
  · refine sm_go 3 (s' := (13, ([lR 56, lI p1, lI p2], ([sI p2, sI p1, sR 56], (mSH r tl, (G, nk)))))) ?_ rfl
    refine sm_callG (rest := []) (T_X11_hoursOf scr d r tl nk G p1 p2) rfl (Or.inl rfl) rfl rfl rfl rfl (fun _ => rfl) (fun v4 => (16, ([lR 56, lI p1, lI p2], ([sI v4], (mSH r tl, (G, nk)))))) (fun _ => rfl) fun v4 => ?_
    refine sm_go 1 (s' := (20, ([lR 56, lI p1, lI p2], ([sI v4], (mSH r tl, (G, nk)))))) ?_ rfl
    exact sm_retI rfl rfl rfl
  · refine sm_go 1 (s' := (20, ([lR 56, lI p1, lI p2], ([sI 0], (mSH r tl, (G, nk)))))) ?_ rfl
    exact sm_retI rfl rfl rfl
def P_X11_goesFirst (p1 : Int) (p2 : Int) (p3 : Int) (G : mG) : Option (Bool) :=
letK (fun (x4 : Int) =>
letK (fun (x6 : Int) =>
letK (fun (x8 : Int) (x9 : Int) =>
letK (some true) fun k12 =>
bif (ilt x8 x9) then
k12
else
letK (some false) fun k14 =>
bif (ieq x8 x9) then
bif (ilt p2 p3) then
k12
else
k14
else
k14) fun k15 =>
bif (ieq p1 2) then
(P_X11_part p2 0 G).bind fun v16 =>
(P_X11_part p2 1 G).bind fun v17 =>
letK (fun (x18 : Int) =>
(P_X11_part p3 0 G).bind fun v20 =>
(P_X11_part p3 1 G).bind fun v21 =>
letK (fun (x22 : Int) =>
bif (ieq x18 x22) then
letK (fun (x24 : Int) =>
letK (fun (x26 : Int) =>
k15 x24 x26) fun k28 =>
bif (ieq x18 0) then
(P_X11_part p3 1 G).bind fun v29 =>
k28 (-v29)
else
(P_X11_part p3 0 G).bind fun v30 =>
k28 v30) fun k31 =>
bif (ieq x18 0) then
(P_X11_part p2 1 G).bind fun v32 =>
k31 (-v32)
else
(P_X11_part p2 0 G).bind fun v33 =>
k31 v33
else
(retZ x18).bind fun b34 =>
some b34) fun k35 =>
bif (ilt v20 v21) then
k35 1
else
k35 0) fun k36 =>
bif (ilt v16 v17) then
k36 1
else
k36 0
else
k15 x4 x6) fun k37 =>
bif (ieq p1 0) then
(P_X11_length p3 G).bind fun v39 =>
k37 v39
else
(P_X11_of p3 1 G).bind fun v38 =>
k37 v38) fun k40 =>
bif (ieq p1 0) then
(P_X11_length p2 G).bind fun v42 =>
k40 v42
else
(P_X11_of p2 1 G).bind fun v41 =>
k40 v41
set_option maxRecDepth 100000 in
theorem T_X11_goesFirst (scr : mScr) (d : Nat) (r : List (Option Nat)) (tl : List mSh) (nk : Nat × Nat) (G : mG)  (p1 : Int) (p2 : Int) (p3 : Int) : SimC scr (d + 5) 211 [sR 56, sI p1, sI p2, sI p3] (mSH r tl, (G, nk)) (e0B (mSH r tl, (G, nk))) (P_X11_goesFirst p1 p2 p3 G) := by
  refine sm_callX (cs := mc_X11_goesFirst) (maxL := 8) (rk := 1) (o := 11) (hs := []) (d := d + 4) [lR 56, lI p1, lI p2, lI p3, none, none, none, none] rfl rfl rfl rfl ?_
  unfold P_X11_goesFirst
  refine sm_letK1 (S := fun (g5 : Unit) (x4 : Int) => (18, ([lR 56, lI p1, lI p2, lI p3, none, none, none, none], ([sI x4], (mSH r tl, (G, nk)))))) ?_ ?_
  · intro g5 x4
    refine sm_letK1 (S := fun (g7 : Unit) (x6 : Int) => (38, ([lR 56, lI p1, lI p2, lI p3, lI x4, none, none, none], ([sI x6], (mSH r tl, (G, nk)))))) ?_ ?_
    · intro g7 x6
      refine sm_letK2 (S := fun (g10 : Option mV × Option mV) (x8 : Int) (x9 : Int) => (145, ([lR 56, lI p1, lI p2, lI p3, lI x8, lI x9, g10.1, g10.2], ([], (mSH r tl, (G, nk)))))) ?_ ?_
      · intro g10 x8 x9
        refine sm_letK0 (S := fun (g11 : Unit) => (164, ([lR 56, lI p1, lI p2, lI p3, lI x8, lI x9, g10.1, g10.2], ([], (mSH r tl, (G, nk)))))) ?_ ?_
        · intro g11
          refine sm_go 2 (s' := (169, ([lR 56, lI p1, lI p2, lI p3, lI x8, lI x9, g10.1, g10.2], ([sI 1], (mSH r tl, (G, nk)))))) ?_ rfl
          exact sm_retB1 (b := true) rfl rfl
        · intro k12 hk12
          refine sm_go 2 (s' := (149, ([lR 56, lI p1, lI p2, lI p3, lI x8, lI x9, g10.1, g10.2], ([sI x9, sI x8], (mSH r tl, (G, nk)))))) ?_ rfl
          refine sm_if2 (t := (ilt x8 x9)) (pt := 164) rfl rfl rfl (fun _ => ?_) (fun _ => ?_)
          · exact hk12 ()
          · refine sm_letK0 (S := fun (g13 : Unit) => (168, ([lR 56, lI p1, lI p2, lI p3, lI x8, lI x9, g10.1, g10.2], ([], (mSH r tl, (G, nk)))))) ?_ ?_
            · intro g13
              refine sm_go 1 (s' := (169, ([lR 56, lI p1, lI p2, lI p3, lI x8, lI x9, g10.1, g10.2], ([sI 0], (mSH r tl, (G, nk)))))) ?_ rfl
              exact sm_retB1 (b := false) rfl rfl
            · intro k14 hk14
              refine sm_go 2 (s' := (156, ([lR 56, lI p1, lI p2, lI p3, lI x8, lI x9, g10.1, g10.2], ([sI x9, sI x8], (mSH r tl, (G, nk)))))) ?_ rfl
              refine sm_if2n (t := (ieq x8 x9)) (pt := 168) rfl rfl rfl (fun _ => ?_) (fun _ => ?_)
              · refine sm_go 2 (s' := (161, ([lR 56, lI p1, lI p2, lI p3, lI x8, lI x9, g10.1, g10.2], ([sI p3, sI p2], (mSH r tl, (G, nk)))))) ?_ rfl
                refine sm_if2n (t := (ilt p2 p3)) (pt := 168) rfl rfl rfl (fun _ => ?_) (fun _ => ?_)
                · exact hk12 ()
                · exact hk14 ()
              · exact hk14 ()
      · intro k15 hk15
        refine sm_go 3 (s' := (42, ([lR 56, lI p1, lI p2, lI p3, lI x4, lI x6, none, none], ([sI 2, sI p1], (mSH r tl, (G, nk)))))) ?_ rfl
        refine sm_if2n (t := (ieq p1 2)) (pt := 145) rfl rfl rfl (fun _ => ?_) (fun _ => ?_)
        · refine sm_go 3 (s' := (48, ([lR 56, lI p1, lI p2, lI p3, lI x4, lI x6, none, none], ([sI 0, sI p2, sR 56], (mSH r tl, (G, nk)))))) ?_ rfl
          refine sm_callG (rest := []) (T_X11_part scr (d + 1) r tl nk G p2 0) rfl (Or.inl rfl) rfl rfl rfl rfl (fun _ => rfl) (fun v16 => (51, ([lR 56, lI p1, lI p2, lI p3, lI x4, lI x6, none, none], ([sI v16], (mSH r tl, (G, nk)))))) (fun _ => rfl) fun v16 => ?_
          refine sm_go 3 (s' := (54, ([lR 56, lI p1, lI p2, lI p3, lI x4, lI x6, none, none], ([sI 1, sI p2, sR 56, sI v16], (mSH r tl, (G, nk)))))) ?_ rfl
          refine sm_callG (rest := [sI v16]) (T_X11_part scr (d + 1) r tl nk G p2 1) rfl (Or.inl rfl) rfl rfl rfl rfl (fun _ => rfl) (fun v17 => (57, ([lR 56, lI p1, lI p2, lI p3, lI x4, lI x6, none, none], ([sI v17, sI v16], (mSH r tl, (G, nk)))))) (fun _ => rfl) fun v17 => ?_
          refine sm_letK1 (S := fun (g19 : Unit) (x18 : Int) => (65, ([lR 56, lI p1, lI p2, lI p3, lI x4, lI x6, none, none], ([sI x18], (mSH r tl, (G, nk)))))) ?_ ?_
          · intro g19 x18
            refine sm_go 4 (s' := (70, ([lR 56, lI p1, lI p2, lI p3, lI x4, lI x6, lI x18, none], ([sI 0, sI p3, sR 56], (mSH r tl, (G, nk)))))) ?_ rfl
            refine sm_callG (rest := []) (T_X11_part scr (d + 1) r tl nk G p3 0) rfl (Or.inl rfl) rfl rfl rfl rfl (fun _ => rfl) (fun v20 => (73, ([lR 56, lI p1, lI p2, lI p3, lI x4, lI x6, lI x18, none], ([sI v20], (mSH r tl, (G, nk)))))) (fun _ => rfl) fun v20 => ?_
            refine sm_go 3 (s' := (76, ([lR 56, lI p1, lI p2, lI p3, lI x4, lI x6, lI x18, none], ([sI 1, sI p3, sR 56, sI v20], (mSH r tl, (G, nk)))))) ?_ rfl
            refine sm_callG (rest := [sI v20]) (T_X11_part scr (d + 1) r tl nk G p3 1) rfl (Or.inl rfl) rfl rfl rfl rfl (fun _ => rfl) (fun v21 => (79, ([lR 56, lI p1, lI p2, lI p3, lI x4, lI x6, lI x18, none], ([sI v21, sI v20], (mSH r tl, (G, nk)))))) (fun _ => rfl) fun v21 => ?_
            refine sm_letK1 (S := fun (g23 : Unit) (x22 : Int) => (87, ([lR 56, lI p1, lI p2, lI p3, lI x4, lI x6, lI x18, none], ([sI x22], (mSH r tl, (G, nk)))))) ?_ ?_
            · intro g23 x22
              refine sm_go 3 (s' := (93, ([lR 56, lI p1, lI p2, lI p3, lI x4, lI x6, lI x18, lI x22], ([sI x22, sI x18], (mSH r tl, (G, nk)))))) ?_ rfl
              refine sm_if2 (t := (ieq x18 x22)) (pt := 99) rfl rfl rfl (fun _ => ?_) (fun _ => ?_)
              · refine sm_letK1 (S := fun (g25 : Unit) (x24 : Int) => (120, ([lR 56, lI p1, lI p2, lI p3, lI x4, lI x6, lI x18, lI x22], ([sI x24], (mSH r tl, (G, nk)))))) ?_ ?_
                · intro g25 x24
                  refine sm_letK1 (S := fun (g27 : Unit) (x26 : Int) => (143, ([lR 56, lI p1, lI p2, lI p3, lI x24, lI x6, lI x18, lI x22], ([sI x26], (mSH r tl, (G, nk)))))) ?_ ?_
                  · intro g27 x26
                    exact sm_go 1 (hk15 (lI x18, lI x22) x24 x26) rfl
                  · intro k28 hk28
                    refine sm_go 2 (s' := (124, ([lR 56, lI p1, lI p2, lI p3, lI x24, lI x6, lI x18, lI x22], ([sI x18], (mSH r tl, (G, nk)))))) ?_ rfl
                    refine sm_if1 (t := (ieq x18 0)) (pt := 136) rfl rfl rfl (fun _ => ?_) (fun _ => ?_)
                    · refine sm_go 3 (s' := (139, ([lR 56, lI p1, lI p2, lI p3, lI x24, lI x6, lI x18, lI x22], ([sI 1, sI p3, sR 56], (mSH r tl, (G, nk)))))) ?_ rfl
                      refine sm_callG (rest := []) (T_X11_part scr (d + 1) r tl nk G p3 1) rfl (Or.inl rfl) rfl rfl rfl rfl (fun _ => rfl) (fun v29 => (142, ([lR 56, lI p1, lI p2, lI p3, lI x24, lI x6, lI x18, lI x22], ([sI v29], (mSH r tl, (G, nk)))))) (fun _ => rfl) fun v29 => ?_
                      exact sm_go 1 (hk28 () (-v29)) rfl
                    · refine sm_go 3 (s' := (130, ([lR 56, lI p1, lI p2, lI p3, lI x24, lI x6, lI x18, lI x22], ([sI 0, sI p3, sR 56], (mSH r tl, (G, nk)))))) ?_ rfl
                      refine sm_callG (rest := []) (T_X11_part scr (d + 1) r tl nk G p3 0) rfl (Or.inl rfl) rfl rfl rfl rfl (fun _ => rfl) (fun v30 => (133, ([lR 56, lI p1, lI p2, lI p3, lI x24, lI x6, lI x18, lI x22], ([sI v30], (mSH r tl, (G, nk)))))) (fun _ => rfl) fun v30 => ?_
                      exact sm_go 1 (hk28 () v30) rfl
                · intro k31 hk31
                  refine sm_go 1 (s' := (101, ([lR 56, lI p1, lI p2, lI p3, lI x4, lI x6, lI x18, lI x22], ([sI x18], (mSH r tl, (G, nk)))))) ?_ rfl
                  refine sm_if1 (t := (ieq x18 0)) (pt := 113) rfl rfl rfl (fun _ => ?_) (fun _ => ?_)
                  · refine sm_go 3 (s' := (116, ([lR 56, lI p1, lI p2, lI p3, lI x4, lI x6, lI x18, lI x22], ([sI 1, sI p2, sR 56], (mSH r tl, (G, nk)))))) ?_ rfl
                    refine sm_callG (rest := []) (T_X11_part scr (d + 1) r tl nk G p2 1) rfl (Or.inl rfl) rfl rfl rfl rfl (fun _ => rfl) (fun v32 => (119, ([lR 56, lI p1, lI p2, lI p3, lI x4, lI x6, lI x18, lI x22], ([sI v32], (mSH r tl, (G, nk)))))) (fun _ => rfl) fun v32 => ?_
                    exact sm_go 1 (hk31 () (-v32)) rfl
                  · refine sm_go 3 (s' := (107, ([lR 56, lI p1, lI p2, lI p3, lI x4, lI x6, lI x18, lI x22], ([sI 0, sI p2, sR 56], (mSH r tl, (G, nk)))))) ?_ rfl
                    refine sm_callG (rest := []) (T_X11_part scr (d + 1) r tl nk G p2 0) rfl (Or.inl rfl) rfl rfl rfl rfl (fun _ => rfl) (fun v33 => (110, ([lR 56, lI p1, lI p2, lI p3, lI x4, lI x6, lI x18, lI x22], ([sI v33], (mSH r tl, (G, nk)))))) (fun _ => rfl) fun v33 => ?_
                    exact sm_go 1 (hk31 () v33) rfl
              · refine sm_go 1 (s' := (98, ([lR 56, lI p1, lI p2, lI p3, lI x4, lI x6, lI x18, lI x22], ([sI x18], (mSH r tl, (G, nk)))))) ?_ rfl
                refine sm_retZ rfl fun b34 _ => ?_
                exact sm_retB1 rfl rfl
            · intro k35 hk35
              refine sm_if2n (t := (ilt v20 v21)) (pt := 86) rfl rfl rfl (fun _ => ?_) (fun _ => ?_)
              · exact sm_go 2 (hk35 () 1) rfl
              · exact sm_go 1 (hk35 () 0) rfl
          · intro k36 hk36
            refine sm_if2n (t := (ilt v16 v17)) (pt := 64) rfl rfl rfl (fun _ => ?_) (fun _ => ?_)
            · exact sm_go 2 (hk36 () 1) rfl
            · exact sm_go 1 (hk36 () 0) rfl
        · exact hk15 (none, none) x4 x6
    · intro k37 hk37
      refine sm_go 2 (s' := (21, ([lR 56, lI p1, lI p2, lI p3, lI x4, none, none, none], ([sI p1], (mSH r tl, (G, nk)))))) ?_ rfl
      refine sm_if1n (t := (ieq p1 0)) (pt := 32) rfl rfl rfl (fun _ => ?_) (fun _ => ?_)
      · refine sm_go 2 (s' := (26, ([lR 56, lI p1, lI p2, lI p3, lI x4, none, none, none], ([sI p3, sR 56], (mSH r tl, (G, nk)))))) ?_ rfl
        refine sm_callG (rest := []) (T_X11_length scr d r tl nk G p3) rfl (Or.inl rfl) rfl rfl rfl rfl (fun _ => rfl) (fun v39 => (29, ([lR 56, lI p1, lI p2, lI p3, lI x4, none, none, none], ([sI v39], (mSH r tl, (G, nk)))))) (fun _ => rfl) fun v39 => ?_
        exact sm_go 1 (hk37 () v39) rfl
      · refine sm_go 3 (s' := (35, ([lR 56, lI p1, lI p2, lI p3, lI x4, none, none, none], ([sI 1, sI p3, sR 56], (mSH r tl, (G, nk)))))) ?_ rfl
        refine sm_callG (rest := []) (T_X11_of scr (d + 3) r tl nk G p3 1) rfl (Or.inl rfl) rfl rfl rfl rfl (fun _ => rfl) (fun v38 => (38, ([lR 56, lI p1, lI p2, lI p3, lI x4, none, none, none], ([sI v38], (mSH r tl, (G, nk)))))) (fun _ => rfl) fun v38 => ?_
        exact hk37 () v38
  · intro k40 hk40
    refine sm_go 1 (s' := (1, ([lR 56, lI p1, lI p2, lI p3, none, none, none, none], ([sI p1], (mSH r tl, (G, nk)))))) ?_ rfl
    refine sm_if1n (t := (ieq p1 0)) (pt := 12) rfl rfl rfl (fun _ => ?_) (fun _ => ?_)
    · refine sm_go 2 (s' := (6, ([lR 56, lI p1, lI p2, lI p3, none, none, none, none], ([sI p2, sR 56], (mSH r tl, (G, nk)))))) ?_ rfl
      refine sm_callG (rest := []) (T_X11_length scr d r tl nk G p2) rfl (Or.inl rfl) rfl rfl rfl rfl (fun _ => rfl) (fun v42 => (9, ([lR 56, lI p1, lI p2, lI p3, none, none, none, none], ([sI v42], (mSH r tl, (G, nk)))))) (fun _ => rfl) fun v42 => ?_
      exact sm_go 1 (hk40 () v42) rfl
    · refine sm_go 3 (s' := (15, ([lR 56, lI p1, lI p2, lI p3, none, none, none, none], ([sI 1, sI p2, sR 56], (mSH r tl, (G, nk)))))) ?_ rfl
      refine sm_callG (rest := []) (T_X11_of scr (d + 3) r tl nk G p2 1) rfl (Or.inl rfl) rfl rfl rfl rfl (fun _ => rfl) (fun v41 => (18, ([lR 56, lI p1, lI p2, lI p3, none, none, none, none], ([sI v41], (mSH r tl, (G, nk)))))) (fun _ => rfl) fun v41 => ?_
      exact hk40 () v41
