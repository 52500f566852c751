/-! ===== programs as functions, 25 2: printed by wip/whole/gen/gen_p_out.py ===== -/
def P_X11_addJob (p1 : Int) (p2 : Int) (p3 : Int) (p4 : Int) (G : mG) : Option (Int × mG) :=
(P_X11_in p4 0 3).bind fun v5 =>
(P_X11_in p1 0 200).bind fun v6 =>
letK (fun (x7 : Int) =>
(ald G 57 282 0).bind fun v9 =>
letK (fun (x10 : Int) =>
(P_X11_fits (b2i v5) x7 x10 G).bind fun z12 =>
bif z12.1 then
(P_X11_keeps z12.2).bind fun G13 =>
(P_X11_laysJob p1 p2 p4 G13).bind fun G14 =>
(ald G14 57 282 0).bind fun v15 =>
(ast G14 57 282 ((61 + ((v15 - 1) * 15)) + 2) p3).bind fun G16 =>
(P_X11_noPlan G16).bind fun G17 =>
(ald G17 57 282 0).bind fun v18 =>
some ((v18 - 1), G17)
else
some (0, z12.2)) fun k19 =>
bif (ilt v9 6) then
k19 1
else
k19 0) fun k20 =>
letK (k20 0) fun k22 =>
bif v6 then
(P_X11_in p2 0 1000).bind fun v23 =>
bif v23 then
(P_X11_in p3 1 9).bind fun v24 =>
bif v24 then
k20 1
else
k22
else
k22
else
k22
set_option maxRecDepth 100000 in
theorem T_X11_addJob (scr : mScr) (d : Nat) (r : List (Option Nat)) (tl : List mSh) (nk : Nat × Nat) (G : mG)  (p1 : Int) (p2 : Int) (p3 : Int) (p4 : Int) : SimC scr (d + 2) 171 [sR 56, sI p1, sI p2, sI p3, sI p4] (mSH r tl, (G, nk)) (e1I r tl nk) (P_X11_addJob p1 p2 p3 p4 G) := by
  refine sm_callX (cs := mc_X11_addJob) (maxL := 5) (rk := 0) (o := 11) (hs := []) (d := d + 1) [lR 56, lI p1, lI p2, lI p3, lI p4] rfl rfl rfl rfl ?_
  unfold P_X11_addJob
  refine sm_go 4 (s' := (5, ([lR 56, lI p1, lI p2, lI p3, lI p4], ([sI 3, sI 0, sI p4, sR 56], (mSH r tl, (G, nk)))))) ?_ rfl
  refine sm_callG (rest := [sR 56]) (T_X11_in scr d r tl nk G p4 0 3) rfl (Or.inr (Or.inl rfl)) rfl rfl rfl rfl (fun _ => rfl) (fun v5 => (8, ([lR 56, lI p1, lI p2, lI p3, lI p4], ([sI (b2i v5), sR 56], (mSH r tl, (G, nk)))))) (fun _ => rfl) fun v5 => ?_
  refine sm_go 3 (s' := (13, ([lR 56, lI p1, lI p2, lI p3, lI p4], ([sI 200, sI 0, sI p1, sI (b2i v5), sR 56], (mSH r tl, (G, nk)))))) ?_ rfl
  refine sm_callG (rest := [sI (b2i v5), sR 56]) (T_X11_in scr d r tl nk G p1 0 200) rfl (Or.inr (Or.inl rfl)) rfl rfl rfl rfl (fun _ => rfl) (fun v6 => (16, ([lR 56, lI p1, lI p2, lI p3, lI p4], ([sI (b2i v6), sI (b2i v5), sR 56], (mSH r tl, (G, nk)))))) (fun _ => rfl) fun v6 => ?_
  refine sm_letK1 (S := fun (g8 : Unit) (x7 : Int) => (45, ([lR 56, lI p1, lI p2, lI p3, lI p4], ([sI x7, sI (b2i v5), sR 56], (mSH r tl, (G, nk)))))) ?_ ?_
  · intro g8 x7
    refine sm_go 3 (s' := (50, ([lR 56, lI p1, lI p2, lI p3, lI p4], ([sI 0, sR 57, sI x7, sI (b2i v5), sR 56], (mSH r tl, (G, nk)))))) ?_ rfl
    refine sm_ald rfl rfl fun v9 => ?_
    refine sm_letK1 (S := fun (g11 : Unit) (x10 : Int) => (61, ([lR 56, lI p1, lI p2, lI p3, lI p4], ([sI x10, sI x7, sI (b2i v5), sR 56], (mSH r tl, (G, nk)))))) ?_ ?_
    · intro g11 x10
      refine sm_callG (rest := []) (T_X11_fits scr d r tl nk G (b2i v5) x7 x10) rfl (Or.inl rfl) rfl rfl rfl rfl (fun _ => rfl) (fun z12 => (64, ([lR 56, lI p1, lI p2, lI p3, lI p4], ([sI (b2i z12.1)], (mSH r tl, (z12.2, nk)))))) (fun _ => rfl) fun z12 => ?_
      refine sm_if1 (t := z12.1) (pt := 69) (mCmpB_ne z12.1) rfl rfl (fun _ => ?_) (fun _ => ?_)
      · refine sm_go 1 (s' := (70, ([lR 56, lI p1, lI p2, lI p3, lI p4], ([sR 56], (mSH r tl, (z12.2, nk)))))) ?_ rfl
        refine sm_callG (rest := []) (T_X11_keeps scr d r tl nk z12.2) rfl (Or.inl rfl) rfl rfl rfl rfl (fun _ => rfl) (fun G13 => (73, ([lR 56, lI p1, lI p2, lI p3, lI p4], ([], (mSH r tl, (G13, nk)))))) (fun _ => rfl) fun G13 => ?_
        refine sm_go 4 (s' := (78, ([lR 56, lI p1, lI p2, lI p3, lI p4], ([sI p4, sI p2, sI p1, sR 56], (mSH r tl, (G13, nk)))))) ?_ rfl
        refine sm_callG (rest := []) (T_X11_laysJob scr d r tl nk G13 p1 p2 p4) rfl (Or.inl rfl) rfl rfl rfl rfl (fun _ => rfl) (fun G14 => (81, ([lR 56, lI p1, lI p2, lI p3, lI p4], ([], (mSH r tl, (G14, nk)))))) (fun _ => rfl) fun G14 => ?_
        refine sm_go 6 (s' := (92, ([lR 56, lI p1, lI p2, lI p3, lI p4], ([sI 0, sR 57, sI 61, sR 57], (mSH r tl, (G14, nk)))))) ?_ rfl
        refine sm_ald rfl rfl fun v15 => ?_
        refine sm_go 8 (s' := (102, ([lR 56, lI p1, lI p2, lI p3, lI p4], ([sI p3, sI ((61 + ((v15 - 1) * 15)) + 2), sR 57], (mSH r tl, (G14, nk)))))) ?_ rfl
        refine sm_ast rfl rfl fun G16 => ?_
        refine sm_go 1 (s' := (104, ([lR 56, lI p1, lI p2, lI p3, lI p4], ([sR 56], (mSH r tl, (G16, nk)))))) ?_ rfl
        refine sm_callG (rest := []) (T_X11_noPlan scr d r tl nk G16) rfl (Or.inl rfl) rfl rfl rfl rfl (fun _ => rfl) (fun G17 => (107, ([lR 56, lI p1, lI p2, lI p3, lI p4], ([], (mSH r tl, (G17, nk)))))) (fun _ => rfl) fun G17 => ?_
        refine sm_go 3 (s' := (112, ([lR 56, lI p1, lI p2, lI p3, lI p4], ([sI 0, sR 57], (mSH r tl, (G17, nk)))))) ?_ rfl
        refine sm_ald rfl rfl fun v18 => ?_
        refine sm_go 2 (s' := (115, ([lR 56, lI p1, lI p2, lI p3, lI p4], ([sI (v18 - 1)], (mSH r tl, (G17, nk)))))) ?_ rfl
        exact sm_retI rfl rfl rfl
      · refine sm_go 1 (s' := (68, ([lR 56, lI p1, lI p2, lI p3, lI p4], ([sI 0], (mSH r tl, (z12.2, nk)))))) ?_ rfl
        exact sm_retI rfl rfl rfl
    · intro k19 hk19
      refine sm_go 1 (s' := (53, ([lR 56, lI p1, lI p2, lI p3, lI p4], ([sI 6, sI v9, sI x7, sI (b2i v5), sR 56], (mSH r tl, (G, nk)))))) ?_ rfl
      refine sm_if2n (t := (ilt v9 6)) (pt := 60) rfl rfl rfl (fun _ => ?_) (fun _ => ?_)
      · exact sm_go 2 (hk19 () 1) rfl
      · exact sm_go 1 (hk19 () 0) rfl
  · intro k20 hk20
    refine sm_letK0 (S := fun (g21 : Unit) => (44, ([lR 56, lI p1, lI p2, lI p3, lI p4], ([sI (b2i v5), sR 56], (mSH r tl, (G, nk)))))) ?_ ?_
    · intro g21
      exact sm_go 1 (hk20 () 0) rfl
    · intro k22 hk22
      refine sm_if1n (t := v6) (pt := 44) (mCmpB_eq v6) rfl rfl (fun _ => ?_) (fun _ => ?_)
      · refine sm_go 3 (s' := (24, ([lR 56, lI p1, lI p2, lI p3, lI p4], ([sI 1000, sI 0, sI p2, sI (b2i v5), sR 56], (mSH r tl, (G, nk)))))) ?_ rfl
        refine sm_callG (rest := [sI (b2i v5), sR 56]) (T_X11_in scr d r tl nk G p2 0 1000) rfl (Or.inr (Or.inl rfl)) rfl rfl rfl rfl (fun _ => rfl) (fun v23 => (27, ([lR 56, lI p1, lI p2, lI p3, lI p4], ([sI (b2i v23), sI (b2i v5), sR 56], (mSH r tl, (G, nk)))))) (fun _ => rfl) fun v23 => ?_
        refine sm_if1n (t := v23) (pt := 44) (mCmpB_eq v23) rfl rfl (fun _ => ?_) (fun _ => ?_)
        · refine sm_go 3 (s' := (34, ([lR 56, lI p1, lI p2, lI p3, lI p4], ([sI 9, sI 1, sI p3, sI (b2i v5), sR 56], (mSH r tl, (G, nk)))))) ?_ rfl
          refine sm_callG (rest := [sI (b2i v5), sR 56]) (T_X11_in scr d r tl nk G p3 1 9) rfl (Or.inr (Or.inl rfl)) rfl rfl rfl rfl (fun _ => rfl) (fun v24 => (37, ([lR 56, lI p1, lI p2, lI p3, lI p4], ([sI (b2i v24), sI (b2i v5), sR 56], (mSH r tl, (G, nk)))))) (fun _ => rfl) fun v24 => ?_
          refine sm_if1n (t := v24) (pt := 44) (mCmpB_eq v24) rfl rfl (fun _ => ?_) (fun _ => ?_)
          · exact sm_go 2 (hk20 () 1) rfl
          · exact hk22 ()
        · exact hk22 ()
      · exact hk22 ()
noncomputable def P_X10_needJob (p1 : Int) (W : mW) : Option ((Unit ⊕ Nat) × mW) :=
letK (some (.inr 0, (W.1, (W.2.1, (W.2.2.1, (W.2.2.2.1 + 1, W.2.2.2.2 + 6)))))) fun k3 =>
bif (ilt p1 0) then
k3
else
bif (ilt p1 (W.2.2.1 1 0)) then
some (.inl (), W)
else
k3
set_option maxRecDepth 100000 in
theorem T_X10_needJob (scr : mScr) (d : Nat) (W : mW)  (p1 : Int) : SimC scr (d + 1) 121 [sR 0, sI p1] (mkM W) (e2U) (P_X10_needJob p1 W) := by
  refine sm_callX (cs := mc_X10_needJob) (maxL := 2) (rk := 0) (o := 10) (hs := []) (d := d + 0) [lR 0, lI p1] rfl rfl rfl rfl ?_
  unfold P_X10_needJob
  refine sm_letK0 (S := fun (g2 : Unit) => (15, ([lR 0, lI p1], ([], (mSH W.1 W.2.1, (W.2.2.1, W.2.2.2)))))) ?_ ?_
  · intro g2
    exact sm_exc rfl rfl rfl rfl
  · intro k3 hk3
    refine sm_go 1 (s' := (1, ([lR 0, lI p1], ([sI p1], (mSH W.1 W.2.1, (W.2.2.1, W.2.2.2)))))) ?_ rfl
    refine sm_if1 (t := (ilt p1 0)) (pt := 15) rfl rfl rfl (fun _ => ?_) (fun _ => ?_)
    · exact hk3 ()
    · refine sm_go 4 (s' := (12, ([lR 0, lI p1], ([sI (W.2.2.1 1 0), sI p1], (mSH W.1 W.2.1, (W.2.2.1, W.2.2.2)))))) ?_ rfl
      refine sm_if2 (t := (ilt p1 (W.2.2.1 1 0))) (pt := 26) rfl rfl rfl (fun _ => ?_) (fun _ => ?_)
      · exact sm_retU rfl rfl
      · exact hk3 ()
def P_X7_newStep (p1 : Int) (p2 : Int) (p3 : Int) (G : mG) : Option (Int × mG) :=
bif (ilt p1 0) then
some ((-1), G)
else
bif (ilt p1 (G 1 0)) then
(ald G 6 6 p1).bind fun v4 =>
bif (ilt v4 5) then
(ald G 6 6 p1).bind fun v5 =>
(ast G 7 30 ((p1 * 5) + v5) p2).bind fun G6 =>
(ast G6 8 30 ((p1 * 5) + v5) p3).bind fun G7 =>
(ald G7 6 6 p1).bind fun v8 =>
(ast G7 6 6 p1 (v8 + 1)).bind fun G9 =>
some (v5, G9)
else
some ((-1), G)
else
some ((-1), G)
set_option maxRecDepth 100000 in
theorem T_X7_newStep (scr : mScr) (d : Nat) (r : List (Option Nat)) (tl : List mSh) (nk : Nat × Nat) (G : mG)  (p1 : Int) (p2 : Int) (p3 : Int) : SimC scr (d + 1) 36 [sR 1, sI p1, sI p2, sI p3] (mSH r tl, (G, nk)) (e1I r tl nk) (P_X7_newStep p1 p2 p3 G) := by
  refine sm_callX (cs := mc_X7_newStep) (maxL := 5) (rk := 0) (o := 7) (hs := []) (d := d + 0) [lR 1, lI p1, lI p2, lI p3, none] rfl rfl rfl rfl ?_
  unfold P_X7_newStep
  refine sm_go 1 (s' := (1, ([lR 1, lI p1, lI p2, lI p3, none], ([sI p1], (mSH r tl, (G, nk)))))) ?_ rfl
  refine sm_if1 (t := (ilt p1 0)) (pt := 22) rfl rfl rfl (fun _ => ?_) (fun _ => ?_)
  · refine sm_go 1 (s' := (23, ([lR 1, lI p1, lI p2, lI p3, none], ([sI (-1)], (mSH r tl, (G, nk)))))) ?_ rfl
    exact sm_retI rfl rfl rfl
  · refine sm_go 3 (s' := (9, ([lR 1, lI p1, lI p2, lI p3, none], ([sI (G 1 0), sI p1], (mSH r tl, (G, nk)))))) ?_ rfl
    refine sm_if2n (t := (ilt p1 (G 1 0))) (pt := 22) rfl rfl rfl (fun _ => ?_) (fun _ => ?_)
    · refine sm_go 3 (s' := (17, ([lR 1, lI p1, lI p2, lI p3, none], ([sI p1, sR 6], (mSH r tl, (G, nk)))))) ?_ rfl
      refine sm_ald rfl rfl fun v4 => ?_
      refine sm_go 1 (s' := (19, ([lR 1, lI p1, lI p2, lI p3, none], ([sI 5, sI v4], (mSH r tl, (G, nk)))))) ?_ rfl
      refine sm_if2 (t := (ilt v4 5)) (pt := 24) rfl rfl rfl (fun _ => ?_) (fun _ => ?_)
      · refine sm_go 3 (s' := (29, ([lR 1, lI p1, lI p2, lI p3, none], ([sI p1, sR 6], (mSH r tl, (G, nk)))))) ?_ rfl
        refine sm_ald rfl rfl fun v5 => ?_
        refine sm_go 9 (s' := (43, ([lR 1, lI p1, lI p2, lI p3, lI v5], ([sI p2, sI ((p1 * 5) + v5), sR 7], (mSH r tl, (G, nk)))))) ?_ rfl
        refine sm_ast rfl rfl fun G6 => ?_
        refine sm_go 8 (s' := (55, ([lR 1, lI p1, lI p2, lI p3, lI v5], ([sI p3, sI ((p1 * 5) + v5), sR 8], (mSH r tl, (G6, nk)))))) ?_ rfl
        refine sm_ast rfl rfl fun G7 => ?_
        refine sm_go 4 (s' := (62, ([lR 1, lI p1, lI p2, lI p3, lI v5], ([sI p1, sR 6, sI p1, sR 6], (mSH r tl, (G7, nk)))))) ?_ rfl
        refine sm_ald rfl rfl fun v8 => ?_
        refine sm_go 2 (s' := (65, ([lR 1, lI p1, lI p2, lI p3, lI v5], ([sI (v8 + 1), sI p1, sR 6], (mSH r tl, (G7, nk)))))) ?_ rfl
        refine sm_ast rfl rfl fun G9 => ?_
        refine sm_go 1 (s' := (68, ([lR 1, lI p1, lI p2, lI p3, lI v5], ([sI v5], (mSH r tl, (G9, nk)))))) ?_ rfl
        exact sm_retI rfl rfl rfl
      · refine sm_go 1 (s' := (23, ([lR 1, lI p1, lI p2, lI p3, none], ([sI (-1)], (mSH r tl, (G, nk)))))) ?_ rfl
        exact sm_retI rfl rfl rfl
    · refine sm_go 1 (s' := (23, ([lR 1, lI p1, lI p2, lI p3, none], ([sI (-1)], (mSH r tl, (G, nk)))))) ?_ rfl
      exact sm_retI rfl rfl rfl
def P_X11_isJob (p1 : Int) (G : mG) : Option (Bool) :=
(ald G 57 282 0).bind fun v2 =>
(P_X11_in p1 0 (v2 - 1)).bind fun v3 =>
some v3
set_option maxRecDepth 100000 in
theorem T_X11_isJob (scr : mScr) (d : Nat) (r : List (Option Nat)) (tl : List mSh) (nk : Nat × Nat) (G : mG)  (p1 : Int) : SimC scr (d + 2) 148 [sR 56, sI p1] (mSH r tl, (G, nk)) (e0B (mSH r tl, (G, nk))) (P_X11_isJob p1 G) := by
  refine sm_callX (cs := mc_X11_isJob) (maxL := 2) (rk := 1) (o := 11) (hs := []) (d := d + 1) [lR 56, lI p1] rfl rfl rfl rfl ?_
  unfold P_X11_isJob
  refine sm_go 5 (s' := (7, ([lR 56, lI p1], ([sI 0, sR 57, sI 0, sI p1], (mSH r tl, (G, nk)))))) ?_ rfl
  refine sm_ald rfl rfl fun v2 => ?_
  refine sm_go 2 (s' := (10, ([lR 56, lI p1], ([sI (v2 - 1), sI 0, sI p1], (mSH r tl, (G, nk)))))) ?_ rfl
  refine sm_callG (rest := []) (T_X11_in scr d r tl nk G p1 0 (v2 - 1)) rfl (Or.inr (Or.inl rfl)) rfl rfl rfl rfl (fun _ => rfl) (fun v3 => (13, ([lR 56, lI p1], ([sI (b2i v3)], (mSH r tl, (G, nk)))))) (fun _ => rfl) fun v3 => ?_
  exact sm_retB1 rfl rfl
def P_X11_of (p1 : Int) (p2 : Int) (G : mG) : Option (Int) :=
(ald G 57 282 ((61 + (p1 * 15)) + p2)).bind fun v3 =>
some v3
set_option maxRecDepth 100000 in
theorem T_X11_of (scr : mScr) (d : Nat) (r : List (Option Nat)) (tl : List mSh) (nk : Nat × Nat) (G : mG)  (p1 : Int) (p2 : Int) : SimC scr (d + 1) 142 [sR 56, sI p1, sI p2] (mSH r tl, (G, nk)) (e0I (mSH r tl, (G, nk))) (P_X11_of p1 p2 G) := by
  refine sm_callX (cs := mc_X11_of) (maxL := 3) (rk := 0) (o := 11) (hs := []) (d := d + 0) [lR 56, lI p1, lI p2] rfl rfl rfl rfl ?_
  unfold P_X11_of
  refine sm_go 9 (s' := (13, ([lR 56, lI p1, lI p2], ([sI ((61 + (p1 * 15)) + p2), sR 57], (mSH r tl, (G, nk)))))) ?_ rfl
  refine sm_ald rfl rfl fun v3 => ?_
  exact sm_retI rfl rfl rfl
def P_X11_laysStep (p1 : Int) (p2 : Int) (p3 : Int) (G : mG) : Option (Int × mG) :=
(P_X11_of p1 4 G).bind fun v4 =>
(ast G 57 282 (((61 + (p1 * 15)) + 5) + (2 * v4)) p2).bind fun G5 =>
(ast G5 57 282 ((((61 + (p1 * 15)) + 5) + (2 * v4)) + 1) p3).bind fun G6 =>
(ald G6 57 282 ((61 + (p1 * 15)) + 4)).bind fun v7 =>
(ast G6 57 282 ((61 + (p1 * 15)) + 4) (v7 + 1)).bind fun G8 =>
some (v4, G8)
set_option maxRecDepth 100000 in
theorem T_X11_laysStep (scr : mScr) (d : Nat) (r : List (Option Nat)) (tl : List mSh) (nk : Nat × Nat) (G : mG)  (p1 : Int) (p2 : Int) (p3 : Int) : SimC scr (d + 2) 141 [sR 56, sI p1, sI p2, sI p3] (mSH r tl, (G, nk)) (e1I r tl nk) (P_X11_laysStep p1 p2 p3 G) := by
  refine sm_callX (cs := mc_X11_laysStep) (maxL := 6) (rk := 0) (o := 11) (hs := []) (d := d + 1) [lR 56, lI p1, lI p2, lI p3, none, none] rfl rfl rfl rfl ?_
  unfold P_X11_laysStep
  refine sm_go 3 (s' := (3, ([lR 56, lI p1, lI p2, lI p3, none, none], ([sI 4, sI p1, sR 56], (mSH r tl, (G, nk)))))) ?_ rfl
  refine sm_callG (rest := []) (T_X11_of scr d r tl nk G p1 4) rfl (Or.inl rfl) rfl rfl rfl rfl (fun _ => rfl) (fun v4 => (6, ([lR 56, lI p1, lI p2, lI p3, none, none], ([sI v4], (mSH r tl, (G, nk)))))) (fun _ => rfl) fun v4 => ?_
  refine sm_go 17 (s' := (31, ([lR 56, lI p1, lI p2, lI p3, lI v4, lI (61 + (p1 * 15))], ([sI p2, sI (((61 + (p1 * 15)) + 5) + (2 * v4)), sR 57], (mSH r tl, (G, nk)))))) ?_ rfl
  refine sm_ast rfl rfl fun G5 => ?_
  refine sm_go 12 (s' := (48, ([lR 56, lI p1, lI p2, lI p3, lI v4, lI (61 + (p1 * 15))], ([sI p3, sI ((((61 + (p1 * 15)) + 5) + (2 * v4)) + 1), sR 57], (mSH r tl, (G5, nk)))))) ?_ rfl
  refine sm_ast rfl rfl fun G6 => ?_
  refine sm_go 6 (s' := (58, ([lR 56, lI p1, lI p2, lI p3, lI v4, lI (61 + (p1 * 15))], ([sI ((61 + (p1 * 15)) + 4), sR 57, sI ((61 + (p1 * 15)) + 4), sR 57], (mSH r tl, (G6, nk)))))) ?_ rfl
  refine sm_ald rfl rfl fun v7 => ?_
  refine sm_go 2 (s' := (61, ([lR 56, lI p1, lI p2, lI p3, lI v4, lI (61 + (p1 * 15))], ([sI (v7 + 1), sI ((61 + (p1 * 15)) + 4), sR 57], (mSH r tl, (G6, nk)))))) ?_ rfl
  refine sm_ast rfl rfl fun G8 => ?_
  refine sm_go 1 (s' := (64, ([lR 56, lI p1, lI p2, lI p3, lI v4, lI (61 + (p1 * 15))], ([sI v4], (mSH r tl, (G8, nk)))))) ?_ rfl
  exact sm_retI rfl rfl rfl
def P_X11_addStep (p1 : Int) (p2 : Int) (p3 : Int) (G : mG) : Option (Int × mG) :=
(P_X11_isJob p1 G).bind fun v4 =>
letK (fun (x5 : Int) =>
(P_X11_in p3 1 50).bind fun v7 =>
(P_X11_isJob p1 G).bind fun v8 =>
letK (fun (x9 : Int) =>
(P_X11_fits x5 (b2i v7) x9 G).bind fun z11 =>
bif z11.1 then
(P_X11_keeps z11.2).bind fun G12 =>
(P_X11_noPlan G12).bind fun G13 =>
(P_X11_laysStep p1 p2 p3 G13).bind fun z14 =>
some (z14.1, z14.2)
else
some (0, z11.2)) fun k15 =>
letK (k15 0) fun k17 =>
bif v8 then
(P_X11_of p1 4 G).bind fun v18 =>
bif (ilt v18 5) then
k15 1
else
k17
else
k17) fun k19 =>
letK (k19 0) fun k21 =>
bif v4 then
(P_X11_in p2 0 3).bind fun v22 =>
bif v22 then
k19 1
else
k21
else
k21
set_option maxRecDepth 100000 in
theorem T_X11_addStep (scr : mScr) (d : Nat) (r : List (Option Nat)) (tl : List mSh) (nk : Nat × Nat) (G : mG)  (p1 : Int) (p2 : Int) (p3 : Int) : SimC scr (d + 3) 172 [sR 56, sI p1, sI p2, sI p3] (mSH r tl, (G, nk)) (e1I r tl nk) (P_X11_addStep p1 p2 p3 G) := by
  refine sm_callX (cs := mc_X11_addStep) (maxL := 4) (rk := 0) (o := 11) (hs := []) (d := d + 2) [lR 56, lI p1, lI p2, lI p3] rfl rfl rfl rfl ?_
  unfold P_X11_addStep
  refine sm_go 3 (s' := (3, ([lR 56, lI p1, lI p2, lI p3], ([sI p1, sR 56, sR 56], (mSH r tl, (G, nk)))))) ?_ rfl
  refine sm_callG (rest := [sR 56]) (T_X11_isJob scr d r tl nk G p1) rfl (Or.inl rfl) rfl rfl rfl rfl (fun _ => rfl) (fun v4 => (6, ([lR 56, lI p1, lI p2, lI p3], ([sI (b2i v4), sR 56], (mSH r tl, (G, nk)))))) (fun _ => rfl) fun v4 => ?_
  refine sm_letK1 (S := fun (g6 : Unit) (x5 : Int) => (23, ([lR 56, lI p1, lI p2, lI p3], ([sI x5, sR 56], (mSH r tl, (G, nk)))))) ?_ ?_
  · intro g6 x5
    refine sm_go 3 (s' := (27, ([lR 56, lI p1, lI p2, lI p3], ([sI 50, sI 1, sI p3, sI x5, sR 56], (mSH r tl, (G, nk)))))) ?_ rfl
    refine sm_callG (rest := [sI x5, sR 56]) (T_X11_in scr (d + 1) r tl nk G p3 1 50) rfl (Or.inr (Or.inl rfl)) rfl rfl rfl rfl (fun _ => rfl) (fun v7 => (30, ([lR 56, lI p1, lI p2, lI p3], ([sI (b2i v7), sI x5, sR 56], (mSH r tl, (G, nk)))))) (fun _ => rfl) fun v7 => ?_
    refine sm_go 2 (s' := (32, ([lR 56, lI p1, lI p2, lI p3], ([sI p1, sR 56, sI (b2i v7), sI x5, sR 56], (mSH r tl, (G, nk)))))) ?_ rfl
    refine sm_callG (rest := [sI (b2i v7), sI x5, sR 56]) (T_X11_isJob scr d r tl nk G p1) rfl (Or.inl rfl) rfl rfl rfl rfl (fun _ => rfl) (fun v8 => (35, ([lR 56, lI p1, lI p2, lI p3], ([sI (b2i v8), sI (b2i v7), sI x5, sR 56], (mSH r tl, (G, nk)))))) (fun _ => rfl) fun v8 => ?_
    refine sm_letK1 (S := fun (g10 : Unit) (x9 : Int) => (53, ([lR 56, lI p1, lI p2, lI p3], ([sI x9, sI (b2i v7), sI x5, sR 56], (mSH r tl, (G, nk)))))) ?_ ?_
    · intro g10 x9
      refine sm_callG (rest := []) (T_X11_fits scr (d + 1) r tl nk G x5 (b2i v7) x9) rfl (Or.inl rfl) rfl rfl rfl rfl (fun _ => rfl) (fun z11 => (56, ([lR 56, lI p1, lI p2, lI p3], ([sI (b2i z11.1)], (mSH r tl, (z11.2, nk)))))) (fun _ => rfl) fun z11 => ?_
      refine sm_if1 (t := z11.1) (pt := 61) (mCmpB_ne z11.1) rfl rfl (fun _ => ?_) (fun _ => ?_)
      · refine sm_go 1 (s' := (62, ([lR 56, lI p1, lI p2, lI p3], ([sR 56], (mSH r tl, (z11.2, nk)))))) ?_ rfl
        refine sm_callG (rest := []) (T_X11_keeps scr (d + 1) r tl nk z11.2) rfl (Or.inl rfl) rfl rfl rfl rfl (fun _ => rfl) (fun G12 => (65, ([lR 56, lI p1, lI p2, lI p3], ([], (mSH r tl, (G12, nk)))))) (fun _ => rfl) fun G12 => ?_
        refine sm_go 1 (s' := (66, ([lR 56, lI p1, lI p2, lI p3], ([sR 56], (mSH r tl, (G12, nk)))))) ?_ rfl
        refine sm_callG (rest := []) (T_X11_noPlan scr (d + 1) r tl nk G12) rfl (Or.inl rfl) rfl rfl rfl rfl (fun _ => rfl) (fun G13 => (69, ([lR 56, lI p1, lI p2, lI p3], ([], (mSH r tl, (G13, nk)))))) (fun _ => rfl) fun G13 => ?_
        refine sm_go 4 (s' := (73, ([lR 56, lI p1, lI p2, lI p3], ([sI p3, sI p2, sI p1, sR 56], (mSH r tl, (G13, nk)))))) ?_ rfl
        refine sm_callG (rest := []) (T_X11_laysStep scr d r tl nk G13 p1 p2 p3) rfl (Or.inl rfl) rfl rfl rfl rfl (fun _ => rfl) (fun z14 => (76, ([lR 56, lI p1, lI p2, lI p3], ([sI z14.1], (mSH r tl, (z14.2, nk)))))) (fun _ => rfl) fun z14 => ?_
        exact sm_retI rfl rfl rfl
      · refine sm_go 1 (s' := (60, ([lR 56, lI p1, lI p2, lI p3], ([sI 0], (mSH r tl, (z11.2, nk)))))) ?_ rfl
        exact sm_retI rfl rfl rfl
    · intro k15 hk15
      refine sm_letK0 (S := fun (g16 : Unit) => (52, ([lR 56, lI p1, lI p2, lI p3], ([sI (b2i v7), sI x5, sR 56], (mSH r tl, (G, nk)))))) ?_ ?_
      · intro g16
        exact sm_go 1 (hk15 () 0) rfl
      · intro k17 hk17
        refine sm_if1n (t := v8) (pt := 52) (mCmpB_eq v8) rfl rfl (fun _ => ?_) (fun _ => ?_)
        · refine sm_go 3 (s' := (41, ([lR 56, lI p1, lI p2, lI p3], ([sI 4, sI p1, sR 56, sI (b2i v7), sI x5, sR 56], (mSH r tl, (G, nk)))))) ?_ rfl
          refine sm_callG (rest := [sI (b2i v7), sI x5, sR 56]) (T_X11_of scr (d + 1) r tl nk G p1 4) rfl (Or.inl rfl) rfl rfl rfl rfl (fun _ => rfl) (fun v18 => (44, ([lR 56, lI p1, lI p2, lI p3], ([sI v18, sI (b2i v7), sI x5, sR 56], (mSH r tl, (G, nk)))))) (fun _ => rfl) fun v18 => ?_
          refine sm_go 1 (s' := (45, ([lR 56, lI p1, lI p2, lI p3], ([sI 5, sI v18, sI (b2i v7), sI x5, sR 56], (mSH r tl, (G, nk)))))) ?_ rfl
          refine sm_if2n (t := (ilt v18 5)) (pt := 52) rfl rfl rfl (fun _ => ?_) (fun _ => ?_)
          · exact sm_go 2 (hk15 () 1) rfl
          · exact hk17 ()
        · exact hk17 ()
  · intro k19 hk19
    refine sm_letK0 (S := fun (g20 : Unit) => (22, ([lR 56, lI p1, lI p2, lI p3], ([sR 56], (mSH r tl, (G, nk)))))) ?_ ?_
    · intro g20
      exact sm_go 1 (hk19 () 0) rfl
    · intro k21 hk21
      refine sm_if1n (t := v4) (pt := 22) (mCmpB_eq v4) rfl rfl (fun _ => ?_) (fun _ => ?_)
      · refine sm_go 3 (s' := (12, ([lR 56, lI p1, lI p2, lI p3], ([sI 3, sI 0, sI p2, sR 56], (mSH r tl, (G, nk)))))) ?_ rfl
        refine sm_callG (rest := [sR 56]) (T_X11_in scr (d + 1) r tl nk G p2 0 3) rfl (Or.inr (Or.inl rfl)) rfl rfl rfl rfl (fun _ => rfl) (fun v22 => (15, ([lR 56, lI p1, lI p2, lI p3], ([sI (b2i v22), sR 56], (mSH r tl, (G, nk)))))) (fun _ => rfl) fun v22 => ?_
        refine sm_if1n (t := v22) (pt := 22) (mCmpB_eq v22) rfl rfl (fun _ => ?_) (fun _ => ?_)
        · exact sm_go 2 (hk19 () 1) rfl
        · exact hk21 ()
      · exact hk21 ()
def P_X7_canBeHalved (p1 : Int) (G : mG) : Option (Bool) :=
letK ((ald G 6 6 p1).bind fun v3 =>
bif (ilt 0 v3) then
some true
else
some false) fun k4 =>
loop1 LF (fun again7 (x5 : Int) =>
(ald G 6 6 p1).bind fun v8 =>
bif (ilt x5 v8) then
(ald G 8 30 ((p1 * 5) + x5)).bind fun v9 =>
bif (ilt v9 2) then
some false
else
again7 (x5 + 1)
else
k4) 0
set_option maxRecDepth 100000 in
theorem T_X7_canBeHalved (scr : mScr) (d : Nat) (r : List (Option Nat)) (tl : List mSh) (nk : Nat × Nat) (G : mG)  (p1 : Int) : SimC scr (d + 1) 38 [sR 1, sI p1] (mSH r tl, (G, nk)) (e0B (mSH r tl, (G, nk))) (P_X7_canBeHalved p1 G) := by
  refine sm_callX (cs := mc_X7_canBeHalved) (maxL := 3) (rk := 1) (o := 7) (hs := []) (d := d + 0) [lR 1, lI p1, none] rfl rfl rfl rfl ?_
  unfold P_X7_canBeHalved
  refine sm_go 2 (s' := (2, ([lR 1, lI p1, lI 0], ([], (mSH r tl, (G, nk)))))) ?_ rfl
  refine sm_letK0 (S := fun (g2 : Option mV) => (34, ([lR 1, lI p1, g2], ([], (mSH r tl, (G, nk)))))) ?_ ?_
  · intro g2
    refine sm_go 3 (s' := (39, ([lR 1, lI p1, g2], ([sI p1, sR 6], (mSH r tl, (G, nk)))))) ?_ rfl
    refine sm_ald rfl rfl fun v3 => ?_
    refine sm_if1n (t := (ilt 0 v3)) (pt := 47) rfl rfl rfl (fun _ => ?_) (fun _ => ?_)
    · refine sm_go 2 (s' := (48, ([lR 1, lI p1, g2], ([sI 1], (mSH r tl, (G, nk)))))) ?_ rfl
      exact sm_retB1 (b := true) rfl rfl
    · refine sm_go 1 (s' := (48, ([lR 1, lI p1, g2], ([sI 0], (mSH r tl, (G, nk)))))) ?_ rfl
      exact sm_retB1 (b := false) rfl rfl
  · intro k4 hk4
    refine sm_loop1 (S := fun (g6 : Unit) (x5 : Int) => (2, ([lR 1, lI p1, lI x5], ([], (mSH r tl, (G, nk)))))) ?_ LF () 0
    intro again7 hagain7 g6 x5
    refine sm_go 4 (s' := (8, ([lR 1, lI p1, lI x5], ([sI p1, sR 6, sI x5], (mSH r tl, (G, nk)))))) ?_ rfl
    refine sm_ald rfl rfl fun v8 => ?_
    refine sm_if2n (t := (ilt x5 v8)) (pt := 34) rfl rfl rfl (fun _ => ?_) (fun _ => ?_)
    · refine sm_go 7 (s' := (21, ([lR 1, lI p1, lI x5], ([sI ((p1 * 5) + x5), sR 8], (mSH r tl, (G, nk)))))) ?_ rfl
      refine sm_ald rfl rfl fun v9 => ?_
      refine sm_go 1 (s' := (23, ([lR 1, lI p1, lI x5], ([sI 2, sI v9], (mSH r tl, (G, nk)))))) ?_ rfl
      refine sm_if2n (t := (ilt v9 2)) (pt := 28) rfl rfl rfl (fun _ => ?_) (fun _ => ?_)
      · refine sm_go 1 (s' := (27, ([lR 1, lI p1, lI x5], ([sI 0], (mSH r tl, (G, nk)))))) ?_ rfl
        exact sm_retB1 (b := false) rfl rfl
      · exact sm_go 2 (hagain7 () (x5 + 1)) rfl
    · exact hk4 (lI x5)
def P_X7_halve (p1 : Int) (G : mG) : Option (Int × mG) :=
(ald G 2 6 p1).bind fun v2 =>
(ald G 3 6 p1).bind fun v3 =>
(ald G 4 6 p1).bind fun v4 =>
(ald G 5 6 p1).bind fun v5 =>
(P_X7_newJob v2 v3 v4 v5 G).bind fun z6 =>
loop2 LF (fun again10 (x7 : Int) (G8 : mG) =>
(ald G8 6 6 p1).bind fun v11 =>
bif (ilt x7 v11) then
(ald G8 8 30 ((p1 * 5) + x7)).bind fun v12 =>
(ald G8 7 30 ((p1 * 5) + x7)).bind fun v13 =>
(P_X7_newStep z6.1 v13 (iDiv v12 2) G8).bind fun z14 =>
(ald z14.2 8 30 ((p1 * 5) + x7)).bind fun v15 =>
(ast z14.2 8 30 ((p1 * 5) + x7) (v15 - (iDiv v12 2))).bind fun G16 =>
again10 (x7 + 1) G16
else
some (z6.1, G8)) 0 z6.2
set_option maxRecDepth 100000 in
theorem T_X7_halve (scr : mScr) (d : Nat) (r : List (Option Nat)) (tl : List mSh) (nk : Nat × Nat) (G : mG)  (p1 : Int) : SimC scr (d + 2) 39 [sR 1, sI p1] (mSH r tl, (G, nk)) (e1I r tl nk) (P_X7_halve p1 G) := by
  refine sm_callX (cs := mc_X7_halve) (maxL := 6) (rk := 0) (o := 7) (hs := []) (d := d + 1) [lR 1, lI p1, none, none, none, none] rfl rfl rfl rfl ?_
  unfold P_X7_halve
  refine sm_go 4 (s' := (6, ([lR 1, lI p1, none, none, none, none], ([sI p1, sR 2, sR 1], (mSH r tl, (G, nk)))))) ?_ rfl
  refine sm_ald rfl rfl fun v2 => ?_
  refine sm_go 3 (s' := (12, ([lR 1, lI p1, none, none, none, none], ([sI p1, sR 3, sI v2, sR 1], (mSH r tl, (G, nk)))))) ?_ rfl
  refine sm_ald rfl rfl fun v3 => ?_
  refine sm_go 3 (s' := (18, ([lR 1, lI p1, none, none, none, none], ([sI p1, sR 4, sI v3, sI v2, sR 1], (mSH r tl, (G, nk)))))) ?_ rfl
  refine sm_ald rfl rfl fun v4 => ?_
  refine sm_go 3 (s' := (24, ([lR 1, lI p1, none, none, none, none], ([sI p1, sR 5, sI v4, sI v3, sI v2, sR 1], (mSH r tl, (G, nk)))))) ?_ rfl
  refine sm_ald rfl rfl fun v5 => ?_
  refine sm_callG (rest := []) (T_X7_newJob scr d r tl nk G v2 v3 v4 v5) rfl (Or.inl rfl) rfl rfl rfl rfl (fun _ => rfl) (fun z6 => (28, ([lR 1, lI p1, none, none, none, none], ([sI z6.1], (mSH r tl, (z6.2, nk)))))) (fun _ => rfl) fun z6 => ?_
  refine sm_go 3 (s' := (31, ([lR 1, lI p1, lI z6.1, lI 0, none, none], ([], (mSH r tl, (z6.2, nk)))))) ?_ rfl
  refine sm_loop2 (S := fun (g9 : Option mV × Option mV) (x7 : Int) (G8 : mG) => (31, ([lR 1, lI p1, lI z6.1, lI x7, g9.1, g9.2], ([], (mSH r tl, (G8, nk)))))) ?_ LF (none, none) 0 z6.2
  intro again10 hagain10 g9 x7 G8
  refine sm_go 4 (s' := (37, ([lR 1, lI p1, lI z6.1, lI x7, g9.1, g9.2], ([sI p1, sR 6, sI x7], (mSH r tl, (G8, nk)))))) ?_ rfl
  refine sm_ald rfl rfl fun v11 => ?_
  refine sm_if2n (t := (ilt x7 v11)) (pt := 92) rfl rfl rfl (fun _ => ?_) (fun _ => ?_)
  · refine sm_go 9 (s' := (54, ([lR 1, lI p1, lI z6.1, lI x7, lI ((p1 * 5) + x7), g9.2], ([sI ((p1 * 5) + x7), sR 8], (mSH r tl, (G8, nk)))))) ?_ rfl
    refine sm_ald rfl rfl fun v12 => ?_
    refine sm_go 8 (s' := (67, ([lR 1, lI p1, lI z6.1, lI x7, lI ((p1 * 5) + x7), lI (iDiv v12 2)], ([sI ((p1 * 5) + x7), sR 7, sI z6.1, sR 1], (mSH r tl, (G8, nk)))))) ?_ rfl
    refine sm_ald rfl rfl fun v13 => ?_
    refine sm_go 1 (s' := (70, ([lR 1, lI p1, lI z6.1, lI x7, lI ((p1 * 5) + x7), lI (iDiv v12 2)], ([sI (iDiv v12 2), sI v13, sI z6.1, sR 1], (mSH r tl, (G8, nk)))))) ?_ rfl
    refine sm_callG (rest := []) (T_X7_newStep scr d r tl nk G8 z6.1 v13 (iDiv v12 2)) rfl (Or.inl rfl) rfl rfl rfl rfl (fun _ => rfl) (fun z14 => (73, ([lR 1, lI p1, lI z6.1, lI x7, lI ((p1 * 5) + x7), lI (iDiv v12 2)], ([sI z14.1], (mSH r tl, (z14.2, nk)))))) (fun _ => rfl) fun z14 => ?_
    refine sm_go 5 (s' := (81, ([lR 1, lI p1, lI z6.1, lI x7, lI ((p1 * 5) + x7), lI (iDiv v12 2)], ([sI ((p1 * 5) + x7), sR 8, sI ((p1 * 5) + x7), sR 8], (mSH r tl, (z14.2, nk)))))) ?_ rfl
    refine sm_ald rfl rfl fun v15 => ?_
    refine sm_go 2 (s' := (85, ([lR 1, lI p1, lI z6.1, lI x7, lI ((p1 * 5) + x7), lI (iDiv v12 2)], ([sI (v15 - (iDiv v12 2)), sI ((p1 * 5) + x7), sR 8], (mSH r tl, (z14.2, nk)))))) ?_ rfl
    refine sm_ast rfl rfl fun G16 => ?_
    exact sm_go 2 (hagain10 (lI ((p1 * 5) + x7), lI (iDiv v12 2)) (x7 + 1) G16) rfl
  · refine sm_go 1 (s' := (93, ([lR 1, lI p1, lI z6.1, lI x7, g9.1, g9.2], ([sI z6.1], (mSH r tl, (G8, nk)))))) ?_ rfl
    exact sm_retI rfl rfl rfl
def P_X11_hoursOf (p1 : Int) (p2 : Int) (G : mG) : Option (Int) :=
(P_X11_of p1 ((5 + (2 * p2)) + 1) G).bind fun v3 =>
some v3
set_option maxRecDepth 100000 in
theorem T_X11_hoursOf (scr : mScr) (d : Nat) (r : List (Option Nat)) (tl : List mSh) (nk : Nat × Nat) (G : mG)  (p1 : Int) (p2 : Int) : SimC scr (d + 2) 144 [sR 56, sI p1, sI p2] (mSH r tl, (G, nk)) (e0I (mSH r tl, (G, nk))) (P_X11_hoursOf p1 p2 G) := by
  refine sm_callX (cs := mc_X11_hoursOf) (maxL := 3) (rk := 0) (o := 11) (hs := []) (d := d + 1) [lR 56, lI p1, lI p2] rfl rfl rfl rfl ?_
  unfold P_X11_hoursOf
  refine sm_go 9 (s' := (9, ([lR 56, lI p1, lI p2], ([sI ((5 + (2 * p2)) + 1), sI p1, sR 56], (mSH r tl, (G, nk)))))) ?_ rfl
  refine sm_callG (rest := []) (T_X11_of scr d r tl nk G p1 ((5 + (2 * p2)) + 1)) rfl (Or.inl rfl) rfl rfl rfl rfl (fun _ => rfl) (fun v3 => (12, ([lR 56, lI p1, lI p2], ([sI v3], (mSH r tl, (G, nk)))))) (fun _ => rfl) fun v3 => ?_
  exact sm_retI rfl rfl rfl
def P_X11_machineOf (p1 : Int) (p2 : Int) (G : mG) : Option (Int) :=
(P_X11_of p1 (5 + (2 * p2)) G).bind fun v3 =>
some v3
set_option maxRecDepth 100000 in
theorem T_X11_machineOf (scr : mScr) (d : Nat) (r : List (Option Nat)) (tl : List mSh) (nk : Nat × Nat) (G : mG)  (p1 : Int) (p2 : Int) : SimC scr (d + 2) 143 [sR 56, sI p1, sI p2] (mSH r tl, (G, nk)) (e0I (mSH r tl, (G, nk))) (P_X11_machineOf p1 p2 G) := by
  refine sm_callX (cs := mc_X11_machineOf) (maxL := 3) (rk := 0) (o := 11) (hs := []) (d := d + 1) [lR 56, lI p1, lI p2] rfl rfl rfl rfl ?_
  unfold P_X11_machineOf
  refine sm_go 7 (s' := (7, ([lR 56, lI p1, lI p2], ([sI (5 + (2 * p2)), sI p1, sR 56], (mSH r tl, (G, nk)))))) ?_ rfl
  refine sm_callG (rest := []) (T_X11_of scr d r tl nk G p1 (5 + (2 * p2))) rfl (Or.inl rfl) rfl rfl rfl rfl (fun _ => rfl) (fun v3 => (10, ([lR 56, lI p1, lI p2], ([sI v3], (mSH r tl, (G, nk)))))) (fun _ => rfl) fun v3 => ?_
  exact sm_retI rfl rfl rfl
def P_X11_cut (p1 : Int) (G : mG) : Option (Int × mG) :=
(P_X11_isJob p1 G).bind fun v2 =>
letK (fun (x3 : Int) =>
letK (fun (x5 : Int) =>
(P_X11_isJob p1 G).bind fun v7 =>
(P_X11_fits (b2i v7) x5 1 G).bind fun z8 =>
bif z8.1 then
(P_X11_keeps z8.2).bind fun G9 =>
(P_X11_of p1 0 G9).bind fun v10 =>
(P_X11_of p1 1 G9).bind fun v11 =>
(P_X11_of p1 3 G9).bind fun v12 =>
(P_X11_laysJob v10 v11 v12 G9).bind fun G13 =>
(ald G13 57 282 0).bind fun v14 =>
(P_X11_of p1 2 G13).bind fun v15 =>
(ast G13 57 282 ((61 + ((v14 - 1) * 15)) + 2) v15).bind fun G16 =>
letK (fun (G17 : mG) =>
(P_X11_noPlan G17).bind fun G19 =>
some ((v14 - 1), G19)) fun k20 =>
loop2 LF (fun again24 (x21 : Int) (G22 : mG) =>
(P_X11_of p1 4 G22).bind fun v25 =>
bif (ilt x21 v25) then
(P_X11_hoursOf p1 x21 G22).bind fun v26 =>
(P_X11_machineOf p1 x21 G22).bind fun v27 =>
(P_X11_laysStep (v14 - 1) v27 (iDiv v26 2) G22).bind fun z28 =>
(ald z28.2 57 282 ((((61 + (p1 * 15)) + 5) + (2 * x21)) + 1)).bind fun v29 =>
(ast z28.2 57 282 ((((61 + (p1 * 15)) + 5) + (2 * x21)) + 1) (v29 - (iDiv v26 2))).bind fun G30 =>
again24 (x21 + 1) G30
else
k20 G22) 0 G16
else
some (0, z8.2)) fun k31 =>
loop2 LF (fun again35 (x32 : Int) (x33 : Int) =>
bif (ieq x32 0) then
k31 x32
else
(P_X11_of p1 4 G).bind fun v36 =>
bif (ilt x33 v36) then
(P_X11_hoursOf p1 x33 G).bind fun v37 =>
letK (fun (x38 : Int) =>
again35 x38 (x33 + 1)) fun k40 =>
bif (ilt v37 2) then
k40 0
else
k40 1
else
k31 x32) x3 0) fun k41 =>
letK (k41 0) fun k43 =>
bif v2 then
(ald G 57 282 0).bind fun v44 =>
bif (ilt v44 6) then
(P_X11_of p1 4 G).bind fun v45 =>
bif (ilt 0 v45) then
k41 1
else
k43
else
k43
else
k43
set_option maxRecDepth 100000 in
theorem T_X11_cut (scr : mScr) (d : Nat) (r : List (Option Nat)) (tl : List mSh) (nk : Nat × Nat) (G : mG)  (p1 : Int) : SimC scr (d + 3) 173 [sR 56, sI p1] (mSH r tl, (G, nk)) (e1I r tl nk) (P_X11_cut p1 G) := by
  refine sm_callX (cs := mc_X11_cut) (maxL := 7) (rk := 0) (o := 11) (hs := []) (d := d + 2) [lR 56, lI p1, none, none, none, none, none] rfl rfl rfl rfl ?_
  unfold P_X11_cut
  refine sm_go 2 (s' := (2, ([lR 56, lI p1, none, none, none, none, none], ([sI p1, sR 56], (mSH r tl, (G, nk)))))) ?_ rfl
  refine sm_callG (rest := []) (T_X11_isJob scr d r tl nk G p1) rfl (Or.inl rfl) rfl rfl rfl rfl (fun _ => rfl) (fun v2 => (5, ([lR 56, lI p1, none, none, none, none, none], ([sI (b2i v2)], (mSH r tl, (G, nk)))))) (fun _ => rfl) fun v2 => ?_
  refine sm_letK1 (S := fun (g4 : Unit) (x3 : Int) => (33, ([lR 56, lI p1, none, none, none, none, none], ([sI x3], (mSH r tl, (G, nk)))))) ?_ ?_
  · intro g4 x3
    refine sm_go 3 (s' := (36, ([lR 56, lI p1, lI x3, lI 0, none, none, none], ([], (mSH r tl, (G, nk)))))) ?_ rfl
    refine sm_letK1 (S := fun (g6 : Option mV) (x5 : Int) => (72, ([lR 56, lI p1, lI x5, g6, none, none, none], ([], (mSH r tl, (G, nk)))))) ?_ ?_
    · intro g6 x5
      refine sm_go 3 (s' := (75, ([lR 56, lI p1, lI x5, g6, none, none, none], ([sI p1, sR 56, sR 56], (mSH r tl, (G, nk)))))) ?_ rfl
      refine sm_callG (rest := [sR 56]) (T_X11_isJob scr d r tl nk G p1) rfl (Or.inl rfl) rfl rfl rfl rfl (fun _ => rfl) (fun v7 => (78, ([lR 56, lI p1, lI x5, g6, none, none, none], ([sI (b2i v7), sR 56], (mSH r tl, (G, nk)))))) (fun _ => rfl) fun v7 => ?_
      refine sm_go 2 (s' := (80, ([lR 56, lI p1, lI x5, g6, none, none, none], ([sI 1, sI x5, sI (b2i v7), sR 56], (mSH r tl, (G, nk)))))) ?_ rfl
      refine sm_callG (rest := []) (T_X11_fits scr (d + 1) r tl nk G (b2i v7) x5 1) rfl (Or.inl rfl) rfl rfl rfl rfl (fun _ => rfl) (fun z8 => (83, ([lR 56, lI p1, lI x5, g6, none, none, none], ([sI (b2i z8.1)], (mSH r tl, (z8.2, nk)))))) (fun _ => rfl) fun z8 => ?_
      refine sm_if1 (t := z8.1) (pt := 88) (mCmpB_ne z8.1) rfl rfl (fun _ => ?_) (fun _ => ?_)
      · refine sm_go 1 (s' := (89, ([lR 56, lI p1, lI x5, g6, none, none, none], ([sR 56], (mSH r tl, (z8.2, nk)))))) ?_ rfl
        refine sm_callG (rest := []) (T_X11_keeps scr (d + 1) r tl nk z8.2) rfl (Or.inl rfl) rfl rfl rfl rfl (fun _ => rfl) (fun G9 => (92, ([lR 56, lI p1, lI x5, g6, none, none, none], ([], (mSH r tl, (G9, nk)))))) (fun _ => rfl) fun G9 => ?_
        refine sm_go 4 (s' := (96, ([lR 56, lI p1, lI x5, g6, none, none, none], ([sI 0, sI p1, sR 56, sR 56], (mSH r tl, (G9, nk)))))) ?_ rfl
        refine sm_callG (rest := [sR 56]) (T_X11_of scr (d + 1) r tl nk G9 p1 0) rfl (Or.inl rfl) rfl rfl rfl rfl (fun _ => rfl) (fun v10 => (99, ([lR 56, lI p1, lI x5, g6, none, none, none], ([sI v10, sR 56], (mSH r tl, (G9, nk)))))) (fun _ => rfl) fun v10 => ?_
        refine sm_go 3 (s' := (102, ([lR 56, lI p1, lI x5, g6, none, none, none], ([sI 1, sI p1, sR 56, sI v10, sR 56], (mSH r tl, (G9, nk)))))) ?_ rfl
        refine sm_callG (rest := [sI v10, sR 56]) (T_X11_of scr (d + 1) r tl nk G9 p1 1) rfl (Or.inl rfl) rfl rfl rfl rfl (fun _ => rfl) (fun v11 => (105, ([lR 56, lI p1, lI x5, g6, none, none, none], ([sI v11, sI v10, sR 56], (mSH r tl, (G9, nk)))))) (fun _ => rfl) fun v11 => ?_
        refine sm_go 3 (s' := (108, ([lR 56, lI p1, lI x5, g6, none, none, none], ([sI 3, sI p1, sR 56, sI v11, sI v10, sR 56], (mSH r tl, (G9, nk)))))) ?_ rfl
        refine sm_callG (rest := [sI v11, sI v10, sR 56]) (T_X11_of scr (d + 1) r tl nk G9 p1 3) rfl (Or.inl rfl) rfl rfl rfl rfl (fun _ => rfl) (fun v12 => (111, ([lR 56, lI p1, lI x5, g6, none, none, none], ([sI v12, sI v11, sI v10, sR 56], (mSH r tl, (G9, nk)))))) (fun _ => rfl) fun v12 => ?_
        refine sm_callG (rest := []) (T_X11_laysJob scr (d + 1) r tl nk G9 v10 v11 v12) rfl (Or.inl rfl) rfl rfl rfl rfl (fun _ => rfl) (fun G13 => (114, ([lR 56, lI p1, lI x5, g6, none, none, none], ([], (mSH r tl, (G13, nk)))))) (fun _ => rfl) fun G13 => ?_
        refine sm_go 3 (s' := (119, ([lR 56, lI p1, lI x5, g6, none, none, none], ([sI 0, sR 57], (mSH r tl, (G13, nk)))))) ?_ rfl
        refine sm_ald rfl rfl fun v14 => ?_
        refine sm_go 15 (s' := (139, ([lR 56, lI p1, lI x5, lI (v14 - 1), none, none, none], ([sI 2, sI p1, sR 56, sI ((61 + ((v14 - 1) * 15)) + 2), sR 57], (mSH r tl, (G13, nk)))))) ?_ rfl
        refine sm_callG (rest := [sI ((61 + ((v14 - 1) * 15)) + 2), sR 57]) (T_X11_of scr (d + 1) r tl nk G13 p1 2) rfl (Or.inl rfl) rfl rfl rfl rfl (fun _ => rfl) (fun v15 => (142, ([lR 56, lI p1, lI x5, lI (v14 - 1), none, none, none], ([sI v15, sI ((61 + ((v14 - 1) * 15)) + 2), sR 57], (mSH r tl, (G13, nk)))))) (fun _ => rfl) fun v15 => ?_
        refine sm_ast rfl rfl fun G16 => ?_
        refine sm_go 2 (s' := (146, ([lR 56, lI p1, lI x5, lI (v14 - 1), lI 0, none, none], ([], (mSH r tl, (G16, nk)))))) ?_ rfl
        refine sm_letK1 (S := fun (g18 : Option mV × Option mV × Option mV) (G17 : mG) => (216, ([lR 56, lI p1, lI x5, lI (v14 - 1), g18.1, g18.2.1, g18.2.2], ([], (mSH r tl, (G17, nk)))))) ?_ ?_
        · intro g18 G17
          refine sm_go 1 (s' := (217, ([lR 56, lI p1, lI x5, lI (v14 - 1), g18.1, g18.2.1, g18.2.2], ([sR 56], (mSH r tl, (G17, nk)))))) ?_ rfl
          refine sm_callG (rest := []) (T_X11_noPlan scr (d + 1) r tl nk G17) rfl (Or.inl rfl) rfl rfl rfl rfl (fun _ => rfl) (fun G19 => (220, ([lR 56, lI p1, lI x5, lI (v14 - 1), g18.1, g18.2.1, g18.2.2], ([], (mSH r tl, (G19, nk)))))) (fun _ => rfl) fun G19 => ?_
          refine sm_go 1 (s' := (221, ([lR 56, lI p1, lI x5, lI (v14 - 1), g18.1, g18.2.1, g18.2.2], ([sI (v14 - 1)], (mSH r tl, (G19, nk)))))) ?_ rfl
          exact sm_retI rfl rfl rfl
        · intro k20 hk20
          refine sm_loop2 (S := fun (g23 : Option mV × Option mV) (x21 : Int) (G22 : mG) => (146, ([lR 56, lI p1, lI x5, lI (v14 - 1), lI x21, g23.1, g23.2], ([], (mSH r tl, (G22, nk)))))) ?_ LF (none, none) 0 G16
          intro again24 hagain24 g23 x21 G22
          refine sm_go 4 (s' := (151, ([lR 56, lI p1, lI x5, lI (v14 - 1), lI x21, g23.1, g23.2], ([sI 4, sI p1, sR 56, sI x21], (mSH r tl, (G22, nk)))))) ?_ rfl
          refine sm_callG (rest := [sI x21]) (T_X11_of scr (d + 1) r tl nk G22 p1 4) rfl (Or.inl rfl) rfl rfl rfl rfl (fun _ => rfl) (fun v25 => (154, ([lR 56, lI p1, lI x5, lI (v14 - 1), lI x21, g23.1, g23.2], ([sI v25, sI x21], (mSH r tl, (G22, nk)))))) (fun _ => rfl) fun v25 => ?_
          refine sm_if2n (t := (ilt x21 v25)) (pt := 216) rfl rfl rfl (fun _ => ?_) (fun _ => ?_)
          · refine sm_go 3 (s' := (161, ([lR 56, lI p1, lI x5, lI (v14 - 1), lI x21, g23.1, g23.2], ([sI x21, sI p1, sR 56], (mSH r tl, (G22, nk)))))) ?_ rfl
            refine sm_callG (rest := []) (T_X11_hoursOf scr d r tl nk G22 p1 x21) rfl (Or.inl rfl) rfl rfl rfl rfl (fun _ => rfl) (fun v26 => (164, ([lR 56, lI p1, lI x5, lI (v14 - 1), lI x21, g23.1, g23.2], ([sI v26], (mSH r tl, (G22, nk)))))) (fun _ => rfl) fun v26 => ?_
            refine sm_go 8 (s' := (174, ([lR 56, lI p1, lI x5, lI (v14 - 1), lI x21, lI (iDiv v26 2), g23.2], ([sI x21, sI p1, sR 56, sI (v14 - 1), sR 56], (mSH r tl, (G22, nk)))))) ?_ rfl
            refine sm_callG (rest := [sI (v14 - 1), sR 56]) (T_X11_machineOf scr d r tl nk G22 p1 x21) rfl (Or.inl rfl) rfl rfl rfl rfl (fun _ => rfl) (fun v27 => (177, ([lR 56, lI p1, lI x5, lI (v14 - 1), lI x21, lI (iDiv v26 2), g23.2], ([sI v27, sI (v14 - 1), sR 56], (mSH r tl, (G22, nk)))))) (fun _ => rfl) fun v27 => ?_
            refine sm_go 1 (s' := (179, ([lR 56, lI p1, lI x5, lI (v14 - 1), lI x21, lI (iDiv v26 2), g23.2], ([sI (iDiv v26 2), sI v27, sI (v14 - 1), sR 56], (mSH r tl, (G22, nk)))))) ?_ rfl
            refine sm_callG (rest := []) (T_X11_laysStep scr d r tl nk G22 (v14 - 1) v27 (iDiv v26 2)) rfl (Or.inl rfl) rfl rfl rfl rfl (fun _ => rfl) (fun z28 => (182, ([lR 56, lI p1, lI x5, lI (v14 - 1), lI x21, lI (iDiv v26 2), g23.2], ([sI z28.1], (mSH r tl, (z28.2, nk)))))) (fun _ => rfl) fun z28 => ?_
            refine sm_go 17 (s' := (205, ([lR 56, lI p1, lI x5, lI (v14 - 1), lI x21, lI (iDiv v26 2), lI z28.1], ([sI ((((61 + (p1 * 15)) + 5) + (2 * x21)) + 1), sR 57, sI ((((61 + (p1 * 15)) + 5) + (2 * x21)) + 1), sR 57], (mSH r tl, (z28.2, nk)))))) ?_ rfl
            refine sm_ald rfl rfl fun v29 => ?_
            refine sm_go 2 (s' := (209, ([lR 56, lI p1, lI x5, lI (v14 - 1), lI x21, lI (iDiv v26 2), lI z28.1], ([sI (v29 - (iDiv v26 2)), sI ((((61 + (p1 * 15)) + 5) + (2 * x21)) + 1), sR 57], (mSH r tl, (z28.2, nk)))))) ?_ rfl
            refine sm_ast rfl rfl fun G30 => ?_
            exact sm_go 2 (hagain24 (lI (iDiv v26 2), lI z28.1) (x21 + 1) G30) rfl
          · exact hk20 (lI x21, g23.1, g23.2) G22
      · refine sm_go 1 (s' := (87, ([lR 56, lI p1, lI x5, g6, none, none, none], ([sI 0], (mSH r tl, (z8.2, nk)))))) ?_ rfl
        exact sm_retI rfl rfl rfl
    · intro k31 hk31
      refine sm_loop2 (S := fun (g34 : Unit) (x32 : Int) (x33 : Int) => (36, ([lR 56, lI p1, lI x32, lI x33, none, none, none], ([], (mSH r tl, (G, nk)))))) ?_ LF () x3 0
      intro again35 hagain35 g34 x32 x33
      refine sm_go 1 (s' := (37, ([lR 56, lI p1, lI x32, lI x33, none, none, none], ([sI x32], (mSH r tl, (G, nk)))))) ?_ rfl
      refine sm_if1 (t := (ieq x32 0)) (pt := 72) rfl rfl rfl (fun _ => ?_) (fun _ => ?_)
      · exact hk31 (lI x33) x32
      · refine sm_go 4 (s' := (44, ([lR 56, lI p1, lI x32, lI x33, none, none, none], ([sI 4, sI p1, sR 56, sI x33], (mSH r tl, (G, nk)))))) ?_ rfl
        refine sm_callG (rest := [sI x33]) (T_X11_of scr (d + 1) r tl nk G p1 4) rfl (Or.inl rfl) rfl rfl rfl rfl (fun _ => rfl) (fun v36 => (47, ([lR 56, lI p1, lI x32, lI x33, none, none, none], ([sI v36, sI x33], (mSH r tl, (G, nk)))))) (fun _ => rfl) fun v36 => ?_
        refine sm_if2n (t := (ilt x33 v36)) (pt := 72) rfl rfl rfl (fun _ => ?_) (fun _ => ?_)
        · refine sm_go 3 (s' := (53, ([lR 56, lI p1, lI x32, lI x33, none, none, none], ([sI x33, sI p1, sR 56], (mSH r tl, (G, nk)))))) ?_ rfl
          refine sm_callG (rest := []) (T_X11_hoursOf scr d r tl nk G p1 x33) rfl (Or.inl rfl) rfl rfl rfl rfl (fun _ => rfl) (fun v37 => (56, ([lR 56, lI p1, lI x32, lI x33, none, none, none], ([sI v37], (mSH r tl, (G, nk)))))) (fun _ => rfl) fun v37 => ?_
          refine sm_letK1 (S := fun (g39 : Unit) (x38 : Int) => (65, ([lR 56, lI p1, lI x32, lI x33, none, none, none], ([sI x38], (mSH r tl, (G, nk)))))) ?_ ?_
          · intro g39 x38
            exact sm_go 3 (hagain35 () x38 (x33 + 1)) rfl
          · intro k40 hk40
            refine sm_go 1 (s' := (57, ([lR 56, lI p1, lI x32, lI x33, none, none, none], ([sI 2, sI v37], (mSH r tl, (G, nk)))))) ?_ rfl
            refine sm_if2 (t := (ilt v37 2)) (pt := 64) rfl rfl rfl (fun _ => ?_) (fun _ => ?_)
            · exact sm_go 1 (hk40 () 0) rfl
            · exact sm_go 2 (hk40 () 1) rfl
        · exact hk31 (lI x33) x32
  · intro k41 hk41
    refine sm_letK0 (S := fun (g42 : Unit) => (32, ([lR 56, lI p1, none, none, none, none, none], ([], (mSH r tl, (G, nk)))))) ?_ ?_
    · intro g42
      exact sm_go 1 (hk41 () 0) rfl
    · intro k43 hk43
      refine sm_if1n (t := v2) (pt := 32) (mCmpB_eq v2) rfl rfl (fun _ => ?_) (fun _ => ?_)
      · refine sm_go 3 (s' := (13, ([lR 56, lI p1, none, none, none, none, none], ([sI 0, sR 57], (mSH r tl, (G, nk)))))) ?_ rfl
        refine sm_ald rfl rfl fun v44 => ?_
        refine sm_go 1 (s' := (16, ([lR 56, lI p1, none, none, none, none, none], ([sI 6, sI v44], (mSH r tl, (G, nk)))))) ?_ rfl
        refine sm_if2n (t := (ilt v44 6)) (pt := 32) rfl rfl rfl (fun _ => ?_) (fun _ => ?_)
        · refine sm_go 3 (s' := (22, ([lR 56, lI p1, none, none, none, none, none], ([sI 4, sI p1, sR 56], (mSH r tl, (G, nk)))))) ?_ rfl
          refine sm_callG (rest := []) (T_X11_of scr (d + 1) r tl nk G p1 4) rfl (Or.inl rfl) rfl rfl rfl rfl (fun _ => rfl) (fun v45 => (25, ([lR 56, lI p1, none, none, none, none, none], ([sI v45], (mSH r tl, (G, nk)))))) (fun _ => rfl) fun v45 => ?_
          refine sm_if1n (t := (ilt 0 v45)) (pt := 32) rfl rfl rfl (fun _ => ?_) (fun _ => ?_)
          · exact sm_go 2 (hk41 () 1) rfl
          · exact hk43 ()
        · exact hk43 ()
      · exact hk43 ()
noncomputable def P_X10_needRule (p1 : Int) (W : mW) : Option ((Unit ⊕ Nat) × mW) :=
thrB (P_X10_needRange p1 0 7 W) fun v2 W3 =>
some (.inl (), W3)
set_option maxRecDepth 100000 in
theorem T_X10_needRule (scr : mScr) (d : Nat) (W : mW)  (p1 : Int) : SimC scr (d + 2) 125 [sI p1] (mkM W) (e2U) (P_X10_needRule p1 W) := by
  refine sm_callX (cs := mc_X10_needRule) (maxL := 1) (rk := 0) (o := 110) (hs := []) (d := d + 1) [lI p1] rfl rfl rfl rfl ?_
  unfold P_X10_needRule
  refine sm_go 3 (s' := (4, ([lI p1], ([sI 7, sI 0, sI p1], (mSH W.1 W.2.1, (W.2.2.1, W.2.2.2)))))) ?_ rfl
  refine sm_thr (rest := []) (T_X10_needRange scr d W p1 0 7) rfl (Or.inr (Or.inl rfl)) rfl rfl rfl rfl (fun _ _ => rfl) (fun _ _ => rfl) (fun v2 W3 => (7, ([lI p1], ([], (mSH W3.1 W3.2.1, (W3.2.2.1, W3.2.2.2)))))) (fun _ _ => rfl) fun v2 W3 => ?_
  exact sm_retU rfl rfl
def P_X7_hoursFrom (p1 : Int) (p2 : Int) (G : mG) : Option (Int) :=
loop2 LF (fun again6 (x3 : Int) (x4 : Int) =>
(ald G 6 6 p1).bind fun v7 =>
bif (ilt x4 v7) then
(ald G 8 30 ((p1 * 5) + x4)).bind fun v8 =>
again6 (x3 + v8) (x4 + 1)
else
some x3) 0 p2
set_option maxRecDepth 100000 in
theorem T_X7_hoursFrom (scr : mScr) (d : Nat) (r : List (Option Nat)) (tl : List mSh) (nk : Nat × Nat) (G : mG)  (p1 : Int) (p2 : Int) : SimC scr (d + 1) 41 [sR 1, sI p1, sI p2] (mSH r tl, (G, nk)) (e0I (mSH r tl, (G, nk))) (P_X7_hoursFrom p1 p2 G) := by
  refine sm_callX (cs := mc_X7_hoursFrom) (maxL := 5) (rk := 0) (o := 7) (hs := []) (d := d + 0) [lR 1, lI p1, lI p2, none, none] rfl rfl rfl rfl ?_
  unfold P_X7_hoursFrom
  refine sm_go 4 (s' := (5, ([lR 1, lI p1, lI p2, lI 0, lI p2], ([], (mSH r tl, (G, nk)))))) ?_ rfl
  refine sm_loop2 (S := fun (g5 : Unit) (x3 : Int) (x4 : Int) => (5, ([lR 1, lI p1, lI p2, lI x3, lI x4], ([], (mSH r tl, (G, nk)))))) ?_ LF () 0 p2
  intro again6 hagain6 g5 x3 x4
  refine sm_go 4 (s' := (12, ([lR 1, lI p1, lI p2, lI x3, lI x4], ([sI p1, sR 6, sI x4], (mSH r tl, (G, nk)))))) ?_ rfl
  refine sm_ald rfl rfl fun v7 => ?_
  refine sm_if2n (t := (ilt x4 v7)) (pt := 36) rfl rfl rfl (fun _ => ?_) (fun _ => ?_)
  · refine sm_go 8 (s' := (27, ([lR 1, lI p1, lI p2, lI x3, lI x4], ([sI ((p1 * 5) + x4), sR 8, sI x3], (mSH r tl, (G, nk)))))) ?_ rfl
    refine sm_ald rfl rfl fun v8 => ?_
    exact sm_go 4 (hagain6 () (x3 + v8) (x4 + 1)) rfl
  · refine sm_go 1 (s' := (37, ([lR 1, lI p1, lI p2, lI x3, lI x4], ([sI x3], (mSH r tl, (G, nk)))))) ?_ rfl
    exact sm_retI rfl rfl rfl
def P_X8_hoursLeft (t : Nat) (p1 : Int) (G : mG) : Option (Int) :=
(ald G (t+2) 6 p1).bind fun v2 =>
(P_X7_hoursFrom p1 v2 G).bind fun v3 =>
some v3
set_option maxRecDepth 100000 in
theorem T_X8_hoursLeft_26 (scr : mScr) (d : Nat) (r : List (Option Nat)) (tl : List mSh) (nk : Nat × Nat) (G : mG)  (p1 : Int) : SimC scr (d + 2) 66 [sR 26, sI p1] (mSH r tl, (G, nk)) (e0I (mSH r tl, (G, nk))) (P_X8_hoursLeft 26 p1 G) := by
  refine sm_callX (cs := mc_X8_hoursLeft) (maxL := 2) (rk := 0) (o := 8) (hs := []) (d := d + 1) [lR 26, lI p1] rfl rfl rfl rfl ?_
  unfold P_X8_hoursLeft
  refine sm_go 6 (s' := (10, ([lR 26, lI p1], ([sI p1, sR 28, sI p1, sR 1], (mSH r tl, (G, nk)))))) ?_ rfl
  refine sm_ald rfl rfl fun v2 => ?_
  refine sm_callG (rest := []) (T_X7_hoursFrom scr d r tl nk G p1 v2) rfl (Or.inl rfl) rfl rfl rfl rfl (fun _ => rfl) (fun v3 => (14, ([lR 26, lI p1], ([sI v3], (mSH r tl, (G, nk)))))) (fun _ => rfl) fun v3 => ?_
  exact sm_retI rfl rfl rfl
def P_X8_goesAhead (t : Nat) (p1 : Int) (p2 : Int) (p3 : Int) (G : mG) : Option (Bool) :=
(P_X8_nextStep t p2 G).bind fun v4 =>
(ald G 8 30 v4).bind fun v5 =>
(P_X8_nextStep t p3 G).bind fun v6 =>
(ald G 8 30 v6).bind fun v7 =>
bif decide (w32 p1 = 0) then
bif (ilt v5 v7) then
some true
else
some false
else
bif decide (w32 p1 = 1) then
bif (ilt v7 v5) then
some true
else
some false
else
bif decide (w32 p1 = 2) then
(ald G 3 6 p2).bind fun v8 =>
(ald G 3 6 p3).bind fun v9 =>
bif (ilt v8 v9) then
some true
else
some false
else
bif decide (w32 p1 = 3) then
(ald G 4 6 p2).bind fun v10 =>
(ald G 4 6 p3).bind fun v11 =>
bif (ilt v11 v10) then
some true
else
some false
else
bif decide (w32 p1 = 4) then
(P_X8_hoursLeft t p2 G).bind fun v12 =>
(P_X8_hoursLeft t p3 G).bind fun v13 =>
bif (ilt v13 v12) then
some true
else
some false
else
bif decide (w32 p1 = 5) then
(ald G 3 6 p2).bind fun v14 =>
(P_X8_hoursLeft t p2 G).bind fun v15 =>
(ald G 3 6 p3).bind fun v16 =>
(P_X8_hoursLeft t p3 G).bind fun v17 =>
bif (ilt (v14 - v15) (v16 - v17)) then
some true
else
some false
else
bif decide (w32 p1 = 6) then
(ald G 4 6 p2).bind fun v18 =>
(ald G 4 6 p3).bind fun v19 =>
bif (ilt (v19 * v5) (v18 * v7)) then
some true
else
some false
else
(ald G 2 6 p2).bind fun v20 =>
(ald G 2 6 p3).bind fun v21 =>
bif (ilt v20 v21) then
some true
else
some false
set_option maxRecDepth 100000 in
theorem T_X8_goesAhead_26 (scr : mScr) (d : Nat) (r : List (Option Nat)) (tl : List mSh) (nk : Nat × Nat) (G : mG)  (p1 : Int) (p2 : Int) (p3 : Int) : SimC scr (d + 3) 64 [sR 26, sI p1, sI p2, sI p3] (mSH r tl, (G, nk)) (e0B (mSH r tl, (G, nk))) (P_X8_goesAhead 26 p1 p2 p3 G) := by
  refine sm_callX (cs := mc_X8_goesAhead) (maxL := 6) (rk := 1) (o := 8) (hs := []) (d := d + 2) [lR 26, lI p1, lI p2, lI p3, none, none] rfl rfl rfl rfl ?_
  unfold P_X8_goesAhead
  refine sm_go 5 (s' := (9, ([lR 26, lI p1, lI p2, lI p3, none, none], ([sI p2, sR 26, sR 8], (mSH r tl, (G, nk)))))) ?_ rfl
  refine sm_callG (rest := [sR 8]) (T_X8_nextStep_26 scr (d + 1) r tl nk G p2) rfl (Or.inl rfl) rfl rfl rfl rfl (fun _ => rfl) (fun v4 => (12, ([lR 26, lI p1, lI p2, lI p3, none, none], ([sI v4, sR 8], (mSH r tl, (G, nk)))))) (fun _ => rfl) fun v4 => ?_
  refine sm_ald rfl rfl fun v5 => ?_
  refine sm_go 6 (s' := (24, ([lR 26, lI p1, lI p2, lI p3, lI v5, none], ([sI p3, sR 26, sR 8], (mSH r tl, (G, nk)))))) ?_ rfl
  refine sm_callG (rest := [sR 8]) (T_X8_nextStep_26 scr (d + 1) r tl nk G p3) rfl (Or.inl rfl) rfl rfl rfl rfl (fun _ => rfl) (fun v6 => (27, ([lR 26, lI p1, lI p2, lI p3, lI v5, none], ([sI v6, sR 8], (mSH r tl, (G, nk)))))) (fun _ => rfl) fun v6 => ?_
  refine sm_ald rfl rfl fun v7 => ?_
  refine sm_go 2 (s' := (31, ([lR 26, lI p1, lI p2, lI p3, lI v5, lI v7], ([sI p1], (mSH r tl, (G, nk)))))) ?_ rfl
  refine sm_sw (fun hw0 => ?_) (fun hw0 => ?_)
  · refine sm_swC (pt := 72) hw0 rfl rfl ?_
    refine sm_go 2 (s' := (76, ([lR 26, lI p1, lI p2, lI p3, lI v5, lI v7], ([sI v7, sI v5], (mSH r tl, (G, nk)))))) ?_ rfl
    refine sm_if2n (t := (ilt v5 v7)) (pt := 83) rfl rfl rfl (fun _ => ?_) (fun _ => ?_)
    · refine sm_go 2 (s' := (84, ([lR 26, lI p1, lI p2, lI p3, lI v5, lI v7], ([sI 1], (mSH r tl, (G, nk)))))) ?_ rfl
      exact sm_retB1 (b := true) rfl rfl
    · refine sm_go 1 (s' := (84, ([lR 26, lI p1, lI p2, lI p3, lI v5, lI v7], ([sI 0], (mSH r tl, (G, nk)))))) ?_ rfl
      exact sm_retB1 (b := false) rfl rfl
  refine sm_sw (fun hw1 => ?_) (fun hw1 => ?_)
  · refine sm_swC (pt := 85) hw1 rfl rfl ?_
    refine sm_go 2 (s' := (89, ([lR 26, lI p1, lI p2, lI p3, lI v5, lI v7], ([sI v7, sI v5], (mSH r tl, (G, nk)))))) ?_ rfl
    refine sm_if2n (t := (ilt v7 v5)) (pt := 96) rfl rfl rfl (fun _ => ?_) (fun _ => ?_)
    · refine sm_go 2 (s' := (97, ([lR 26, lI p1, lI p2, lI p3, lI v5, lI v7], ([sI 1], (mSH r tl, (G, nk)))))) ?_ rfl
      exact sm_retB1 (b := true) rfl rfl
    · refine sm_go 1 (s' := (97, ([lR 26, lI p1, lI p2, lI p3, lI v5, lI v7], ([sI 0], (mSH r tl, (G, nk)))))) ?_ rfl
      exact sm_retB1 (b := false) rfl rfl
  refine sm_sw (fun hw2 => ?_) (fun hw2 => ?_)
  · refine sm_swC (pt := 98) hw2 rfl rfl ?_
    refine sm_go 4 (s' := (106, ([lR 26, lI p1, lI p2, lI p3, lI v5, lI v7], ([sI p2, sR 3], (mSH r tl, (G, nk)))))) ?_ rfl
    refine sm_ald rfl rfl fun v8 => ?_
    refine sm_go 4 (s' := (115, ([lR 26, lI p1, lI p2, lI p3, lI v5, lI v7], ([sI p3, sR 3, sI v8], (mSH r tl, (G, nk)))))) ?_ rfl
    refine sm_ald rfl rfl fun v9 => ?_
    refine sm_if2n (t := (ilt v8 v9)) (pt := 123) rfl rfl rfl (fun _ => ?_) (fun _ => ?_)
    · refine sm_go 2 (s' := (124, ([lR 26, lI p1, lI p2, lI p3, lI v5, lI v7], ([sI 1], (mSH r tl, (G, nk)))))) ?_ rfl
      exact sm_retB1 (b := true) rfl rfl
    · refine sm_go 1 (s' := (124, ([lR 26, lI p1, lI p2, lI p3, lI v5, lI v7], ([sI 0], (mSH r tl, (G, nk)))))) ?_ rfl
      exact sm_retB1 (b := false) rfl rfl
  refine sm_sw (fun hw3 => ?_) (fun hw3 => ?_)
  · refine sm_swC (pt := 125) hw3 rfl rfl ?_
    refine sm_go 4 (s' := (133, ([lR 26, lI p1, lI p2, lI p3, lI v5, lI v7], ([sI p2, sR 4], (mSH r tl, (G, nk)))))) ?_ rfl
    refine sm_ald rfl rfl fun v10 => ?_
    refine sm_go 4 (s' := (142, ([lR 26, lI p1, lI p2, lI p3, lI v5, lI v7], ([sI p3, sR 4, sI v10], (mSH r tl, (G, nk)))))) ?_ rfl
    refine sm_ald rfl rfl fun v11 => ?_
    refine sm_if2n (t := (ilt v11 v10)) (pt := 150) rfl rfl rfl (fun _ => ?_) (fun _ => ?_)
    · refine sm_go 2 (s' := (151, ([lR 26, lI p1, lI p2, lI p3, lI v5, lI v7], ([sI 1], (mSH r tl, (G, nk)))))) ?_ rfl
      exact sm_retB1 (b := true) rfl rfl
    · refine sm_go 1 (s' := (151, ([lR 26, lI p1, lI p2, lI p3, lI v5, lI v7], ([sI 0], (mSH r tl, (G, nk)))))) ?_ rfl
      exact sm_retB1 (b := false) rfl rfl
  refine sm_sw (fun hw4 => ?_) (fun hw4 => ?_)
  · refine sm_swC (pt := 152) hw4 rfl rfl ?_
    refine sm_go 2 (s' := (154, ([lR 26, lI p1, lI p2, lI p3, lI v5, lI v7], ([sI p2, sR 26], (mSH r tl, (G, nk)))))) ?_ rfl
    refine sm_callG (rest := []) (T_X8_hoursLeft_26 scr d r tl nk G p2) rfl (Or.inl rfl) rfl rfl rfl rfl (fun _ => rfl) (fun v12 => (157, ([lR 26, lI p1, lI p2, lI p3, lI v5, lI v7], ([sI v12], (mSH r tl, (G, nk)))))) (fun _ => rfl) fun v12 => ?_
    refine sm_go 2 (s' := (159, ([lR 26, lI p1, lI p2, lI p3, lI v5, lI v7], ([sI p3, sR 26, sI v12], (mSH r tl, (G, nk)))))) ?_ rfl
    refine sm_callG (rest := [sI v12]) (T_X8_hoursLeft_26 scr d r tl nk G p3) rfl (Or.inl rfl) rfl rfl rfl rfl (fun _ => rfl) (fun v13 => (162, ([lR 26, lI p1, lI p2, lI p3, lI v5, lI v7], ([sI v13, sI v12], (mSH r tl, (G, nk)))))) (fun _ => rfl) fun v13 => ?_
    refine sm_if2n (t := (ilt v13 v12)) (pt := 169) rfl rfl rfl (fun _ => ?_) (fun _ => ?_)
    · refine sm_go 2 (s' := (170, ([lR 26, lI p1, lI p2, lI p3, lI v5, lI v7], ([sI 1], (mSH r tl, (G, nk)))))) ?_ rfl
      exact sm_retB1 (b := true) rfl rfl
    · refine sm_go 1 (s' := (170, ([lR 26, lI p1, lI p2, lI p3, lI v5, lI v7], ([sI 0], (mSH r tl, (G, nk)))))) ?_ rfl
      exact sm_retB1 (b := false) rfl rfl
  refine sm_sw (fun hw5 => ?_) (fun hw5 => ?_)
  · refine sm_swC (pt := 171) hw5 rfl rfl ?_
    refine sm_go 4 (s' := (179, ([lR 26, lI p1, lI p2, lI p3, lI v5, lI v7], ([sI p2, sR 3], (mSH r tl, (G, nk)))))) ?_ rfl
    refine sm_ald rfl rfl fun v14 => ?_
    refine sm_go 2 (s' := (182, ([lR 26, lI p1, lI p2, lI p3, lI v5, lI v7], ([sI p2, sR 26, sI v14], (mSH r tl, (G, nk)))))) ?_ rfl
    refine sm_callG (rest := [sI v14]) (T_X8_hoursLeft_26 scr d r tl nk G p2) rfl (Or.inl rfl) rfl rfl rfl rfl (fun _ => rfl) (fun v15 => (185, ([lR 26, lI p1, lI p2, lI p3, lI v5, lI v7], ([sI v15, sI v14], (mSH r tl, (G, nk)))))) (fun _ => rfl) fun v15 => ?_
    refine sm_go 5 (s' := (194, ([lR 26, lI p1, lI p2, lI p3, lI v5, lI v7], ([sI p3, sR 3, sI (v14 - v15)], (mSH r tl, (G, nk)))))) ?_ rfl
    refine sm_ald rfl rfl fun v16 => ?_
    refine sm_go 2 (s' := (197, ([lR 26, lI p1, lI p2, lI p3, lI v5, lI v7], ([sI p3, sR 26, sI v16, sI (v14 - v15)], (mSH r tl, (G, nk)))))) ?_ rfl
    refine sm_callG (rest := [sI v16, sI (v14 - v15)]) (T_X8_hoursLeft_26 scr d r tl nk G p3) rfl (Or.inl rfl) rfl rfl rfl rfl (fun _ => rfl) (fun v17 => (200, ([lR 26, lI p1, lI p2, lI p3, lI v5, lI v7], ([sI v17, sI v16, sI (v14 - v15)], (mSH r tl, (G, nk)))))) (fun _ => rfl) fun v17 => ?_
    refine sm_go 1 (s' := (201, ([lR 26, lI p1, lI p2, lI p3, lI v5, lI v7], ([sI (v16 - v17), sI (v14 - v15)], (mSH r tl, (G, nk)))))) ?_ rfl
    refine sm_if2n (t := (ilt (v14 - v15) (v16 - v17))) (pt := 208) rfl rfl rfl (fun _ => ?_) (fun _ => ?_)
    · refine sm_go 2 (s' := (209, ([lR 26, lI p1, lI p2, lI p3, lI v5, lI v7], ([sI 1], (mSH r tl, (G, nk)))))) ?_ rfl
      exact sm_retB1 (b := true) rfl rfl
    · refine sm_go 1 (s' := (209, ([lR 26, lI p1, lI p2, lI p3, lI v5, lI v7], ([sI 0], (mSH r tl, (G, nk)))))) ?_ rfl
      exact sm_retB1 (b := false) rfl rfl
  refine sm_sw (fun hw6 => ?_) (fun hw6 => ?_)
  · refine sm_swC (pt := 210) hw6 rfl rfl ?_
    refine sm_go 4 (s' := (218, ([lR 26, lI p1, lI p2, lI p3, lI v5, lI v7], ([sI p2, sR 4], (mSH r tl, (G, nk)))))) ?_ rfl
    refine sm_ald rfl rfl fun v18 => ?_
    refine sm_go 6 (s' := (230, ([lR 26, lI p1, lI p2, lI p3, lI v5, lI v7], ([sI p3, sR 4, sI (v18 * v7)], (mSH r tl, (G, nk)))))) ?_ rfl
    refine sm_ald rfl rfl fun v19 => ?_
    refine sm_go 2 (s' := (234, ([lR 26, lI p1, lI p2, lI p3, lI v5, lI v7], ([sI (v19 * v5), sI (v18 * v7)], (mSH r tl, (G, nk)))))) ?_ rfl
    refine sm_if2n (t := (ilt (v19 * v5) (v18 * v7))) (pt := 241) rfl rfl rfl (fun _ => ?_) (fun _ => ?_)
    · refine sm_go 2 (s' := (242, ([lR 26, lI p1, lI p2, lI p3, lI v5, lI v7], ([sI 1], (mSH r tl, (G, nk)))))) ?_ rfl
      exact sm_retB1 (b := true) rfl rfl
    · refine sm_go 1 (s' := (242, ([lR 26, lI p1, lI p2, lI p3, lI v5, lI v7], ([sI 0], (mSH r tl, (G, nk)))))) ?_ rfl
      exact sm_retB1 (b := false) rfl rfl
  refine sm_swD (pt := 243) (by omega) rfl rfl ?_
  refine sm_go 4 (s' := (251, ([lR 26, lI p1, lI p2, lI p3, lI v5, lI v7], ([sI p2, sR 2], (mSH r tl, (G, nk)))))) ?_ rfl
  refine sm_ald rfl rfl fun v20 => ?_
  refine sm_go 4 (s' := (260, ([lR 26, lI p1, lI p2, lI p3, lI v5, lI v7], ([sI p3, sR 2, sI v20], (mSH r tl, (G, nk)))))) ?_ rfl
  refine sm_ald rfl rfl fun v21 => ?_
  refine sm_if2n (t := (ilt v20 v21)) (pt := 268) rfl rfl rfl (fun _ => ?_) (fun _ => ?_)
  · refine sm_go 2 (s' := (269, ([lR 26, lI p1, lI p2, lI p3, lI v5, lI v7], ([sI 1], (mSH r tl, (G, nk)))))) ?_ rfl
    exact sm_retB1 (b := true) rfl rfl
  · refine sm_go 1 (s' := (269, ([lR 26, lI p1, lI p2, lI p3, lI v5, lI v7], ([sI 0], (mSH r tl, (G, nk)))))) ?_ rfl
    exact sm_retB1 (b := false) rfl rfl
set_option maxRecDepth 100000 in
theorem T_X8_hoursLeft_17 (scr : mScr) (d : Nat) (r : List (Option Nat)) (tl : List mSh) (nk : Nat × Nat) (G : mG)  (p1 : Int) : SimC scr (d + 2) 66 [sR 17, sI p1] (mSH r tl, (G, nk)) (e0I (mSH r tl, (G, nk))) (P_X8_hoursLeft 17 p1 G) := by
  refine sm_callX (cs := mc_X8_hoursLeft) (maxL := 2) (rk := 0) (o := 8) (hs := []) (d := d + 1) [lR 17, lI p1] rfl rfl rfl rfl ?_
  unfold P_X8_hoursLeft
  refine sm_go 6 (s' := (10, ([lR 17, lI p1], ([sI p1, sR 19, sI p1, sR 1], (mSH r tl, (G, nk)))))) ?_ rfl
  refine sm_ald rfl rfl fun v2 => ?_
  refine sm_callG (rest := []) (T_X7_hoursFrom scr d r tl nk G p1 v2) rfl (Or.inl rfl) rfl rfl rfl rfl (fun _ => rfl) (fun v3 => (14, ([lR 17, lI p1], ([sI v3], (mSH r tl, (G, nk)))))) (fun _ => rfl) fun v3 => ?_
  exact sm_retI rfl rfl rfl
