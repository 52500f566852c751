/-! ===== programs as functions, 25 11: printed by wip/whole/gen/gen_p_out.py ===== -/
noncomputable def P_X10_twoAt (p1 : Int) (W : mW) : Option ((Int ⊕ Nat) × mW) :=
thrB (P_X10_needPlaceOfJob p1 W) fun v2 W3 =>
(P_X5_jobOnTwo p1 W3.2.2.1).bind fun z4 =>
some (.inl z4.1, (W3.1, (W3.2.1, (z4.2, W3.2.2.2))))
set_option maxRecDepth 100000 in
theorem T_X10_twoAt (scr : mScr) (d : Nat) (W : mW)  (p1 : Int) : SimC scr (d + 4) 109 [sR 0, sI p1] (mkM W) (e2I) (P_X10_twoAt p1 W) := by
  refine sm_callX (cs := mc_X10_twoAt) (maxL := 2) (rk := 0) (o := 10) (hs := []) (d := d + 3) [lR 0, lI p1] rfl rfl rfl rfl ?_
  unfold P_X10_twoAt
  refine sm_go 2 (s' := (2, ([lR 0, lI p1], ([sI p1, sR 0], (mSH W.1 W.2.1, (W.2.2.1, W.2.2.2)))))) ?_ rfl
  refine sm_thr (rest := []) (T_X10_needPlaceOfJob scr (d + 2) W p1) rfl (Or.inl rfl) rfl rfl rfl rfl (fun _ _ => rfl) (fun _ _ => rfl) (fun v2 W3 => (5, ([lR 0, lI p1], ([], (mSH W3.1 W3.2.1, (W3.2.2.1, W3.2.2.2)))))) (fun _ _ => rfl) fun v2 W3 => ?_
  refine sm_go 3 (s' := (10, ([lR 0, lI p1], ([sI p1, sR 44], (mSH W3.1 W3.2.1, (W3.2.2.1, W3.2.2.2)))))) ?_ rfl
  refine sm_callG (rest := []) (T_X5_jobOnTwo scr d W3.1 W3.2.1 W3.2.2.2 W3.2.2.1 p1) rfl (Or.inl rfl) rfl rfl rfl rfl (fun _ => rfl) (fun z4 => (13, ([lR 0, lI p1], ([sI z4.1], (mSH W3.1 W3.2.1, (z4.2, W3.2.2.2)))))) (fun _ => rfl) fun z4 => ?_
  exact sm_retI rfl rfl rfl
noncomputable def P_L_twoAt (p1 : Int) (W : mW) : Option ((Int ⊕ Nat) × mW) :=
ctcB (P_X10_twoAt p1 W) (fun v2 W3 =>
(ast W3.2.2.1 74 1 0 (w32 v2)).bind fun G5 =>
some (.inl 0, (W3.1, (W3.2.1, (G5, W3.2.2.2))))) (fun W4 =>
some (.inl 1, W4)) (fun _ => none) (fun _ => none)
set_option maxRecDepth 100000 in
theorem T_L_twoAt (scr : mScr) (d : Nat) (W : mW)  (p1 : Int) : SimC scr (d + 5) 269 [sR 0, sI p1, sR 74] (mkM W) (e2I) (P_L_twoAt p1 W) := by
  refine sm_callX (cs := mc_L_twoAt) (maxL := 4) (rk := 0) (o := 112) (hs := [(0, (9, (12, 0)))]) (d := d + 4) [lR 0, lI p1, lR 74, none] rfl rfl rfl rfl ?_
  unfold P_L_twoAt
  refine sm_go 4 (s' := (4, ([lR 0, lI p1, lR 74, none], ([sI p1, sR 0, sI 0, sR 74], (mSH W.1 W.2.1, (W.2.2.1, W.2.2.2)))))) ?_ rfl
  refine sm_ctc (rest := [sI 0, sR 74]) (T_X10_twoAt scr d W p1) rfl (Or.inl rfl) rfl rfl rfl rfl (fun _ _ => rfl) (fun v2 W3 => (7, ([lR 0, lI p1, lR 74, none], ([sI v2, sI 0, sR 74], (mSH W3.1 W3.2.1, (W3.2.2.1, W3.2.2.2)))))) (fun _ _ => rfl) (fun v2 W3 => ?_) (Or.inl ⟨12, rfl, fun W4 => ?_⟩) (Or.inr rfl) (Or.inr rfl)
  · refine sm_go 1 (s' := (8, ([lR 0, lI p1, lR 74, none], ([sL (w32 v2), sI 0, sR 74], (mSH W3.1 W3.2.1, (W3.2.2.1, W3.2.2.2)))))) ?_ rfl
    refine sm_lst rfl rfl fun G5 => ?_
    refine sm_go 1 (s' := (15, ([lR 0, lI p1, lR 74, none], ([], (mSH W3.1 W3.2.1, (G5, W3.2.2.2)))))) ?_ rfl
    refine sm_go 1 (s' := (16, ([lR 0, lI p1, lR 74, none], ([sI 0], (mSH W3.1 W3.2.1, (G5, W3.2.2.2)))))) ?_ rfl
    exact sm_retI rfl rfl rfl
  · refine sm_go 2 (s' := (14, ([lR 0, lI p1, lR 74, lO], ([sI 1], (mSH W4.1 W4.2.1, (W4.2.2.1, W4.2.2.2)))))) ?_ rfl
    exact sm_retI rfl rfl rfl
def P_X11_twoAt (p1 : Int) (G : mG) : Option (Int × mG) :=
(ald G 57 282 0).bind fun v2 =>
(P_X11_in p1 0 (v2 - 1)).bind fun v3 =>
(P_X11_fits (b2i v3) 1 1 G).bind fun z4 =>
bif z4.1 then
(P_X11_laysRow 2 z4.2).bind fun G5 =>
(ald G5 70 6 p1).bind fun v6 =>
some (v6, G5)
else
some (0, z4.2)
set_option maxRecDepth 100000 in
theorem T_X11_twoAt (scr : mScr) (d : Nat) (r : List (Option Nat)) (tl : List mSh) (nk : Nat × Nat) (G : mG)  (p1 : Int) : SimC scr (d + 7) 219 [sR 56, sI p1] (mSH r tl, (G, nk)) (e1I r tl nk) (P_X11_twoAt p1 G) := by
  refine sm_callX (cs := mc_X11_twoAt) (maxL := 2) (rk := 0) (o := 11) (hs := []) (d := d + 6) [lR 56, lI p1] rfl rfl rfl rfl ?_
  unfold P_X11_twoAt
  refine sm_go 6 (s' := (8, ([lR 56, lI p1], ([sI 0, sR 57, sI 0, sI p1, sR 56], (mSH r tl, (G, nk)))))) ?_ rfl
  refine sm_ald rfl rfl fun v2 => ?_
  refine sm_go 2 (s' := (11, ([lR 56, lI p1], ([sI (v2 - 1), sI 0, sI p1, sR 56], (mSH r tl, (G, nk)))))) ?_ rfl
  refine sm_callG (rest := [sR 56]) (T_X11_in scr (d + 5) r tl nk G p1 0 (v2 - 1)) rfl (Or.inr (Or.inl rfl)) rfl rfl rfl rfl (fun _ => rfl) (fun v3 => (14, ([lR 56, lI p1], ([sI (b2i v3), sR 56], (mSH r tl, (G, nk)))))) (fun _ => rfl) fun v3 => ?_
  refine sm_go 2 (s' := (16, ([lR 56, lI p1], ([sI 1, sI 1, sI (b2i v3), sR 56], (mSH r tl, (G, nk)))))) ?_ rfl
  refine sm_callG (rest := []) (T_X11_fits scr (d + 5) r tl nk G (b2i v3) 1 1) rfl (Or.inl rfl) rfl rfl rfl rfl (fun _ => rfl) (fun z4 => (19, ([lR 56, lI p1], ([sI (b2i z4.1)], (mSH r tl, (z4.2, nk)))))) (fun _ => rfl) fun z4 => ?_
  refine sm_if1 (t := z4.1) (pt := 24) (mCmpB_ne z4.1) rfl rfl (fun _ => ?_) (fun _ => ?_)
  · refine sm_go 2 (s' := (26, ([lR 56, lI p1], ([sI 2, sR 56], (mSH r tl, (z4.2, nk)))))) ?_ rfl
    refine sm_callG (rest := []) (T_X11_laysRow scr d r tl nk z4.2 2) rfl (Or.inl rfl) rfl rfl rfl rfl (fun _ => rfl) (fun G5 => (29, ([lR 56, lI p1], ([], (mSH r tl, (G5, nk)))))) (fun _ => rfl) fun G5 => ?_
    refine sm_go 3 (s' := (34, ([lR 56, lI p1], ([sI p1, sR 70], (mSH r tl, (G5, nk)))))) ?_ rfl
    refine sm_ald rfl rfl fun v6 => ?_
    exact sm_retI rfl rfl rfl
  · refine sm_go 1 (s' := (23, ([lR 56, lI p1], ([sI 0], (mSH r tl, (z4.2, nk)))))) ?_ rfl
    exact sm_retI rfl rfl rfl
def P_X6_hoursBehind (p1 : Int) (p2 : Int) (G : mG) : Option (Int) :=
bif (ieq p1 0) then
some 0
else
(ald G 49 6 (p1 - 1)).bind fun v3 =>
(ald G 5 6 v3).bind fun v4 =>
(ald G 5 6 p2).bind fun v5 =>
(ald G 14 16 ((v4 * 4) + v5)).bind fun v6 =>
some v6
set_option maxRecDepth 100000 in
theorem T_X6_hoursBehind (scr : mScr) (d : Nat) (r : List (Option Nat)) (tl : List mSh) (nk : Nat × Nat) (G : mG)  (p1 : Int) (p2 : Int) : SimC scr (d + 1) 30 [sR 48, sI p1, sI p2] (mSH r tl, (G, nk)) (e0I (mSH r tl, (G, nk))) (P_X6_hoursBehind p1 p2 G) := by
  refine sm_callX (cs := mc_X6_hoursBehind) (maxL := 3) (rk := 0) (o := 6) (hs := []) (d := d + 0) [lR 48, lI p1, lI p2] rfl rfl rfl rfl ?_
  unfold P_X6_hoursBehind
  refine sm_go 1 (s' := (1, ([lR 48, lI p1, lI p2], ([sI p1], (mSH r tl, (G, nk)))))) ?_ rfl
  refine sm_if1n (t := (ieq p1 0)) (pt := 8) rfl rfl rfl (fun _ => ?_) (fun _ => ?_)
  · refine sm_go 2 (s' := (44, ([lR 48, lI p1, lI p2], ([sI 0], (mSH r tl, (G, nk)))))) ?_ rfl
    exact sm_retI rfl rfl rfl
  · refine sm_go 11 (s' := (29, ([lR 48, lI p1, lI p2], ([sI (p1 - 1), sR 49, sR 5, sR 14], (mSH r tl, (G, nk)))))) ?_ rfl
    refine sm_ald rfl rfl fun v3 => ?_
    refine sm_ald rfl rfl fun v4 => ?_
    refine sm_go 6 (s' := (41, ([lR 48, lI p1, lI p2], ([sI p2, sR 5, sI (v4 * 4), sR 14], (mSH r tl, (G, nk)))))) ?_ rfl
    refine sm_ald rfl rfl fun v5 => ?_
    refine sm_go 1 (s' := (43, ([lR 48, lI p1, lI p2], ([sI ((v4 * 4) + v5), sR 14], (mSH r tl, (G, nk)))))) ?_ rfl
    refine sm_ald rfl rfl fun v6 => ?_
    exact sm_retI rfl rfl rfl
def P_X6_explore : Nat → Int → Int → Int → mG → Option (mG)
  | 0, _, _, _, _ => none
  | N + 1, p1, p2, p3, G =>
    letK (bif (ilt p1 (G 1 0)) then
    loop2 LF (fun again8 (x5 : Int) (G6 : mG) =>
    bif (ilt x5 (G6 1 0)) then
    letK (fun (G9 : mG) =>
    again8 (x5 + 1) G9) fun k11 =>
    bif (ieq (iAnd p2 (iShl 1 x5)) 0) then
    (ast G6 49 6 p1 x5).bind fun G12 =>
    (P_X6_hoursBehind p1 x5 G12).bind fun v13 =>
    (P_X6_explore N (p1 + 1) (iOr p2 (iShl 1 x5)) (p3 + v13) G12).bind fun G14 =>
    k11 G14
    else
    k11 G6
    else
    some G6) 0 G
    else
    (pstZ G 48 4 1).bind fun G15 =>
    (pst G15 48 3 p3).bind fun G16 =>
    (acp G16 49 6 0 50 6 0 6).bind fun G17 =>
    some G17) fun k18 =>
    bif (ieq (G 48 4) 0) then
    k18
    else
    bif (ilt p3 (G 48 3)) then
    k18
    else
    some G
set_option maxRecDepth 100000 in
theorem T_X6_explore (scr : mScr) (d : Nat) (N : Nat) (r : List (Option Nat)) (tl : List mSh) (nk : Nat × Nat) (G : mG)  (p1 : Int) (p2 : Int) (p3 : Int) : SimC scr (d + N + 2) 29 [sR 48, sI p1, sI p2, sI p3] (mSH r tl, (G, nk)) (e1U r tl nk) (P_X6_explore N p1 p2 p3 G) := by
  induction N generalizing G p1 p2 p3 with
  | zero => exact fun _ h => nomatch h
  | succ N ih =>
    refine sm_callX (cs := mc_X6_explore) (maxL := 5) (rk := 0) (o := 6) (hs := []) (d := d + N + 2) [lR 48, lI p1, lI p2, lI p3, none] rfl rfl rfl rfl ?_
    show Sim _ _ _ _ _ _ _ (P_X6_explore (N + 1) p1 p2 p3 G)
    unfold P_X6_explore
    refine sm_letK0 (S := fun (g4 : Unit) => (16, ([lR 48, lI p1, lI p2, lI p3, none], ([], (mSH r tl, (G, nk)))))) ?_ ?_
    · intro g4
      refine sm_go 4 (s' := (24, ([lR 48, lI p1, lI p2, lI p3, none], ([sI (G 1 0), sI p1], (mSH r tl, (G, nk)))))) ?_ rfl
      refine sm_if2 (t := (ilt p1 (G 1 0))) (pt := 56) rfl rfl rfl (fun _ => ?_) (fun _ => ?_)
      · refine sm_go 2 (s' := (59, ([lR 48, lI p1, lI p2, lI p3, lI 0], ([], (mSH r tl, (G, nk)))))) ?_ rfl
        refine sm_loop2 (S := fun (g7 : Unit) (x5 : Int) (G6 : mG) => (59, ([lR 48, lI p1, lI p2, lI p3, lI x5], ([], (mSH r tl, (G6, nk)))))) ?_ LF () 0 G
        intro again8 hagain8 g7 x5 G6
        refine sm_go 4 (s' := (68, ([lR 48, lI p1, lI p2, lI p3, lI x5], ([sI (G6 1 0), sI x5], (mSH r tl, (G6, nk)))))) ?_ rfl
        refine sm_if2n (t := (ilt x5 (G6 1 0))) (pt := 116) rfl rfl rfl (fun _ => ?_) (fun _ => ?_)
        · refine sm_letK1 (S := fun (g10 : Unit) (G9 : mG) => (110, ([lR 48, lI p1, lI p2, lI p3, lI x5], ([], (mSH r tl, (G9, nk)))))) ?_ ?_
          · intro g10 G9
            exact sm_go 2 (hagain8 () (x5 + 1) G9) rfl
          · intro k11 hk11
            refine sm_go 5 (s' := (77, ([lR 48, lI p1, lI p2, lI p3, lI x5], ([sI (iAnd p2 (iShl 1 x5))], (mSH r tl, (G6, nk)))))) ?_ rfl
            refine sm_if1n (t := (ieq (iAnd p2 (iShl 1 x5)) 0)) (pt := 110) rfl rfl rfl (fun _ => ?_) (fun _ => ?_)
            · refine sm_go 4 (s' := (87, ([lR 48, lI p1, lI p2, lI p3, lI x5], ([sI x5, sI p1, sR 49], (mSH r tl, (G6, nk)))))) ?_ rfl
              refine sm_ast rfl rfl fun G12 => ?_
              refine sm_go 13 (s' := (103, ([lR 48, lI p1, lI p2, lI p3, lI x5], ([sI x5, sI p1, sR 48, sI p3, sI (iOr p2 (iShl 1 x5)), sI (p1 + 1), sR 48], (mSH r tl, (G12, nk)))))) ?_ rfl
              refine sm_callG (rest := [sI p3, sI (iOr p2 (iShl 1 x5)), sI (p1 + 1), sR 48]) (T_X6_hoursBehind scr ((d + N) + 1) r tl nk G12 p1 x5) rfl (Or.inl rfl) rfl rfl rfl rfl (fun _ => rfl) (fun v13 => (106, ([lR 48, lI p1, lI p2, lI p3, lI x5], ([sI v13, sI p3, sI (iOr p2 (iShl 1 x5)), sI (p1 + 1), sR 48], (mSH r tl, (G12, nk)))))) (fun _ => rfl) fun v13 => ?_
              refine sm_go 1 (s' := (107, ([lR 48, lI p1, lI p2, lI p3, lI x5], ([sI (p3 + v13), sI (iOr p2 (iShl 1 x5)), sI (p1 + 1), sR 48], (mSH r tl, (G12, nk)))))) ?_ rfl
              refine sm_callG (rest := []) (ih G12 (p1 + 1) (iOr p2 (iShl 1 x5)) (p3 + v13)) rfl (Or.inl rfl) rfl rfl rfl rfl (fun _ => rfl) (fun G14 => (110, ([lR 48, lI p1, lI p2, lI p3, lI x5], ([], (mSH r tl, (G14, nk)))))) (fun _ => rfl) fun G14 => ?_
              exact hk11 () G14
            · exact hk11 () G6
        · exact sm_retU rfl rfl
      · refine sm_go 2 (s' := (29, ([lR 48, lI p1, lI p2, lI p3, none], ([sI 1, sR 48], (mSH r tl, (G, nk)))))) ?_ rfl
        refine sm_pstZ rfl rfl rfl fun G15 => ?_
        refine sm_go 2 (s' := (34, ([lR 48, lI p1, lI p2, lI p3, none], ([sI p3, sR 48], (mSH r tl, (G15, nk)))))) ?_ rfl
        refine sm_pst rfl rfl rfl fun G16 => ?_
        refine sm_go 9 (s' := (52, ([lR 48, lI p1, lI p2, lI p3, none], ([sI 6, sI 0, sR 50, sI 0, sR 49], (mSH r tl, (G16, nk)))))) ?_ rfl
        refine sm_acp rfl rfl rfl rfl fun G17 => ?_
        exact sm_retU rfl rfl
    · intro k18 hk18
      refine sm_go 2 (s' := (4, ([lR 48, lI p1, lI p2, lI p3, none], ([sI (G 48 4)], (mSH r tl, (G, nk)))))) ?_ rfl
      refine sm_if1 (t := (ieq (G 48 4) 0)) (pt := 16) rfl rfl rfl (fun _ => ?_) (fun _ => ?_)
      · exact hk18 ()
      · refine sm_go 3 (s' := (12, ([lR 48, lI p1, lI p2, lI p3, none], ([sI (G 48 3), sI p3], (mSH r tl, (G, nk)))))) ?_ rfl
        refine sm_if2 (t := (ilt p3 (G 48 3))) (pt := 16) rfl rfl rfl (fun _ => ?_) (fun _ => ?_)
        · exact hk18 ()
        · exact sm_retU rfl rfl
def P_X6_search (G : mG) : Option (mG) :=
(pst G 48 3 0).bind fun G1 =>
(pstZ G1 48 4 0).bind fun G2 =>
(P_X6_explore 8 0 0 0 G2).bind fun G3 =>
some G3
set_option maxRecDepth 100000 in
theorem T_X6_search (scr : mScr) (d : Nat) (r : List (Option Nat)) (tl : List mSh) (nk : Nat × Nat) (G : mG)  : SimC scr (d + 11) 28 [sR 48] (mSH r tl, (G, nk)) (e1U r tl nk) (P_X6_search G) := by
  refine sm_callX (cs := mc_X6_search) (maxL := 1) (rk := 0) (o := 6) (hs := []) (d := d + 10) [lR 48] rfl rfl rfl rfl ?_
  unfold P_X6_search
  refine sm_go 2 (s' := (2, ([lR 48], ([sI 0, sR 48], (mSH r tl, (G, nk)))))) ?_ rfl
  refine sm_pst rfl rfl rfl fun G1 => ?_
  refine sm_go 2 (s' := (7, ([lR 48], ([sI 0, sR 48], (mSH r tl, (G1, nk)))))) ?_ rfl
  refine sm_pstZ rfl rfl rfl fun G2 => ?_
  refine sm_go 4 (s' := (14, ([lR 48], ([sI 0, sI 0, sI 0, sR 48], (mSH r tl, (G2, nk)))))) ?_ rfl
  refine sm_callG (rest := []) (T_X6_explore scr d 8 r tl nk G2 0 0 0) rfl (Or.inl rfl) rfl rfl rfl rfl (fun _ => rfl) (fun G3 => (17, ([lR 48], ([], (mSH r tl, (G3, nk)))))) (fun _ => rfl) fun G3 => ?_
  exact sm_retU rfl rfl
def P_X10_leastSetup (G : mG) : Option (Int × mG) :=
(P_X6_search G).bind fun G1 =>
some ((G1 48 3), G1)
set_option maxRecDepth 100000 in
theorem T_X10_leastSetup (scr : mScr) (d : Nat) (r : List (Option Nat)) (tl : List mSh) (nk : Nat × Nat) (G : mG)  : SimC scr (d + 12) 110 [sR 0] (mSH r tl, (G, nk)) (e1I r tl nk) (P_X10_leastSetup G) := by
  refine sm_callX (cs := mc_X10_leastSetup) (maxL := 1) (rk := 0) (o := 10) (hs := []) (d := d + 11) [lR 0] rfl rfl rfl rfl ?_
  unfold P_X10_leastSetup
  refine sm_go 2 (s' := (4, ([lR 0], ([sR 48], (mSH r tl, (G, nk)))))) ?_ rfl
  refine sm_callG (rest := []) (T_X6_search scr d r tl nk G) rfl (Or.inl rfl) rfl rfl rfl rfl (fun _ => rfl) (fun G1 => (7, ([lR 0], ([], (mSH r tl, (G1, nk)))))) (fun _ => rfl) fun G1 => ?_
  refine sm_go 3 (s' := (14, ([lR 0], ([sI (G1 48 3)], (mSH r tl, (G1, nk)))))) ?_ rfl
  exact sm_retI rfl rfl rfl
def P_X11_turns (p1 : Int) (p2 : Int) (G : mG) : Option (mG) :=
(ald G 70 6 p1).bind fun v3 =>
(ald G 70 6 p2).bind fun v4 =>
(ast G 70 6 p1 v4).bind fun G5 =>
(ast G5 70 6 p2 v3).bind fun G6 =>
some G6
set_option maxRecDepth 100000 in
theorem T_X11_turns (scr : mScr) (d : Nat) (r : List (Option Nat)) (tl : List mSh) (nk : Nat × Nat) (G : mG)  (p1 : Int) (p2 : Int) : SimC scr (d + 1) 221 [sR 56, sI p1, sI p2] (mSH r tl, (G, nk)) (e1U r tl nk) (P_X11_turns p1 p2 G) := by
  refine sm_callX (cs := mc_X11_turns) (maxL := 4) (rk := 0) (o := 11) (hs := []) (d := d + 0) [lR 56, lI p1, lI p2, none] rfl rfl rfl rfl ?_
  unfold P_X11_turns
  refine sm_go 3 (s' := (5, ([lR 56, lI p1, lI p2, none], ([sI p1, sR 70], (mSH r tl, (G, nk)))))) ?_ rfl
  refine sm_ald rfl rfl fun v3 => ?_
  refine sm_go 7 (s' := (17, ([lR 56, lI p1, lI p2, lI v3], ([sI p2, sR 70, sI p1, sR 70], (mSH r tl, (G, nk)))))) ?_ rfl
  refine sm_ald rfl rfl fun v4 => ?_
  refine sm_ast rfl rfl fun G5 => ?_
  refine sm_go 4 (s' := (25, ([lR 56, lI p1, lI p2, lI v3], ([sI v3, sI p2, sR 70], (mSH r tl, (G5, nk)))))) ?_ rfl
  refine sm_ast rfl rfl fun G6 => ?_
  exact sm_retU rfl rfl
def P_X11_nextRow (G : mG) : Option (Bool × mG) :=
(ald G 57 282 0).bind fun v1 =>
letK (fun (x2 : Int) =>
bif (ilt x2 0) then
some (false, G)
else
letK (fun (x4 : Int) =>
(P_X11_turns x2 x4 G).bind fun G6 =>
loop3 LF (fun again11 (x7 : Int) (x8 : Int) (G9 : mG) =>
bif (ilt x7 x8) then
(P_X11_turns x7 x8 G9).bind fun G12 =>
again11 (x7 + 1) (x8 + (-1)) G12
else
some (true, G9)) (x2 + 1) (v1 - 1) G6) fun k13 =>
loop1 LF (fun again16 (x14 : Int) =>
(ald G 70 6 x14).bind fun v17 =>
(ald G 70 6 x2).bind fun v18 =>
bif (ilt v17 v18) then
again16 (x14 + (-1))
else
k13 x14) (v1 - 1)) fun k19 =>
loop1 LF (fun again22 (x20 : Int) =>
bif (ilt x20 0) then
k19 x20
else
(ald G 70 6 x20).bind fun v23 =>
(ald G 70 6 (x20 + 1)).bind fun v24 =>
bif (ilt v24 v23) then
again22 (x20 + (-1))
else
k19 x20) (v1 - 2)
set_option maxRecDepth 100000 in
theorem T_X11_nextRow (scr : mScr) (d : Nat) (r : List (Option Nat)) (tl : List mSh) (nk : Nat × Nat) (G : mG)  : SimC scr (d + 2) 220 [sR 56] (mSH r tl, (G, nk)) (e1B r tl nk) (P_X11_nextRow G) := by
  refine sm_callX (cs := mc_X11_nextRow) (maxL := 6) (rk := 1) (o := 11) (hs := []) (d := d + 1) [lR 56, none, none, none, none, none] rfl rfl rfl rfl ?_
  unfold P_X11_nextRow
  refine sm_go 3 (s' := (5, ([lR 56, none, none, none, none, none], ([sI 0, sR 57], (mSH r tl, (G, nk)))))) ?_ rfl
  refine sm_ald rfl rfl fun v1 => ?_
  refine sm_go 5 (s' := (11, ([lR 56, lI v1, lI (v1 - 2), none, none, none], ([], (mSH r tl, (G, nk)))))) ?_ rfl
  refine sm_letK1 (S := fun (g3 : Unit) (x2 : Int) => (38, ([lR 56, lI v1, lI x2, none, none, none], ([], (mSH r tl, (G, nk)))))) ?_ ?_
  · intro g3 x2
    refine sm_go 1 (s' := (39, ([lR 56, lI v1, lI x2, none, none, none], ([sI x2], (mSH r tl, (G, nk)))))) ?_ rfl
    refine sm_if1n (t := (ilt x2 0)) (pt := 44) rfl rfl rfl (fun _ => ?_) (fun _ => ?_)
    · refine sm_go 1 (s' := (43, ([lR 56, lI v1, lI x2, none, none, none], ([sI 0], (mSH r tl, (G, nk)))))) ?_ rfl
      exact sm_retB1 (b := false) rfl rfl
    · refine sm_go 4 (s' := (48, ([lR 56, lI v1, lI x2, lI (v1 - 1), none, none], ([], (mSH r tl, (G, nk)))))) ?_ rfl
      refine sm_letK1 (S := fun (g5 : Unit) (x4 : Int) => (69, ([lR 56, lI v1, lI x2, lI x4, none, none], ([], (mSH r tl, (G, nk)))))) ?_ ?_
      · intro g5 x4
        refine sm_go 3 (s' := (72, ([lR 56, lI v1, lI x2, lI x4, none, none], ([sI x4, sI x2, sR 56], (mSH r tl, (G, nk)))))) ?_ rfl
        refine sm_callG (rest := []) (T_X11_turns scr d r tl nk G x2 x4) rfl (Or.inl rfl) rfl rfl rfl rfl (fun _ => rfl) (fun G6 => (75, ([lR 56, lI v1, lI x2, lI x4, none, none], ([], (mSH r tl, (G6, nk)))))) (fun _ => rfl) fun G6 => ?_
        refine sm_go 8 (s' := (85, ([lR 56, lI v1, lI x2, lI x4, lI (x2 + 1), lI (v1 - 1)], ([], (mSH r tl, (G6, nk)))))) ?_ rfl
        refine sm_loop3 (S := fun (g10 : Unit) (x7 : Int) (x8 : Int) (G9 : mG) => (85, ([lR 56, lI v1, lI x2, lI x4, lI x7, lI x8], ([], (mSH r tl, (G9, nk)))))) ?_ LF () (x2 + 1) (v1 - 1) G6
        intro again11 hagain11 g10 x7 x8 G9
        refine sm_go 2 (s' := (89, ([lR 56, lI v1, lI x2, lI x4, lI x7, lI x8], ([sI x8, sI x7], (mSH r tl, (G9, nk)))))) ?_ rfl
        refine sm_if2n (t := (ilt x7 x8)) (pt := 109) rfl rfl rfl (fun _ => ?_) (fun _ => ?_)
        · refine sm_go 3 (s' := (97, ([lR 56, lI v1, lI x2, lI x4, lI x7, lI x8], ([sI x8, sI x7, sR 56], (mSH r tl, (G9, nk)))))) ?_ rfl
          refine sm_callG (rest := []) (T_X11_turns scr d r tl nk G9 x7 x8) rfl (Or.inl rfl) rfl rfl rfl rfl (fun _ => rfl) (fun G12 => (100, ([lR 56, lI v1, lI x2, lI x4, lI x7, lI x8], ([], (mSH r tl, (G12, nk)))))) (fun _ => rfl) fun G12 => ?_
          exact sm_go 3 (hagain11 () (x7 + 1) (x8 + (-1)) G12) rfl
        · refine sm_go 1 (s' := (110, ([lR 56, lI v1, lI x2, lI x4, lI x7, lI x8], ([sI 1], (mSH r tl, (G9, nk)))))) ?_ rfl
          exact sm_retB1 (b := true) rfl rfl
      · intro k13 hk13
        refine sm_loop1 (S := fun (g15 : Unit) (x14 : Int) => (48, ([lR 56, lI v1, lI x2, lI x14, none, none], ([], (mSH r tl, (G, nk)))))) ?_ LF () (v1 - 1)
        intro again16 hagain16 g15 x14
        refine sm_go 3 (s' := (53, ([lR 56, lI v1, lI x2, lI x14, none, none], ([sI x14, sR 70], (mSH r tl, (G, nk)))))) ?_ rfl
        refine sm_ald rfl rfl fun v17 => ?_
        refine sm_go 3 (s' := (59, ([lR 56, lI v1, lI x2, lI x14, none, none], ([sI x2, sR 70, sI v17], (mSH r tl, (G, nk)))))) ?_ rfl
        refine sm_ald rfl rfl fun v18 => ?_
        refine sm_if2n (t := (ilt v17 v18)) (pt := 69) rfl rfl rfl (fun _ => ?_) (fun _ => ?_)
        · exact sm_go 2 (hagain16 () (x14 + (-1))) rfl
        · exact hk13 () x14
  · intro k19 hk19
    refine sm_loop1 (S := fun (g21 : Unit) (x20 : Int) => (11, ([lR 56, lI v1, lI x20, none, none, none], ([], (mSH r tl, (G, nk)))))) ?_ LF () (v1 - 2)
    intro again22 hagain22 g21 x20
    refine sm_go 1 (s' := (12, ([lR 56, lI v1, lI x20, none, none, none], ([sI x20], (mSH r tl, (G, nk)))))) ?_ rfl
    refine sm_if1 (t := (ilt x20 0)) (pt := 38) rfl rfl rfl (fun _ => ?_) (fun _ => ?_)
    · exact hk19 () x20
    · refine sm_go 3 (s' := (20, ([lR 56, lI v1, lI x20, none, none, none], ([sI x20, sR 70], (mSH r tl, (G, nk)))))) ?_ rfl
      refine sm_ald rfl rfl fun v23 => ?_
      refine sm_go 5 (s' := (28, ([lR 56, lI v1, lI x20, none, none, none], ([sI (x20 + 1), sR 70, sI v23], (mSH r tl, (G, nk)))))) ?_ rfl
      refine sm_ald rfl rfl fun v24 => ?_
      refine sm_if2n (t := (ilt v24 v23)) (pt := 38) rfl rfl rfl (fun _ => ?_) (fun _ => ?_)
      · exact sm_go 2 (hagain22 () (x20 + (-1))) rfl
      · exact hk19 () x20
def P_X11_setup (G : mG) : Option (Int × mG) :=
letK (fun (G1 : mG) =>
loop3 LF (fun again7 (x3 : Int) (x4 : Int) (G5 : mG) =>
bif (ieq x4 0) then
some (x3, G5)
else
letK (fun (x8 : Int) =>
letK (fun (x10 : Int) (G11 : mG) =>
(P_X11_nextRow G11).bind fun z13 =>
again7 x10 (b2i z13.1) z13.2) fun k14 =>
letK ((acp G5 70 6 0 71 6 0 6).bind fun G16 =>
k14 x8 G16) fun k17 =>
bif (ieq x3 (-1)) then
k17
else
bif (ilt x8 x3) then
k17
else
k14 x3 G5) fun k18 =>
loop2 LF (fun again22 (x19 : Int) (x20 : Int) =>
(ald G5 57 282 0).bind fun v23 =>
bif (ilt x20 v23) then
(ald G5 70 6 (x20 - 1)).bind fun v24 =>
(P_X11_of v24 3 G5).bind fun v25 =>
(ald G5 70 6 x20).bind fun v26 =>
(P_X11_of v26 3 G5).bind fun v27 =>
(ald G5 57 282 ((45 + (4 * v25)) + v27)).bind fun v28 =>
again22 (x19 + v28) (x20 + 1)
else
k18 x19) 0 1) (-1) 1 G1) fun k29 =>
loop2 LF (fun again33 (x30 : Int) (G31 : mG) =>
(ald G31 57 282 0).bind fun v34 =>
bif (ilt x30 v34) then
(ast G31 70 6 x30 x30).bind fun G35 =>
again33 (x30 + 1) G35
else
k29 G31) 0 G
set_option maxRecDepth 100000 in
theorem T_X11_setup (scr : mScr) (d : Nat) (r : List (Option Nat)) (tl : List mSh) (nk : Nat × Nat) (G : mG)  : SimC scr (d + 3) 222 [sR 56] (mSH r tl, (G, nk)) (e1I r tl nk) (P_X11_setup G) := by
  refine sm_callX (cs := mc_X11_setup) (maxL := 5) (rk := 0) (o := 11) (hs := []) (d := d + 2) [lR 56, none, none, none, none] rfl rfl rfl rfl ?_
  unfold P_X11_setup
  refine sm_go 4 (s' := (4, ([lR 56, lI (-1), lI 0, none, none], ([], (mSH r tl, (G, nk)))))) ?_ rfl
  refine sm_letK1 (S := fun (g2 : Option mV) (G1 : mG) => (27, ([lR 56, lI (-1), g2, none, none], ([], (mSH r tl, (G1, nk)))))) ?_ ?_
  · intro g2 G1
    refine sm_go 2 (s' := (29, ([lR 56, lI (-1), lI 1, none, none], ([], (mSH r tl, (G1, nk)))))) ?_ rfl
    refine sm_loop3 (S := fun (g6 : Option mV × Option mV) (x3 : Int) (x4 : Int) (G5 : mG) => (29, ([lR 56, lI x3, lI x4, g6.1, g6.2], ([], (mSH r tl, (G5, nk)))))) ?_ LF (none, none) (-1) 1 G1
    intro again7 hagain7 g6 x3 x4 G5
    refine sm_go 1 (s' := (30, ([lR 56, lI x3, lI x4, g6.1, g6.2], ([sI x4], (mSH r tl, (G5, nk)))))) ?_ rfl
    refine sm_if1 (t := (ieq x4 0)) (pt := 130) rfl rfl rfl (fun _ => ?_) (fun _ => ?_)
    · refine sm_go 1 (s' := (131, ([lR 56, lI x3, lI x4, g6.1, g6.2], ([sI x3], (mSH r tl, (G5, nk)))))) ?_ rfl
      exact sm_retI rfl rfl rfl
    · refine sm_go 4 (s' := (38, ([lR 56, lI x3, lI x4, lI 0, lI 1], ([], (mSH r tl, (G5, nk)))))) ?_ rfl
      refine sm_letK1 (S := fun (g9 : Option mV) (x8 : Int) => (95, ([lR 56, lI x3, lI x4, lI x8, g9], ([], (mSH r tl, (G5, nk)))))) ?_ ?_
      · intro g9 x8
        refine sm_letK2 (S := fun (g12 : Unit) (x10 : Int) (G11 : mG) => (122, ([lR 56, lI x10, lI x4, lI x8, g9], ([], (mSH r tl, (G11, nk)))))) ?_ ?_
        · intro g12 x10 G11
          refine sm_go 1 (s' := (123, ([lR 56, lI x10, lI x4, lI x8, g9], ([sR 56], (mSH r tl, (G11, nk)))))) ?_ rfl
          refine sm_callG (rest := []) (T_X11_nextRow scr d r tl nk G11) rfl (Or.inl rfl) rfl rfl rfl rfl (fun _ => rfl) (fun z13 => (126, ([lR 56, lI x10, lI x4, lI x8, g9], ([sI (b2i z13.1)], (mSH r tl, (z13.2, nk)))))) (fun _ => rfl) fun z13 => ?_
          exact sm_go 2 (hagain7 (lI x8, g9) x10 (b2i z13.1) z13.2) rfl
        · intro k14 hk14
          refine sm_letK0 (S := fun (g15 : Unit) => (105, ([lR 56, lI x3, lI x4, lI x8, g9], ([], (mSH r tl, (G5, nk)))))) ?_ ?_
          · intro g15
            refine sm_go 9 (s' := (119, ([lR 56, lI x8, lI x4, lI x8, g9], ([sI 6, sI 0, sR 71, sI 0, sR 70], (mSH r tl, (G5, nk)))))) ?_ rfl
            refine sm_acp rfl rfl rfl rfl fun G16 => ?_
            exact hk14 () x8 G16
          · intro k17 hk17
            refine sm_go 2 (s' := (97, ([lR 56, lI x3, lI x4, lI x8, g9], ([sI (-1), sI x3], (mSH r tl, (G5, nk)))))) ?_ rfl
            refine sm_if2 (t := (ieq x3 (-1))) (pt := 105) rfl rfl rfl (fun _ => ?_) (fun _ => ?_)
            · exact hk17 ()
            · refine sm_go 2 (s' := (102, ([lR 56, lI x3, lI x4, lI x8, g9], ([sI x3, sI x8], (mSH r tl, (G5, nk)))))) ?_ rfl
              refine sm_if2n (t := (ilt x8 x3)) (pt := 122) rfl rfl rfl (fun _ => ?_) (fun _ => ?_)
              · exact hk17 ()
              · exact hk14 () x3 G5
      · intro k18 hk18
        refine sm_loop2 (S := fun (g21 : Unit) (x19 : Int) (x20 : Int) => (38, ([lR 56, lI x3, lI x4, lI x19, lI x20], ([], (mSH r tl, (G5, nk)))))) ?_ LF () 0 1
        intro again22 hagain22 g21 x19 x20
        refine sm_go 4 (s' := (45, ([lR 56, lI x3, lI x4, lI x19, lI x20], ([sI 0, sR 57, sI x20], (mSH r tl, (G5, nk)))))) ?_ rfl
        refine sm_ald rfl rfl fun v23 => ?_
        refine sm_if2n (t := (ilt x20 v23)) (pt := 95) rfl rfl rfl (fun _ => ?_) (fun _ => ?_)
        · refine sm_go 11 (s' := (66, ([lR 56, lI x3, lI x4, lI x19, lI x20], ([sI (x20 - 1), sR 70, sR 56, sI 4, sI 45, sR 57, sI x19], (mSH r tl, (G5, nk)))))) ?_ rfl
          refine sm_ald rfl rfl fun v24 => ?_
          refine sm_go 1 (s' := (68, ([lR 56, lI x3, lI x4, lI x19, lI x20], ([sI 3, sI v24, sR 56, sI 4, sI 45, sR 57, sI x19], (mSH r tl, (G5, nk)))))) ?_ rfl
          refine sm_callG (rest := [sI 4, sI 45, sR 57, sI x19]) (T_X11_of scr (d + 1) r tl nk G5 v24 3) rfl (Or.inl rfl) rfl rfl rfl rfl (fun _ => rfl) (fun v25 => (71, ([lR 56, lI x3, lI x4, lI x19, lI x20], ([sI v25, sI 4, sI 45, sR 57, sI x19], (mSH r tl, (G5, nk)))))) (fun _ => rfl) fun v25 => ?_
          refine sm_go 6 (s' := (80, ([lR 56, lI x3, lI x4, lI x19, lI x20], ([sI x20, sR 70, sR 56, sI (45 + (4 * v25)), sR 57, sI x19], (mSH r tl, (G5, nk)))))) ?_ rfl
          refine sm_ald rfl rfl fun v26 => ?_
          refine sm_go 1 (s' := (82, ([lR 56, lI x3, lI x4, lI x19, lI x20], ([sI 3, sI v26, sR 56, sI (45 + (4 * v25)), sR 57, sI x19], (mSH r tl, (G5, nk)))))) ?_ rfl
          refine sm_callG (rest := [sI (45 + (4 * v25)), sR 57, sI x19]) (T_X11_of scr (d + 1) r tl nk G5 v26 3) rfl (Or.inl rfl) rfl rfl rfl rfl (fun _ => rfl) (fun v27 => (85, ([lR 56, lI x3, lI x4, lI x19, lI x20], ([sI v27, sI (45 + (4 * v25)), sR 57, sI x19], (mSH r tl, (G5, nk)))))) (fun _ => rfl) fun v27 => ?_
          refine sm_go 1 (s' := (86, ([lR 56, lI x3, lI x4, lI x19, lI x20], ([sI ((45 + (4 * v25)) + v27), sR 57, sI x19], (mSH r tl, (G5, nk)))))) ?_ rfl
          refine sm_ald rfl rfl fun v28 => ?_
          exact sm_go 4 (hagain22 () (x19 + v28) (x20 + 1)) rfl
        · exact hk18 (lI x20) x19
  · intro k29 hk29
    refine sm_loop2 (S := fun (g32 : Unit) (x30 : Int) (G31 : mG) => (4, ([lR 56, lI (-1), lI x30, none, none], ([], (mSH r tl, (G31, nk)))))) ?_ LF () 0 G
    intro again33 hagain33 g32 x30 G31
    refine sm_go 4 (s' := (10, ([lR 56, lI (-1), lI x30, none, none], ([sI 0, sR 57, sI x30], (mSH r tl, (G31, nk)))))) ?_ rfl
    refine sm_ald rfl rfl fun v34 => ?_
    refine sm_if2n (t := (ilt x30 v34)) (pt := 27) rfl rfl rfl (fun _ => ?_) (fun _ => ?_)
    · refine sm_go 4 (s' := (20, ([lR 56, lI (-1), lI x30, none, none], ([sI x30, sI x30, sR 70], (mSH r tl, (G31, nk)))))) ?_ rfl
      refine sm_ast rfl rfl fun G35 => ?_
      exact sm_go 2 (hagain33 () (x30 + 1) G35) rfl
    · exact hk29 (lI x30) G31
def P_X11_leastSetup (G : mG) : Option (Int × mG) :=
(pst G 56 3 0).bind fun G1 =>
(P_X11_setup G1).bind fun z2 =>
some (z2.1, z2.2)
set_option maxRecDepth 100000 in
theorem T_X11_leastSetup (scr : mScr) (d : Nat) (r : List (Option Nat)) (tl : List mSh) (nk : Nat × Nat) (G : mG)  : SimC scr (d + 4) 223 [sR 56] (mSH r tl, (G, nk)) (e1I r tl nk) (P_X11_leastSetup G) := by
  refine sm_callX (cs := mc_X11_leastSetup) (maxL := 1) (rk := 0) (o := 11) (hs := []) (d := d + 3) [lR 56] rfl rfl rfl rfl ?_
  unfold P_X11_leastSetup
  refine sm_go 2 (s' := (2, ([lR 56], ([sI 0, sR 56], (mSH r tl, (G, nk)))))) ?_ rfl
  refine sm_pst rfl rfl rfl fun G1 => ?_
  refine sm_go 1 (s' := (6, ([lR 56], ([sR 56], (mSH r tl, (G1, nk)))))) ?_ rfl
  refine sm_callG (rest := []) (T_X11_setup scr d r tl nk G1) rfl (Or.inl rfl) rfl rfl rfl rfl (fun _ => rfl) (fun z2 => (9, ([lR 56], ([sI z2.1], (mSH r tl, (z2.2, nk)))))) (fun _ => rfl) fun z2 => ?_
  exact sm_retI rfl rfl rfl
noncomputable def P_X10_setupAt (p1 : Int) (W : mW) : Option ((Int ⊕ Nat) × mW) :=
thrB (P_X10_needPlaceOfJob p1 W) fun v2 W3 =>
(P_X6_search W3.2.2.1).bind fun G4 =>
(ald G4 50 6 p1).bind fun v5 =>
some (.inl v5, (W3.1, (W3.2.1, (G4, W3.2.2.2))))
set_option maxRecDepth 100000 in
theorem T_X10_setupAt (scr : mScr) (d : Nat) (W : mW)  (p1 : Int) : SimC scr (d + 12) 111 [sR 0, sI p1] (mkM W) (e2I) (P_X10_setupAt p1 W) := by
  refine sm_callX (cs := mc_X10_setupAt) (maxL := 2) (rk := 0) (o := 10) (hs := []) (d := d + 11) [lR 0, lI p1] rfl rfl rfl rfl ?_
  unfold P_X10_setupAt
  refine sm_go 2 (s' := (2, ([lR 0, lI p1], ([sI p1, sR 0], (mSH W.1 W.2.1, (W.2.2.1, W.2.2.2)))))) ?_ rfl
  refine sm_thr (rest := []) (T_X10_needPlaceOfJob scr (d + 10) W p1) rfl (Or.inl rfl) rfl rfl rfl rfl (fun _ _ => rfl) (fun _ _ => rfl) (fun v2 W3 => (5, ([lR 0, lI p1], ([], (mSH W3.1 W3.2.1, (W3.2.2.1, W3.2.2.2)))))) (fun _ _ => rfl) fun v2 W3 => ?_
  refine sm_go 2 (s' := (9, ([lR 0, lI p1], ([sR 48], (mSH W3.1 W3.2.1, (W3.2.2.1, W3.2.2.2)))))) ?_ rfl
  refine sm_callG (rest := []) (T_X6_search scr d W3.1 W3.2.1 W3.2.2.2 W3.2.2.1) rfl (Or.inl rfl) rfl rfl rfl rfl (fun _ => rfl) (fun G4 => (12, ([lR 0, lI p1], ([], (mSH W3.1 W3.2.1, (G4, W3.2.2.2)))))) (fun _ => rfl) fun G4 => ?_
  refine sm_go 4 (s' := (20, ([lR 0, lI p1], ([sI p1, sR 50], (mSH W3.1 W3.2.1, (G4, W3.2.2.2)))))) ?_ rfl
  refine sm_ald rfl rfl fun v5 => ?_
  exact sm_retI rfl rfl rfl
noncomputable def P_L_setupAt (p1 : Int) (W : mW) : Option ((Int ⊕ Nat) × mW) :=
ctcB (P_X10_setupAt p1 W) (fun v2 W3 =>
(ast W3.2.2.1 74 1 0 (w32 v2)).bind fun G5 =>
some (.inl 0, (W3.1, (W3.2.1, (G5, W3.2.2.2))))) (fun W4 =>
some (.inl 1, W4)) (fun _ => none) (fun _ => none)
set_option maxRecDepth 100000 in
theorem T_L_setupAt (scr : mScr) (d : Nat) (W : mW)  (p1 : Int) : SimC scr (d + 13) 270 [sR 0, sI p1, sR 74] (mkM W) (e2I) (P_L_setupAt p1 W) := by
  refine sm_callX (cs := mc_L_setupAt) (maxL := 4) (rk := 0) (o := 112) (hs := [(0, (9, (12, 0)))]) (d := d + 12) [lR 0, lI p1, lR 74, none] rfl rfl rfl rfl ?_
  unfold P_L_setupAt
  refine sm_go 4 (s' := (4, ([lR 0, lI p1, lR 74, none], ([sI p1, sR 0, sI 0, sR 74], (mSH W.1 W.2.1, (W.2.2.1, W.2.2.2)))))) ?_ rfl
  refine sm_ctc (rest := [sI 0, sR 74]) (T_X10_setupAt scr d W p1) rfl (Or.inl rfl) rfl rfl rfl rfl (fun _ _ => rfl) (fun v2 W3 => (7, ([lR 0, lI p1, lR 74, none], ([sI v2, sI 0, sR 74], (mSH W3.1 W3.2.1, (W3.2.2.1, W3.2.2.2)))))) (fun _ _ => rfl) (fun v2 W3 => ?_) (Or.inl ⟨12, rfl, fun W4 => ?_⟩) (Or.inr rfl) (Or.inr rfl)
  · refine sm_go 1 (s' := (8, ([lR 0, lI p1, lR 74, none], ([sL (w32 v2), sI 0, sR 74], (mSH W3.1 W3.2.1, (W3.2.2.1, W3.2.2.2)))))) ?_ rfl
    refine sm_lst rfl rfl fun G5 => ?_
    refine sm_go 1 (s' := (15, ([lR 0, lI p1, lR 74, none], ([], (mSH W3.1 W3.2.1, (G5, W3.2.2.2)))))) ?_ rfl
    refine sm_go 1 (s' := (16, ([lR 0, lI p1, lR 74, none], ([sI 0], (mSH W3.1 W3.2.1, (G5, W3.2.2.2)))))) ?_ rfl
    exact sm_retI rfl rfl rfl
  · refine sm_go 2 (s' := (14, ([lR 0, lI p1, lR 74, lO], ([sI 1], (mSH W4.1 W4.2.1, (W4.2.2.1, W4.2.2.2)))))) ?_ rfl
    exact sm_retI rfl rfl rfl
def P_X11_setupAt (p1 : Int) (G : mG) : Option (Int × mG) :=
(ald G 57 282 0).bind fun v2 =>
(P_X11_in p1 0 (v2 - 1)).bind fun v3 =>
(P_X11_fits (b2i v3) 1 1 G).bind fun z4 =>
bif z4.1 then
(P_X11_setup z4.2).bind fun z5 =>
(ald z5.2 71 6 p1).bind fun v6 =>
some (v6, z5.2)
else
some (0, z4.2)
set_option maxRecDepth 100000 in
theorem T_X11_setupAt (scr : mScr) (d : Nat) (r : List (Option Nat)) (tl : List mSh) (nk : Nat × Nat) (G : mG)  (p1 : Int) : SimC scr (d + 4) 224 [sR 56, sI p1] (mSH r tl, (G, nk)) (e1I r tl nk) (P_X11_setupAt p1 G) := by
  refine sm_callX (cs := mc_X11_setupAt) (maxL := 3) (rk := 0) (o := 11) (hs := []) (d := d + 3) [lR 56, lI p1, none] rfl rfl rfl rfl ?_
  unfold P_X11_setupAt
  refine sm_go 6 (s' := (8, ([lR 56, lI p1, none], ([sI 0, sR 57, sI 0, sI p1, sR 56], (mSH r tl, (G, nk)))))) ?_ rfl
  refine sm_ald rfl rfl fun v2 => ?_
  refine sm_go 2 (s' := (11, ([lR 56, lI p1, none], ([sI (v2 - 1), sI 0, sI p1, sR 56], (mSH r tl, (G, nk)))))) ?_ rfl
  refine sm_callG (rest := [sR 56]) (T_X11_in scr (d + 2) r tl nk G p1 0 (v2 - 1)) rfl (Or.inr (Or.inl rfl)) rfl rfl rfl rfl (fun _ => rfl) (fun v3 => (14, ([lR 56, lI p1, none], ([sI (b2i v3), sR 56], (mSH r tl, (G, nk)))))) (fun _ => rfl) fun v3 => ?_
  refine sm_go 2 (s' := (16, ([lR 56, lI p1, none], ([sI 1, sI 1, sI (b2i v3), sR 56], (mSH r tl, (G, nk)))))) ?_ rfl
  refine sm_callG (rest := []) (T_X11_fits scr (d + 2) r tl nk G (b2i v3) 1 1) rfl (Or.inl rfl) rfl rfl rfl rfl (fun _ => rfl) (fun z4 => (19, ([lR 56, lI p1, none], ([sI (b2i z4.1)], (mSH r tl, (z4.2, nk)))))) (fun _ => rfl) fun z4 => ?_
  refine sm_if1 (t := z4.1) (pt := 24) (mCmpB_ne z4.1) rfl rfl (fun _ => ?_) (fun _ => ?_)
  · refine sm_go 1 (s' := (25, ([lR 56, lI p1, none], ([sR 56], (mSH r tl, (z4.2, nk)))))) ?_ rfl
    refine sm_callG (rest := []) (T_X11_setup scr d r tl nk z4.2) rfl (Or.inl rfl) rfl rfl rfl rfl (fun _ => rfl) (fun z5 => (28, ([lR 56, lI p1, none], ([sI z5.1], (mSH r tl, (z5.2, nk)))))) (fun _ => rfl) fun z5 => ?_
    refine sm_go 4 (s' := (34, ([lR 56, lI p1, lI z5.1], ([sI p1, sR 71], (mSH r tl, (z5.2, nk)))))) ?_ rfl
    refine sm_ald rfl rfl fun v6 => ?_
    exact sm_retI rfl rfl rfl
  · refine sm_go 1 (s' := (23, ([lR 56, lI p1, none], ([sI 0], (mSH r tl, (z4.2, nk)))))) ?_ rfl
    exact sm_retI rfl rfl rfl
def P_X1_fillable (p1 : Int) (G : mG) : Option (Int) :=
letK (fun (x2 : Int) =>
some (iAnd p1 x2)) fun k4 =>
loop2 LF (fun again8 (x5 : Int) (x6 : Int) =>
bif (ilt x6 6) then
(ald G 15 6 x6).bind fun v9 =>
again8 (iOr x5 v9) (x6 + 1)
else
k4 x5) 0 0
set_option maxRecDepth 100000 in
theorem T_X1_fillable (scr : mScr) (d : Nat) (r : List (Option Nat)) (tl : List mSh) (nk : Nat × Nat) (G : mG)  (p1 : Int) : SimC scr (d + 1) 5 [sR 51, sI p1] (mSH r tl, (G, nk)) (e0I (mSH r tl, (G, nk))) (P_X1_fillable p1 G) := by
  refine sm_callX (cs := mc_X1_fillable) (maxL := 4) (rk := 0) (o := 1) (hs := []) (d := d + 0) [lR 51, lI p1, none, none] rfl rfl rfl rfl ?_
  unfold P_X1_fillable
  refine sm_go 4 (s' := (4, ([lR 51, lI p1, lI 0, lI 0], ([], (mSH r tl, (G, nk)))))) ?_ rfl
  refine sm_letK1 (S := fun (g3 : Option mV) (x2 : Int) => (28, ([lR 51, lI p1, lI x2, g3], ([], (mSH r tl, (G, nk)))))) ?_ ?_
  · intro g3 x2
    refine sm_go 3 (s' := (31, ([lR 51, lI p1, lI x2, g3], ([sI (iAnd p1 x2)], (mSH r tl, (G, nk)))))) ?_ rfl
    exact sm_retI rfl rfl rfl
  · intro k4 hk4
    refine sm_loop2 (S := fun (g7 : Unit) (x5 : Int) (x6 : Int) => (4, ([lR 51, lI p1, lI x5, lI x6], ([], (mSH r tl, (G, nk)))))) ?_ LF () 0 0
    intro again8 hagain8 g7 x5 x6
    refine sm_go 2 (s' := (7, ([lR 51, lI p1, lI x5, lI x6], ([sI 6, sI x6], (mSH r tl, (G, nk)))))) ?_ rfl
    refine sm_if2n (t := (ilt x6 6)) (pt := 28) rfl rfl rfl (fun _ => ?_) (fun _ => ?_)
    · refine sm_go 5 (s' := (19, ([lR 51, lI p1, lI x5, lI x6], ([sI x6, sR 15, sI x5], (mSH r tl, (G, nk)))))) ?_ rfl
      refine sm_ald rfl rfl fun v9 => ?_
      exact sm_go 4 (hagain8 () (iOr x5 v9) (x6 + 1)) rfl
    · exact hk4 (lI x6) x5
def P_X1_explore : Nat → Int → Int → Int → Int → mG → Option (mG)
  | 0, _, _, _, _, _ => none
  | N + 1, p1, p2, p3, p4, G =>
    (P_J6_bitCount_0f7a4 (iUshr p1 p2)).bind fun v5 =>
    bif (ilt (G 51 3) (p4 + v5)) then
    bif (ilt p2 4) then
    letK (fun (G6 : mG) =>
    (ast G6 52 4 p2 (-1)).bind fun G8 =>
    (P_X1_explore N p1 (p2 + 1) p3 p4 G8).bind fun G9 =>
    some G9) fun k10 =>
    bif (ieq (iAnd p1 (iShl 1 p2)) 0) then
    k10 G
    else
    loop2 LF (fun again14 (x11 : Int) (G12 : mG) =>
    bif (ilt x11 6) then
    letK (fun (G15 : mG) =>
    again14 (x11 + 1) G15) fun k17 =>
    bif (ieq (iAnd p3 (iShl 1 x11)) 0) then
    (ald G12 15 6 x11).bind fun v18 =>
    bif (ieq (iAnd v18 (iShl 1 p2)) 0) then
    k17 G12
    else
    (ast G12 52 4 p2 x11).bind fun G19 =>
    (P_X1_explore N p1 (p2 + 1) (iOr p3 (iShl 1 x11)) (p4 + 1) G19).bind fun G20 =>
    k17 G20
    else
    k17 G12
    else
    k10 G12) 0 G
    else
    (pst G 51 3 p4).bind fun G21 =>
    (acp G21 52 4 0 53 4 0 4).bind fun G22 =>
    some G22
    else
    some G
set_option maxRecDepth 100000 in
theorem T_X1_explore (scr : mScr) (d : Nat) (N : Nat) (r : List (Option Nat)) (tl : List mSh) (nk : Nat × Nat) (G : mG)  (p1 : Int) (p2 : Int) (p3 : Int) (p4 : Int) : SimC scr (d + N + 2) 6 [sR 51, sI p1, sI p2, sI p3, sI p4] (mSH r tl, (G, nk)) (e1U r tl nk) (P_X1_explore N p1 p2 p3 p4 G) := by
  induction N generalizing G p1 p2 p3 p4 with
  | zero => exact fun _ h => nomatch h
  | succ N ih =>
    refine sm_callX (cs := mc_X1_explore) (maxL := 6) (rk := 0) (o := 1) (hs := []) (d := d + N + 2) [lR 51, lI p1, lI p2, lI p3, lI p4, none] rfl rfl rfl rfl ?_
    show Sim _ _ _ _ _ _ _ (P_X1_explore (N + 1) p1 p2 p3 p4 G)
    unfold P_X1_explore
    refine sm_go 4 (s' := (5, ([lR 51, lI p1, lI p2, lI p3, lI p4, none], ([sI (iUshr p1 p2), sI p4], (mSH r tl, (G, nk)))))) ?_ rfl
    refine sm_callG (rest := [sI p4]) (T_J6_bitCount_0f7a4 scr ((d + N) + 1) r tl nk G (iUshr p1 p2)) rfl (Or.inr (Or.inl rfl)) rfl rfl rfl rfl (fun _ => rfl) (fun v5 => (8, ([lR 51, lI p1, lI p2, lI p3, lI p4, none], ([sI v5, sI p4], (mSH r tl, (G, nk)))))) (fun _ => rfl) fun v5 => ?_
    refine sm_go 3 (s' := (13, ([lR 51, lI p1, lI p2, lI p3, lI p4, none], ([sI (G 51 3), sI (p4 + v5)], (mSH r tl, (G, nk)))))) ?_ rfl
    refine sm_if2 (t := (ilt (G 51 3) (p4 + v5))) (pt := 17) rfl rfl rfl (fun _ => ?_) (fun _ => ?_)
    · refine sm_go 2 (s' := (19, ([lR 51, lI p1, lI p2, lI p3, lI p4, none], ([sI 4, sI p2], (mSH r tl, (G, nk)))))) ?_ rfl
      refine sm_if2 (t := (ilt p2 4)) (pt := 43) rfl rfl rfl (fun _ => ?_) (fun _ => ?_)
      · refine sm_letK1 (S := fun (g7 : Option mV) (G6 : mG) => (119, ([lR 51, lI p1, lI p2, lI p3, lI p4, g7], ([], (mSH r tl, (G6, nk)))))) ?_ ?_
        · intro g7 G6
          refine sm_go 4 (s' := (125, ([lR 51, lI p1, lI p2, lI p3, lI p4, g7], ([sI (-1), sI p2, sR 52], (mSH r tl, (G6, nk)))))) ?_ rfl
          refine sm_ast rfl rfl fun G8 => ?_
          refine sm_go 7 (s' := (134, ([lR 51, lI p1, lI p2, lI p3, lI p4, g7], ([sI p4, sI p3, sI (p2 + 1), sI p1, sR 51], (mSH r tl, (G8, nk)))))) ?_ rfl
          refine sm_callG (rest := []) (ih G8 p1 (p2 + 1) p3 p4) rfl (Or.inl rfl) rfl rfl rfl rfl (fun _ => rfl) (fun G9 => (137, ([lR 51, lI p1, lI p2, lI p3, lI p4, g7], ([], (mSH r tl, (G9, nk)))))) (fun _ => rfl) fun G9 => ?_
          exact sm_retU rfl rfl
        · intro k10 hk10
          refine sm_go 5 (s' := (48, ([lR 51, lI p1, lI p2, lI p3, lI p4, none], ([sI (iAnd p1 (iShl 1 p2))], (mSH r tl, (G, nk)))))) ?_ rfl
          refine sm_if1 (t := (ieq (iAnd p1 (iShl 1 p2)) 0)) (pt := 119) rfl rfl rfl (fun _ => ?_) (fun _ => ?_)
          · exact hk10 (none) G
          · refine sm_go 2 (s' := (54, ([lR 51, lI p1, lI p2, lI p3, lI p4, lI 0], ([], (mSH r tl, (G, nk)))))) ?_ rfl
            refine sm_loop2 (S := fun (g13 : Unit) (x11 : Int) (G12 : mG) => (54, ([lR 51, lI p1, lI p2, lI p3, lI p4, lI x11], ([], (mSH r tl, (G12, nk)))))) ?_ LF () 0 G
            intro again14 hagain14 g13 x11 G12
            refine sm_go 2 (s' := (58, ([lR 51, lI p1, lI p2, lI p3, lI p4, lI x11], ([sI 6, sI x11], (mSH r tl, (G12, nk)))))) ?_ rfl
            refine sm_if2n (t := (ilt x11 6)) (pt := 119) rfl rfl rfl (fun _ => ?_) (fun _ => ?_)
            · refine sm_letK1 (S := fun (g16 : Unit) (G15 : mG) => (113, ([lR 51, lI p1, lI p2, lI p3, lI p4, lI x11], ([], (mSH r tl, (G15, nk)))))) ?_ ?_
              · intro g16 G15
                exact sm_go 2 (hagain14 () (x11 + 1) G15) rfl
              · intro k17 hk17
                refine sm_go 5 (s' := (67, ([lR 51, lI p1, lI p2, lI p3, lI p4, lI x11], ([sI (iAnd p3 (iShl 1 x11))], (mSH r tl, (G12, nk)))))) ?_ rfl
                refine sm_if1n (t := (ieq (iAnd p3 (iShl 1 x11)) 0)) (pt := 113) rfl rfl rfl (fun _ => ?_) (fun _ => ?_)
                · refine sm_go 4 (s' := (79, ([lR 51, lI p1, lI p2, lI p3, lI p4, lI x11], ([sI x11, sR 15], (mSH r tl, (G12, nk)))))) ?_ rfl
                  refine sm_ald rfl rfl fun v18 => ?_
                  refine sm_go 4 (s' := (84, ([lR 51, lI p1, lI p2, lI p3, lI p4, lI x11], ([sI (iAnd v18 (iShl 1 p2))], (mSH r tl, (G12, nk)))))) ?_ rfl
                  refine sm_if1 (t := (ieq (iAnd v18 (iShl 1 p2)) 0)) (pt := 113) rfl rfl rfl (fun _ => ?_) (fun _ => ?_)
                  · exact hk17 () G12
                  · refine sm_go 4 (s' := (94, ([lR 51, lI p1, lI p2, lI p3, lI p4, lI x11], ([sI x11, sI p2, sR 52], (mSH r tl, (G12, nk)))))) ?_ rfl
                    refine sm_ast rfl rfl fun G19 => ?_
                    refine sm_go 13 (s' := (110, ([lR 51, lI p1, lI p2, lI p3, lI p4, lI x11], ([sI (p4 + 1), sI (iOr p3 (iShl 1 x11)), sI (p2 + 1), sI p1, sR 51], (mSH r tl, (G19, nk)))))) ?_ rfl
                    refine sm_callG (rest := []) (ih G19 p1 (p2 + 1) (iOr p3 (iShl 1 x11)) (p4 + 1)) rfl (Or.inl rfl) rfl rfl rfl rfl (fun _ => rfl) (fun G20 => (113, ([lR 51, lI p1, lI p2, lI p3, lI p4, lI x11], ([], (mSH r tl, (G20, nk)))))) (fun _ => rfl) fun G20 => ?_
                    exact hk17 () G20
                · exact hk17 () G12
            · exact hk10 (lI x11) G12
      · refine sm_go 2 (s' := (25, ([lR 51, lI p1, lI p2, lI p3, lI p4, none], ([sI p4, sR 51], (mSH r tl, (G, nk)))))) ?_ rfl
        refine sm_pst rfl rfl rfl fun G21 => ?_
        refine sm_go 7 (s' := (39, ([lR 51, lI p1, lI p2, lI p3, lI p4, none], ([sI 4, sI 0, sR 53, sI 0, sR 52], (mSH r tl, (G21, nk)))))) ?_ rfl
        refine sm_acp rfl rfl rfl rfl fun G22 => ?_
        exact sm_retU rfl rfl
    · exact sm_retU rfl rfl
def P_X1_assign (p1 : Int) (G : mG) : Option (mG) :=
(pst G 51 3 (-1)).bind fun G2 =>
(P_X1_fillable p1 G2).bind fun v3 =>
(P_X1_explore 6 v3 0 0 0 G2).bind fun G4 =>
some G4
set_option maxRecDepth 100000 in
theorem T_X1_assign (scr : mScr) (d : Nat) (r : List (Option Nat)) (tl : List mSh) (nk : Nat × Nat) (G : mG)  (p1 : Int) : SimC scr (d + 9) 4 [sR 51, sI p1] (mSH r tl, (G, nk)) (e1U r tl nk) (P_X1_assign p1 G) := by
  refine sm_callX (cs := mc_X1_assign) (maxL := 2) (rk := 0) (o := 1) (hs := []) (d := d + 8) [lR 51, lI p1] rfl rfl rfl rfl ?_
  unfold P_X1_assign
  refine sm_go 2 (s' := (2, ([lR 51, lI p1], ([sI (-1), sR 51], (mSH r tl, (G, nk)))))) ?_ rfl
  refine sm_pst rfl rfl rfl fun G2 => ?_
  refine sm_go 3 (s' := (8, ([lR 51, lI p1], ([sI p1, sR 51, sR 51], (mSH r tl, (G2, nk)))))) ?_ rfl
  refine sm_callG (rest := [sR 51]) (T_X1_fillable scr (d + 7) r tl nk G2 p1) rfl (Or.inl rfl) rfl rfl rfl rfl (fun _ => rfl) (fun v3 => (11, ([lR 51, lI p1], ([sI v3, sR 51], (mSH r tl, (G2, nk)))))) (fun _ => rfl) fun v3 => ?_
  refine sm_go 3 (s' := (14, ([lR 51, lI p1], ([sI 0, sI 0, sI 0, sI v3, sR 51], (mSH r tl, (G2, nk)))))) ?_ rfl
  refine sm_callG (rest := []) (T_X1_explore scr d 6 r tl nk G2 v3 0 0 0) rfl (Or.inl rfl) rfl rfl rfl rfl (fun _ => rfl) (fun G4 => (17, ([lR 51, lI p1], ([], (mSH r tl, (G4, nk)))))) (fun _ => rfl) fun G4 => ?_
  exact sm_retU rfl rfl
noncomputable def P_X10_match (p1 : Int) (W : mW) : Option ((Int ⊕ Nat) × mW) :=
thrB (P_X10_needMachines p1 W) fun v2 W3 =>
(P_X1_assign p1 W3.2.2.1).bind fun G4 =>
some (.inl (G4 51 3), (W3.1, (W3.2.1, (G4, W3.2.2.2))))
set_option maxRecDepth 100000 in
theorem T_X10_match (scr : mScr) (d : Nat) (W : mW)  (p1 : Int) : SimC scr (d + 10) 112 [sR 0, sI p1] (mkM W) (e2I) (P_X10_match p1 W) := by
  refine sm_callX (cs := mc_X10_match) (maxL := 2) (rk := 0) (o := 10) (hs := []) (d := d + 9) [lR 0, lI p1] rfl rfl rfl rfl ?_
  unfold P_X10_match
  refine sm_go 1 (s' := (1, ([lR 0, lI p1], ([sI p1], (mSH W.1 W.2.1, (W.2.2.1, W.2.2.2)))))) ?_ rfl
  refine sm_thr (rest := []) (T_X10_needMachines scr (d + 7) W p1) rfl (Or.inr (Or.inl rfl)) rfl rfl rfl rfl (fun _ _ => rfl) (fun _ _ => rfl) (fun v2 W3 => (4, ([lR 0, lI p1], ([], (mSH W3.1 W3.2.1, (W3.2.2.1, W3.2.2.2)))))) (fun _ _ => rfl) fun v2 W3 => ?_
  refine sm_go 3 (s' := (9, ([lR 0, lI p1], ([sI p1, sR 51], (mSH W3.1 W3.2.1, (W3.2.2.1, W3.2.2.2)))))) ?_ rfl
  refine sm_callG (rest := []) (T_X1_assign scr d W3.1 W3.2.1 W3.2.2.2 W3.2.2.1 p1) rfl (Or.inl rfl) rfl rfl rfl rfl (fun _ => rfl) (fun G4 => (12, ([lR 0, lI p1], ([], (mSH W3.1 W3.2.1, (G4, W3.2.2.2)))))) (fun _ => rfl) fun G4 => ?_
  refine sm_go 3 (s' := (19, ([lR 0, lI p1], ([sI (G4 51 3)], (mSH W3.1 W3.2.1, (G4, W3.2.2.2)))))) ?_ rfl
  exact sm_retI rfl rfl rfl
noncomputable def P_L_match (p1 : Int) (W : mW) : Option ((Int ⊕ Nat) × mW) :=
ctcB (P_X10_match p1 W) (fun v2 W3 =>
(ast W3.2.2.1 74 1 0 (w32 v2)).bind fun G5 =>
some (.inl 0, (W3.1, (W3.2.1, (G5, W3.2.2.2))))) (fun _ => none) (fun W4 =>
some (.inl 1, W4)) (fun _ => none)
set_option maxRecDepth 100000 in
theorem T_L_match (scr : mScr) (d : Nat) (W : mW)  (p1 : Int) : SimC scr (d + 11) 271 [sR 0, sI p1, sR 74] (mkM W) (e2I) (P_L_match p1 W) := by
  refine sm_callX (cs := mc_L_match) (maxL := 4) (rk := 0) (o := 112) (hs := [(0, (9, (12, 1)))]) (d := d + 10) [lR 0, lI p1, lR 74, none] rfl rfl rfl rfl ?_
  unfold P_L_match
  refine sm_go 4 (s' := (4, ([lR 0, lI p1, lR 74, none], ([sI p1, sR 0, sI 0, sR 74], (mSH W.1 W.2.1, (W.2.2.1, W.2.2.2)))))) ?_ rfl
  refine sm_ctc (rest := [sI 0, sR 74]) (T_X10_match scr d W p1) rfl (Or.inl rfl) rfl rfl rfl rfl (fun _ _ => rfl) (fun v2 W3 => (7, ([lR 0, lI p1, lR 74, none], ([sI v2, sI 0, sR 74], (mSH W3.1 W3.2.1, (W3.2.2.1, W3.2.2.2)))))) (fun _ _ => rfl) (fun v2 W3 => ?_) (Or.inr rfl) (Or.inl ⟨12, rfl, fun W4 => ?_⟩) (Or.inr rfl)
  · refine sm_go 1 (s' := (8, ([lR 0, lI p1, lR 74, none], ([sL (w32 v2), sI 0, sR 74], (mSH W3.1 W3.2.1, (W3.2.2.1, W3.2.2.2)))))) ?_ rfl
    refine sm_lst rfl rfl fun G5 => ?_
    refine sm_go 1 (s' := (15, ([lR 0, lI p1, lR 74, none], ([], (mSH W3.1 W3.2.1, (G5, W3.2.2.2)))))) ?_ rfl
    refine sm_go 1 (s' := (16, ([lR 0, lI p1, lR 74, none], ([sI 0], (mSH W3.1 W3.2.1, (G5, W3.2.2.2)))))) ?_ rfl
    exact sm_retI rfl rfl rfl
  · refine sm_go 2 (s' := (14, ([lR 0, lI p1, lR 74, lO], ([sI 1], (mSH W4.1 W4.2.1, (W4.2.2.1, W4.2.2.2)))))) ?_ rfl
    exact sm_retI rfl rfl rfl
def P_X11_workerIn (p1 : Int) (p2 : Int) : Option (Int) :=
letK (fun (x3 : Int) =>
some (iRem x3 7)) fun k5 =>
loop2 LF (fun again9 (x6 : Int) (x7 : Int) =>
bif (ilt x7 3) then
again9 (iDiv x6 7) (x7 + 1)
else
k5 x6) p1 p2
set_option maxRecDepth 100000 in
theorem T_X11_workerIn (scr : mScr) (d : Nat) (r : List (Option Nat)) (tl : List mSh) (nk : Nat × Nat) (G : mG)  (p1 : Int) (p2 : Int) : SimC scr (d + 1) 226 [sI p1, sI p2] (mSH r tl, (G, nk)) (e0I (mSH r tl, (G, nk))) (P_X11_workerIn p1 p2) := by
  refine sm_callX (cs := mc_X11_workerIn) (maxL := 4) (rk := 0) (o := 111) (hs := []) (d := d + 0) [lI p1, lI p2, none, none] rfl rfl rfl rfl ?_
  unfold P_X11_workerIn
  refine sm_go 4 (s' := (4, ([lI p1, lI p2, lI p1, lI p2], ([], (mSH r tl, (G, nk)))))) ?_ rfl
  refine sm_letK1 (S := fun (g4 : Option mV) (x3 : Int) => (20, ([lI p1, lI p2, lI x3, g4], ([], (mSH r tl, (G, nk)))))) ?_ ?_
  · intro g4 x3
    refine sm_go 3 (s' := (24, ([lI p1, lI p2, lI x3, g4], ([sI (iRem x3 7)], (mSH r tl, (G, nk)))))) ?_ rfl
    exact sm_retI rfl rfl rfl
  · intro k5 hk5
    refine sm_loop2 (S := fun (g8 : Unit) (x6 : Int) (x7 : Int) => (4, ([lI p1, lI p2, lI x6, lI x7], ([], (mSH r tl, (G, nk)))))) ?_ LF () p1 p2
    intro again9 hagain9 g8 x6 x7
    refine sm_go 2 (s' := (6, ([lI p1, lI p2, lI x6, lI x7], ([sI 3, sI x7], (mSH r tl, (G, nk)))))) ?_ rfl
    refine sm_if2n (t := (ilt x7 3)) (pt := 20) rfl rfl rfl (fun _ => ?_) (fun _ => ?_)
    · exact sm_go 6 (hagain9 () (iDiv x6 7) (x7 + 1)) rfl
    · exact hk5 (lI x7) x6
def P_X11_matches (p1 : Int) (G : mG) : Option (Int × mG) :=
loop3 LF (fun again6 (x2 : Int) (x3 : Int) (G4 : mG) =>
bif (ilt x3 2401) then
letK (fun (x7 : Int) (x8 : Int) =>
letK (fun (x10 : Int) (G11 : mG) =>
again6 x10 (x3 + 1) G11) fun k13 =>
bif (ieq x8 0) then
k13 x2 G4
else
bif (ilt x2 x7) then
loop2 LF (fun again17 (x14 : Int) (G15 : mG) =>
bif (ilt x14 4) then
(P_X11_workerIn x3 x14).bind fun v18 =>
letK (fun (x19 : Int) =>
(ast G15 72 4 x14 x19).bind fun G21 =>
again17 (x14 + 1) G21) fun k22 =>
bif (ieq v18 6) then
k22 (-1)
else
(P_X11_workerIn x3 x14).bind fun v23 =>
k22 v23
else
k13 x7 G15) 0 G4
else
k13 x2 G4) fun k24 =>
loop4 LF (fun again30 (x25 : Int) (x26 : Int) (x27 : Int) (x28 : Int) =>
bif (ilt x28 4) then
bif (ieq x27 0) then
k24 x25 x27
else
(P_X11_workerIn x3 x28).bind fun v31 =>
letK (fun (x32 : Int) (x33 : Int) (x34 : Int) =>
again30 x32 x33 x34 (x28 + 1)) fun k36 =>
bif (ieq v31 6) then
k36 x25 x26 x27
else
letK (fun (x37 : Int) =>
k36 (x25 + 1) (iOr x26 (iShl 1 v31)) x37) fun k39 =>
letK (k39 0) fun k41 =>
bif (ieq (iAnd (iShr p1 x28) 1) 1) then
(ald G4 57 282 (276 + v31)).bind fun v42 =>
bif (ieq (iAnd (iShr v42 x28) 1) 1) then
bif (ieq (iAnd (iShr x26 v31) 1) 0) then
k39 1
else
k41
else
k41
else
k41
else
k24 x25 x27) 0 0 1 0
else
some (x2, G4)) (-1) 0 G
set_option maxRecDepth 100000 in
theorem T_X11_matches (scr : mScr) (d : Nat) (r : List (Option Nat)) (tl : List mSh) (nk : Nat × Nat) (G : mG)  (p1 : Int) : SimC scr (d + 2) 225 [sR 56, sI p1] (mSH r tl, (G, nk)) (e1I r tl nk) (P_X11_matches p1 G) := by
  refine sm_callX (cs := mc_X11_matches) (maxL := 9) (rk := 0) (o := 11) (hs := []) (d := d + 1) [lR 56, lI p1, none, none, none, none, none, none, none] rfl rfl rfl rfl ?_
  unfold P_X11_matches
  refine sm_go 4 (s' := (4, ([lR 56, lI p1, lI (-1), lI 0, none, none, none, none, none], ([], (mSH r tl, (G, nk)))))) ?_ rfl
  refine sm_loop3 (S := fun (g5 : Option mV × Option mV × Option mV × Option mV × Option mV) (x2 : Int) (x3 : Int) (G4 : mG) => (4, ([lR 56, lI p1, lI x2, lI x3, g5.1, g5.2.1, g5.2.2.1, g5.2.2.2.1, g5.2.2.2.2], ([], (mSH r tl, (G4, nk)))))) ?_ LF (none, none, none, none, none) (-1) 0 G
  intro again6 hagain6 g5 x2 x3 G4
  refine sm_go 2 (s' := (8, ([lR 56, lI p1, lI x2, lI x3, g5.1, g5.2.1, g5.2.2.1, g5.2.2.2.1, g5.2.2.2.2], ([sI 2401, sI x3], (mSH r tl, (G4, nk)))))) ?_ rfl
  refine sm_if2n (t := (ilt x3 2401)) (pt := 183) rfl rfl rfl (fun _ => ?_) (fun _ => ?_)
  · refine sm_go 8 (s' := (23, ([lR 56, lI p1, lI x2, lI x3, lI 0, lI 0, lI 1, lI 0, g5.2.2.2.2], ([], (mSH r tl, (G4, nk)))))) ?_ rfl
    refine sm_letK2 (S := fun (g9 : Option mV × Option mV × Option mV) (x7 : Int) (x8 : Int) => (117, ([lR 56, lI p1, lI x2, lI x3, lI x7, g9.1, lI x8, g9.2.1, g9.2.2], ([], (mSH r tl, (G4, nk)))))) ?_ ?_
    · intro g9 x7 x8
      refine sm_letK2 (S := fun (g12 : Option mV) (x10 : Int) (G11 : mG) => (177, ([lR 56, lI p1, lI x10, lI x3, lI x7, g9.1, lI x8, g12, g9.2.2], ([], (mSH r tl, (G11, nk)))))) ?_ ?_
      · intro g12 x10 G11
        exact sm_go 2 (hagain6 (lI x7, g9.1, lI x8, g12, g9.2.2) x10 (x3 + 1) G11) rfl
      · intro k13 hk13
        refine sm_go 1 (s' := (119, ([lR 56, lI p1, lI x2, lI x3, lI x7, g9.1, lI x8, g9.2.1, g9.2.2], ([sI x8], (mSH r tl, (G4, nk)))))) ?_ rfl
        refine sm_if1 (t := (ieq x8 0)) (pt := 177) rfl rfl rfl (fun _ => ?_) (fun _ => ?_)
        · exact hk13 (g9.2.1) x2 G4
        · refine sm_go 2 (s' := (125, ([lR 56, lI p1, lI x2, lI x3, lI x7, g9.1, lI x8, g9.2.1, g9.2.2], ([sI x2, sI x7], (mSH r tl, (G4, nk)))))) ?_ rfl
          refine sm_if2 (t := (ilt x2 x7)) (pt := 131) rfl rfl rfl (fun _ => ?_) (fun _ => ?_)
          · refine sm_go 4 (s' := (137, ([lR 56, lI p1, lI x7, lI x3, lI x7, g9.1, lI x8, lI 0, g9.2.2], ([], (mSH r tl, (G4, nk)))))) ?_ rfl
            refine sm_loop2 (S := fun (g16 : Unit) (x14 : Int) (G15 : mG) => (137, ([lR 56, lI p1, lI x7, lI x3, lI x7, g9.1, lI x8, lI x14, g9.2.2], ([], (mSH r tl, (G15, nk)))))) ?_ LF () 0 G4
            intro again17 hagain17 g16 x14 G15
            refine sm_go 2 (s' := (140, ([lR 56, lI p1, lI x7, lI x3, lI x7, g9.1, lI x8, lI x14, g9.2.2], ([sI 4, sI x14], (mSH r tl, (G15, nk)))))) ?_ rfl
            refine sm_if2n (t := (ilt x14 4)) (pt := 177) rfl rfl rfl (fun _ => ?_) (fun _ => ?_)
            · refine sm_go 5 (s' := (152, ([lR 56, lI p1, lI x7, lI x3, lI x7, g9.1, lI x8, lI x14, g9.2.2], ([sI x14, sI x3, sI x14, sR 72], (mSH r tl, (G15, nk)))))) ?_ rfl
              refine sm_callG (rest := [sI x14, sR 72]) (T_X11_workerIn scr d r tl nk G15 x3 x14) rfl (Or.inr (Or.inl rfl)) rfl rfl rfl rfl (fun _ => rfl) (fun v18 => (155, ([lR 56, lI p1, lI x7, lI x3, lI x7, g9.1, lI x8, lI x14, g9.2.2], ([sI v18, sI x14, sR 72], (mSH r tl, (G15, nk)))))) (fun _ => rfl) fun v18 => ?_
              refine sm_letK1 (S := fun (g20 : Unit) (x19 : Int) => (170, ([lR 56, lI p1, lI x7, lI x3, lI x7, g9.1, lI x8, lI x14, g9.2.2], ([sI x19, sI x14, sR 72], (mSH r tl, (G15, nk)))))) ?_ ?_
              · intro g20 x19
                refine sm_ast rfl rfl fun G21 => ?_
                exact sm_go 2 (hagain17 () (x14 + 1) G21) rfl
              · intro k22 hk22
                refine sm_go 1 (s' := (157, ([lR 56, lI p1, lI x7, lI x3, lI x7, g9.1, lI x8, lI x14, g9.2.2], ([sI 6, sI v18, sI x14, sR 72], (mSH r tl, (G15, nk)))))) ?_ rfl
                refine sm_if2n (t := (ieq v18 6)) (pt := 164) rfl rfl rfl (fun _ => ?_) (fun _ => ?_)
                · exact sm_go 2 (hk22 () (-1)) rfl
                · refine sm_go 2 (s' := (167, ([lR 56, lI p1, lI x7, lI x3, lI x7, g9.1, lI x8, lI x14, g9.2.2], ([sI x14, sI x3, sI x14, sR 72], (mSH r tl, (G15, nk)))))) ?_ rfl
                  refine sm_callG (rest := [sI x14, sR 72]) (T_X11_workerIn scr d r tl nk G15 x3 x14) rfl (Or.inr (Or.inl rfl)) rfl rfl rfl rfl (fun _ => rfl) (fun v23 => (170, ([lR 56, lI p1, lI x7, lI x3, lI x7, g9.1, lI x8, lI x14, g9.2.2], ([sI v23, sI x14, sR 72], (mSH r tl, (G15, nk)))))) (fun _ => rfl) fun v23 => ?_
                  exact hk22 () v23
            · exact hk13 (lI x14) x7 G15
          · exact sm_go 1 (hk13 (g9.2.1) x2 G4) rfl
    · intro k24 hk24
      refine sm_loop4 (S := fun (g29 : Option mV) (x25 : Int) (x26 : Int) (x27 : Int) (x28 : Int) => (23, ([lR 56, lI p1, lI x2, lI x3, lI x25, lI x26, lI x27, lI x28, g29], ([], (mSH r tl, (G4, nk)))))) ?_ LF (g5.2.2.2.2) 0 0 1 0
      intro again30 hagain30 g29 x25 x26 x27 x28
      refine sm_go 2 (s' := (26, ([lR 56, lI p1, lI x2, lI x3, lI x25, lI x26, lI x27, lI x28, g29], ([sI 4, sI x28], (mSH r tl, (G4, nk)))))) ?_ rfl
      refine sm_if2n (t := (ilt x28 4)) (pt := 117) rfl rfl rfl (fun _ => ?_) (fun _ => ?_)
      · refine sm_go 1 (s' := (31, ([lR 56, lI p1, lI x2, lI x3, lI x25, lI x26, lI x27, lI x28, g29], ([sI x27], (mSH r tl, (G4, nk)))))) ?_ rfl
        refine sm_if1 (t := (ieq x27 0)) (pt := 117) rfl rfl rfl (fun _ => ?_) (fun _ => ?_)
        · exact hk24 (lI x26, lI x28, g29) x25 x27
        · refine sm_go 2 (s' := (37, ([lR 56, lI p1, lI x2, lI x3, lI x25, lI x26, lI x27, lI x28, g29], ([sI x28, sI x3], (mSH r tl, (G4, nk)))))) ?_ rfl
          refine sm_callG (rest := []) (T_X11_workerIn scr d r tl nk G4 x3 x28) rfl (Or.inr (Or.inl rfl)) rfl rfl rfl rfl (fun _ => rfl) (fun v31 => (40, ([lR 56, lI p1, lI x2, lI x3, lI x25, lI x26, lI x27, lI x28, g29], ([sI v31], (mSH r tl, (G4, nk)))))) (fun _ => rfl) fun v31 => ?_
          refine sm_letK3 (S := fun (g35 : Unit) (x32 : Int) (x33 : Int) (x34 : Int) => (111, ([lR 56, lI p1, lI x2, lI x3, lI x32, lI x33, lI x34, lI x28, lI v31], ([], (mSH r tl, (G4, nk)))))) ?_ ?_
          · intro g35 x32 x33 x34
            exact sm_go 2 (hagain30 (lI v31) x32 x33 x34 (x28 + 1)) rfl
          · intro k36 hk36
            refine sm_go 3 (s' := (46, ([lR 56, lI p1, lI x2, lI x3, lI x25, lI x26, lI x27, lI x28, lI v31], ([sI 6, sI v31], (mSH r tl, (G4, nk)))))) ?_ rfl
            refine sm_if2n (t := (ieq v31 6)) (pt := 52) rfl rfl rfl (fun _ => ?_) (fun _ => ?_)
            · exact sm_go 1 (hk36 () x25 x26 x27) rfl
            · refine sm_letK1 (S := fun (g38 : Unit) (x37 : Int) => (97, ([lR 56, lI p1, lI x2, lI x3, lI x25, lI x26, lI x27, lI x28, lI v31], ([sI x37], (mSH r tl, (G4, nk)))))) ?_ ?_
              · intro g38 x37
                exact sm_go 8 (hk36 () (x25 + 1) (iOr x26 (iShl 1 v31)) x37) rfl
              · intro k39 hk39
                refine sm_letK0 (S := fun (g40 : Unit) => (96, ([lR 56, lI p1, lI x2, lI x3, lI x25, lI x26, lI x27, lI x28, lI v31], ([], (mSH r tl, (G4, nk)))))) ?_ ?_
                · intro g40
                  exact sm_go 1 (hk39 () 0) rfl
                · intro k41 hk41
                  refine sm_go 6 (s' := (59, ([lR 56, lI p1, lI x2, lI x3, lI x25, lI x26, lI x27, lI x28, lI v31], ([sI 1, sI (iAnd (iShr p1 x28) 1)], (mSH r tl, (G4, nk)))))) ?_ rfl
                  refine sm_if2n (t := (ieq (iAnd (iShr p1 x28) 1) 1)) (pt := 96) rfl rfl rfl (fun _ => ?_) (fun _ => ?_)
                  · refine sm_go 5 (s' := (72, ([lR 56, lI p1, lI x2, lI x3, lI x25, lI x26, lI x27, lI x28, lI v31], ([sI (276 + v31), sR 57], (mSH r tl, (G4, nk)))))) ?_ rfl
                    refine sm_ald rfl rfl fun v42 => ?_
                    refine sm_go 5 (s' := (79, ([lR 56, lI p1, lI x2, lI x3, lI x25, lI x26, lI x27, lI x28, lI v31], ([sI 1, sI (iAnd (iShr v42 x28) 1)], (mSH r tl, (G4, nk)))))) ?_ rfl
                    refine sm_if2n (t := (ieq (iAnd (iShr v42 x28) 1) 1)) (pt := 96) rfl rfl rfl (fun _ => ?_) (fun _ => ?_)
                    · refine sm_go 5 (s' := (89, ([lR 56, lI p1, lI x2, lI x3, lI x25, lI x26, lI x27, lI x28, lI v31], ([sI (iAnd (iShr x26 v31) 1)], (mSH r tl, (G4, nk)))))) ?_ rfl
                      refine sm_if1n (t := (ieq (iAnd (iShr x26 v31) 1) 0)) (pt := 96) rfl rfl rfl (fun _ => ?_) (fun _ => ?_)
                      · exact sm_go 2 (hk39 () 1) rfl
                      · exact hk41 ()
                    · exact hk41 ()
                  · exact hk41 ()
      · exact hk24 (lI x26, lI x28, g29) x25 x27
  · refine sm_go 1 (s' := (184, ([lR 56, lI p1, lI x2, lI x3, g5.1, g5.2.1, g5.2.2.1, g5.2.2.2.1, g5.2.2.2.2], ([sI x2], (mSH r tl, (G4, nk)))))) ?_ rfl
    exact sm_retI rfl rfl rfl
def P_X11_match (p1 : Int) (G : mG) : Option (Int × mG) :=
(P_X11_in p1 0 15).bind fun v2 =>
(P_X11_fits (b2i v2) 1 1 G).bind fun z3 =>
bif z3.1 then
(P_X11_matches p1 z3.2).bind fun z4 =>
some (z4.1, z4.2)
else
some (0, z3.2)
set_option maxRecDepth 100000 in
theorem T_X11_match (scr : mScr) (d : Nat) (r : List (Option Nat)) (tl : List mSh) (nk : Nat × Nat) (G : mG)  (p1 : Int) : SimC scr (d + 3) 227 [sR 56, sI p1] (mSH r tl, (G, nk)) (e1I r tl nk) (P_X11_match p1 G) := by
  refine sm_callX (cs := mc_X11_match) (maxL := 2) (rk := 0) (o := 11) (hs := []) (d := d + 2) [lR 56, lI p1] rfl rfl rfl rfl ?_
  unfold P_X11_match
  refine sm_go 4 (s' := (5, ([lR 56, lI p1], ([sI 15, sI 0, sI p1, sR 56], (mSH r tl, (G, nk)))))) ?_ rfl
  refine sm_callG (rest := [sR 56]) (T_X11_in scr (d + 1) r tl nk G p1 0 15) rfl (Or.inr (Or.inl rfl)) rfl rfl rfl rfl (fun _ => rfl) (fun v2 => (8, ([lR 56, lI p1], ([sI (b2i v2), sR 56], (mSH r tl, (G, nk)))))) (fun _ => rfl) fun v2 => ?_
  refine sm_go 2 (s' := (10, ([lR 56, lI p1], ([sI 1, sI 1, sI (b2i v2), sR 56], (mSH r tl, (G, nk)))))) ?_ rfl
  refine sm_callG (rest := []) (T_X11_fits scr (d + 1) r tl nk G (b2i v2) 1 1) rfl (Or.inl rfl) rfl rfl rfl rfl (fun _ => rfl) (fun z3 => (13, ([lR 56, lI p1], ([sI (b2i z3.1)], (mSH r tl, (z3.2, nk)))))) (fun _ => rfl) fun z3 => ?_
  refine sm_if1n (t := z3.1) (pt := 24) (mCmpB_eq z3.1) rfl rfl (fun _ => ?_) (fun _ => ?_)
  · refine sm_go 2 (s' := (18, ([lR 56, lI p1], ([sI p1, sR 56], (mSH r tl, (z3.2, nk)))))) ?_ rfl
    refine sm_callG (rest := []) (T_X11_matches scr d r tl nk z3.2 p1) rfl (Or.inl rfl) rfl rfl rfl rfl (fun _ => rfl) (fun z4 => (21, ([lR 56, lI p1], ([sI z4.1], (mSH r tl, (z4.2, nk)))))) (fun _ => rfl) fun z4 => ?_
    refine sm_go 1 (s' := (25, ([lR 56, lI p1], ([sI z4.1], (mSH r tl, (z4.2, nk)))))) ?_ rfl
    exact sm_retI rfl rfl rfl
  · refine sm_go 1 (s' := (25, ([lR 56, lI p1], ([sI 0], (mSH r tl, (z3.2, nk)))))) ?_ rfl
    exact sm_retI rfl rfl rfl
