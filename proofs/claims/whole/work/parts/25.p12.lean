/-! ===== programs as functions, 25 12: printed by wip/whole/gen/gen_p_out.py ===== -/
noncomputable def P_X10_workerOf (p1 : Int) (p2 : Int) (W : mW) : Option ((Int ⊕ Nat) × mW) :=
thrB (P_X10_needMachine p2 W) fun v3 W4 =>
thrB (P_X10_needMachines p1 W4) fun v5 W6 =>
(P_X1_assign p1 W6.2.2.1).bind fun G7 =>
(ald G7 53 4 p2).bind fun v8 =>
some (.inl v8, (W6.1, (W6.2.1, (G7, W6.2.2.2))))
set_option maxRecDepth 100000 in
theorem T_X10_workerOf (scr : mScr) (d : Nat) (W : mW)  (p1 : Int) (p2 : Int) : SimC scr (d + 10) 113 [sR 0, sI p1, sI p2] (mkM W) (e2I) (P_X10_workerOf p1 p2 W) := by
  refine sm_callX (cs := mc_X10_workerOf) (maxL := 3) (rk := 0) (o := 10) (hs := []) (d := d + 9) [lR 0, lI p1, lI p2] rfl rfl rfl rfl ?_
  unfold P_X10_workerOf
  refine sm_go 1 (s' := (1, ([lR 0, lI p1, lI p2], ([sI p2], (mSH W.1 W.2.1, (W.2.2.1, W.2.2.2)))))) ?_ rfl
  refine sm_thr (rest := []) (T_X10_needMachine scr (d + 8) W p2) rfl (Or.inr (Or.inl rfl)) rfl rfl rfl rfl (fun _ _ => rfl) (fun _ _ => rfl) (fun v3 W4 => (4, ([lR 0, lI p1, lI p2], ([], (mSH W4.1 W4.2.1, (W4.2.2.1, W4.2.2.2)))))) (fun _ _ => rfl) fun v3 W4 => ?_
  refine sm_go 1 (s' := (5, ([lR 0, lI p1, lI p2], ([sI p1], (mSH W4.1 W4.2.1, (W4.2.2.1, W4.2.2.2)))))) ?_ rfl
  refine sm_thr (rest := []) (T_X10_needMachines scr (d + 7) W4 p1) rfl (Or.inr (Or.inl rfl)) rfl rfl rfl rfl (fun _ _ => rfl) (fun _ _ => rfl) (fun v5 W6 => (8, ([lR 0, lI p1, lI p2], ([], (mSH W6.1 W6.2.1, (W6.2.2.1, W6.2.2.2)))))) (fun _ _ => rfl) fun v5 W6 => ?_
  refine sm_go 3 (s' := (13, ([lR 0, lI p1, lI p2], ([sI p1, sR 51], (mSH W6.1 W6.2.1, (W6.2.2.1, W6.2.2.2)))))) ?_ rfl
  refine sm_callG (rest := []) (T_X1_assign scr d W6.1 W6.2.1 W6.2.2.2 W6.2.2.1 p1) rfl (Or.inl rfl) rfl rfl rfl rfl (fun _ => rfl) (fun G7 => (16, ([lR 0, lI p1, lI p2], ([], (mSH W6.1 W6.2.1, (G7, W6.2.2.2)))))) (fun _ => rfl) fun G7 => ?_
  refine sm_go 4 (s' := (24, ([lR 0, lI p1, lI p2], ([sI p2, sR 53], (mSH W6.1 W6.2.1, (G7, W6.2.2.2)))))) ?_ rfl
  refine sm_ald rfl rfl fun v8 => ?_
  exact sm_retI rfl rfl rfl
noncomputable def P_L_workerOf (p1 : Int) (p2 : Int) (W : mW) : Option ((Int ⊕ Nat) × mW) :=
ctcB (P_X10_workerOf p1 p2 W) (fun v3 W4 =>
(ast W4.2.2.1 74 1 0 (w32 v3)).bind fun G7 =>
some (.inl 0, (W4.1, (W4.2.1, (G7, W4.2.2.2))))) (fun W5 =>
some (.inl 1, W5)) (fun W6 =>
some (.inl 2, W6)) (fun _ => none)
set_option maxRecDepth 100000 in
theorem T_L_workerOf (scr : mScr) (d : Nat) (W : mW)  (p1 : Int) (p2 : Int) : SimC scr (d + 11) 272 [sR 0, sI p1, sI p2, sR 74] (mkM W) (e2I) (P_L_workerOf p1 p2 W) := by
  refine sm_callX (cs := mc_L_workerOf) (maxL := 5) (rk := 0) (o := 112) (hs := [(0, (10, (13, 0))), (0, (10, (17, 1)))]) (d := d + 10) [lR 0, lI p1, lI p2, lR 74, none] rfl rfl rfl rfl ?_
  unfold P_L_workerOf
  refine sm_go 5 (s' := (5, ([lR 0, lI p1, lI p2, lR 74, none], ([sI p2, sI p1, sR 0, sI 0, sR 74], (mSH W.1 W.2.1, (W.2.2.1, W.2.2.2)))))) ?_ rfl
  refine sm_ctc (rest := [sI 0, sR 74]) (T_X10_workerOf scr d W p1 p2) rfl (Or.inl rfl) rfl rfl rfl rfl (fun _ _ => rfl) (fun v3 W4 => (8, ([lR 0, lI p1, lI p2, lR 74, none], ([sI v3, sI 0, sR 74], (mSH W4.1 W4.2.1, (W4.2.2.1, W4.2.2.2)))))) (fun _ _ => rfl) (fun v3 W4 => ?_) (Or.inl ⟨13, rfl, fun W5 => ?_⟩) (Or.inl ⟨17, rfl, fun W6 => ?_⟩) (Or.inr rfl)
  · refine sm_go 1 (s' := (9, ([lR 0, lI p1, lI p2, lR 74, none], ([sL (w32 v3), sI 0, sR 74], (mSH W4.1 W4.2.1, (W4.2.2.1, W4.2.2.2)))))) ?_ rfl
    refine sm_lst rfl rfl fun G7 => ?_
    refine sm_go 1 (s' := (21, ([lR 0, lI p1, lI p2, lR 74, none], ([], (mSH W4.1 W4.2.1, (G7, W4.2.2.2)))))) ?_ rfl
    refine sm_go 1 (s' := (22, ([lR 0, lI p1, lI p2, lR 74, none], ([sI 0], (mSH W4.1 W4.2.1, (G7, W4.2.2.2)))))) ?_ rfl
    exact sm_retI rfl rfl rfl
  · refine sm_go 2 (s' := (16, ([lR 0, lI p1, lI p2, lR 74, lO], ([sI 1], (mSH W5.1 W5.2.1, (W5.2.2.1, W5.2.2.2)))))) ?_ rfl
    exact sm_retI rfl rfl rfl
  · refine sm_go 2 (s' := (20, ([lR 0, lI p1, lI p2, lR 74, lO], ([sI 2], (mSH W6.1 W6.2.1, (W6.2.2.1, W6.2.2.2)))))) ?_ rfl
    exact sm_retI rfl rfl rfl
def P_X11_workerOf (p1 : Int) (p2 : Int) (G : mG) : Option (Int × mG) :=
(P_X11_in p2 0 3).bind fun v3 =>
(P_X11_in p1 0 15).bind fun v4 =>
(P_X11_fits (b2i v3) (b2i v4) 1 G).bind fun z5 =>
bif z5.1 then
(P_X11_matches p1 z5.2).bind fun z6 =>
(ald z6.2 72 4 p2).bind fun v7 =>
some (v7, z6.2)
else
some (0, z5.2)
set_option maxRecDepth 100000 in
theorem T_X11_workerOf (scr : mScr) (d : Nat) (r : List (Option Nat)) (tl : List mSh) (nk : Nat × Nat) (G : mG)  (p1 : Int) (p2 : Int) : SimC scr (d + 3) 228 [sR 56, sI p1, sI p2] (mSH r tl, (G, nk)) (e1I r tl nk) (P_X11_workerOf p1 p2 G) := by
  refine sm_callX (cs := mc_X11_workerOf) (maxL := 4) (rk := 0) (o := 11) (hs := []) (d := d + 2) [lR 56, lI p1, lI p2, none] rfl rfl rfl rfl ?_
  unfold P_X11_workerOf
  refine sm_go 4 (s' := (4, ([lR 56, lI p1, lI p2, none], ([sI 3, sI 0, sI p2, sR 56], (mSH r tl, (G, nk)))))) ?_ rfl
  refine sm_callG (rest := [sR 56]) (T_X11_in scr (d + 1) r tl nk G p2 0 3) rfl (Or.inr (Or.inl rfl)) rfl rfl rfl rfl (fun _ => rfl) (fun v3 => (7, ([lR 56, lI p1, lI p2, none], ([sI (b2i v3), sR 56], (mSH r tl, (G, nk)))))) (fun _ => rfl) fun v3 => ?_
  refine sm_go 3 (s' := (11, ([lR 56, lI p1, lI p2, none], ([sI 15, sI 0, sI p1, sI (b2i v3), sR 56], (mSH r tl, (G, nk)))))) ?_ rfl
  refine sm_callG (rest := [sI (b2i v3), sR 56]) (T_X11_in scr (d + 1) r tl nk G p1 0 15) rfl (Or.inr (Or.inl rfl)) rfl rfl rfl rfl (fun _ => rfl) (fun v4 => (14, ([lR 56, lI p1, lI p2, none], ([sI (b2i v4), sI (b2i v3), sR 56], (mSH r tl, (G, nk)))))) (fun _ => rfl) fun v4 => ?_
  refine sm_go 1 (s' := (15, ([lR 56, lI p1, lI p2, none], ([sI 1, sI (b2i v4), sI (b2i v3), sR 56], (mSH r tl, (G, nk)))))) ?_ rfl
  refine sm_callG (rest := []) (T_X11_fits scr (d + 1) r tl nk G (b2i v3) (b2i v4) 1) rfl (Or.inl rfl) rfl rfl rfl rfl (fun _ => rfl) (fun z5 => (18, ([lR 56, lI p1, lI p2, none], ([sI (b2i z5.1)], (mSH r tl, (z5.2, nk)))))) (fun _ => rfl) fun z5 => ?_
  refine sm_if1 (t := z5.1) (pt := 23) (mCmpB_ne z5.1) rfl rfl (fun _ => ?_) (fun _ => ?_)
  · refine sm_go 2 (s' := (25, ([lR 56, lI p1, lI p2, none], ([sI p1, sR 56], (mSH r tl, (z5.2, nk)))))) ?_ rfl
    refine sm_callG (rest := []) (T_X11_matches scr d r tl nk z5.2 p1) rfl (Or.inl rfl) rfl rfl rfl rfl (fun _ => rfl) (fun z6 => (28, ([lR 56, lI p1, lI p2, none], ([sI z6.1], (mSH r tl, (z6.2, nk)))))) (fun _ => rfl) fun z6 => ?_
    refine sm_go 4 (s' := (34, ([lR 56, lI p1, lI p2, lI z6.1], ([sI p2, sR 72], (mSH r tl, (z6.2, nk)))))) ?_ rfl
    refine sm_ald rfl rfl fun v7 => ?_
    exact sm_retI rfl rfl rfl
  · refine sm_go 1 (s' := (22, ([lR 56, lI p1, lI p2, none], ([sI 0], (mSH r tl, (z5.2, nk)))))) ?_ rfl
    exact sm_retI rfl rfl rfl
def P_X4_spread (p1 : Int) (p2 : Int) (p3 : Int) (G : mG) : Option (Int × mG) :=
(P_J7_fill_d0a16 55 251 0 G).bind fun G4 =>
(ast G4 55 251 0 1).bind fun G5 =>
letK (fun (x6 : Int) (G7 : mG) =>
some (x6, G7)) fun k9 =>
loop3 LF (fun again14 (x10 : Int) (x11 : Int) (G12 : mG) =>
(ald G12 6 6 p1).bind fun v15 =>
bif (ilt x11 v15) then
(ald G12 8 30 ((p1 * 5) + x11)).bind fun v16 =>
letK (fun (G17 : mG) =>
again14 (x10 * 1000) (x11 + 1) G17) fun k19 =>
loop2 LF (fun again23 (x20 : Int) (G21 : mG) =>
bif (ilt x20 0) then
k19 G21
else
letK (fun (x24 : Int) =>
(ald G21 55 251 x20).bind fun v26 =>
(ast G21 55 251 x20 ((v26 * (w32 (1000 - p2))) + x24)).bind fun G27 =>
again23 (x20 + (-1)) G27) fun k28 =>
bif (ilt x20 v16) then
k28 0
else
(ald G21 55 251 (x20 - v16)).bind fun v29 =>
k28 (v29 * (w32 p2))) p3 G12
else
k9 x10 G12) 1 0 G5
set_option maxRecDepth 100000 in
theorem T_X4_spread (scr : mScr) (d : Nat) (r : List (Option Nat)) (tl : List mSh) (nk : Nat × Nat) (G : mG)  (p1 : Int) (p2 : Int) (p3 : Int) : SimC scr (d + 2) 15 [sR 54, sI p1, sI p2, sI p3] (mSH r tl, (G, nk)) (e1L r tl nk) (P_X4_spread p1 p2 p3 G) := by
  refine sm_callX (cs := mc_X4_spread) (maxL := 11) (rk := 0) (o := 4) (hs := []) (d := d + 1) [lR 54, lI p1, lI p2, lI p3, none, none, none, none, none, none, none] rfl rfl rfl rfl ?_
  unfold P_X4_spread
  refine sm_go 3 (s' := (5, ([lR 54, lI p1, lI p2, lI p3, none, none, none, none, none, none, none], ([sL 0, sR 55], (mSH r tl, (G, nk)))))) ?_ rfl
  refine sm_callG (rest := []) (T_J7_fill_d0a16 scr d r tl nk G 55 251 rfl 0) rfl (Or.inr (Or.inl rfl)) rfl rfl rfl rfl (fun _ => rfl) (fun G4 => (8, ([lR 54, lI p1, lI p2, lI p3, none, none, none, none, none, none, none], ([], (mSH r tl, (G4, nk)))))) (fun _ => rfl) fun G4 => ?_
  refine sm_go 4 (s' := (14, ([lR 54, lI p1, lI p2, lI p3, none, none, none, none, none, none, none], ([sL 1, sI 0, sR 55], (mSH r tl, (G4, nk)))))) ?_ rfl
  refine sm_lst rfl rfl fun G5 => ?_
  refine sm_go 4 (s' := (21, ([lR 54, lI p1, lI p2, lI p3, lL 1, none, lI 0, none, none, none, none], ([], (mSH r tl, (G5, nk)))))) ?_ rfl
  refine sm_letK2 (S := fun (g8 : Option mV × Option mV × Option mV × Option mV × Option mV × Option mV) (x6 : Int) (G7 : mG) => (129, ([lR 54, lI p1, lI p2, lI p3, lL x6, none, g8.2.1, g8.2.2.1, g8.2.2.2.1, g8.2.2.2.2.1, g8.2.2.2.2.2], ([], (mSH r tl, (G7, nk)))))) ?_ ?_
  · intro g8 x6 G7
    refine sm_go 1 (s' := (131, ([lR 54, lI p1, lI p2, lI p3, lL x6, none, g8.2.1, g8.2.2.1, g8.2.2.2.1, g8.2.2.2.2.1, g8.2.2.2.2.2], ([sL x6], (mSH r tl, (G7, nk)))))) ?_ rfl
    exact sm_retL rfl rfl
  · intro k9 hk9
    refine sm_loop3 (S := fun (g13 : Option mV × Option mV × Option mV × Option mV × Option mV) (x10 : Int) (x11 : Int) (G12 : mG) => (21, ([lR 54, lI p1, lI p2, lI p3, lL x10, none, lI x11, g13.2.1, g13.2.2.1, g13.2.2.2.1, g13.2.2.2.2], ([], (mSH r tl, (G12, nk)))))) ?_ LF (none, none, none, none, none) 1 0 G5
    intro again14 hagain14 g13 x10 x11 G12
    refine sm_go 5 (s' := (31, ([lR 54, lI p1, lI p2, lI p3, lL x10, none, lI x11, g13.2.1, g13.2.2.1, g13.2.2.2.1, g13.2.2.2.2], ([sI p1, sR 6, sI x11], (mSH r tl, (G12, nk)))))) ?_ rfl
    refine sm_ald rfl rfl fun v15 => ?_
    refine sm_if2n (t := (ilt x11 v15)) (pt := 129) rfl rfl rfl (fun _ => ?_) (fun _ => ?_)
    · refine sm_go 8 (s' := (48, ([lR 54, lI p1, lI p2, lI p3, lL x10, none, lI x11, g13.2.1, g13.2.2.1, g13.2.2.2.1, g13.2.2.2.2], ([sI ((p1 * 5) + x11), sR 8], (mSH r tl, (G12, nk)))))) ?_ rfl
      refine sm_ald rfl rfl fun v16 => ?_
      refine sm_go 3 (s' := (54, ([lR 54, lI p1, lI p2, lI p3, lL x10, none, lI x11, lI v16, lI p3, g13.2.2.2.1, g13.2.2.2.2], ([], (mSH r tl, (G12, nk)))))) ?_ rfl
      refine sm_letK1 (S := fun (g18 : Option mV × Option mV × Option mV) (G17 : mG) => (115, ([lR 54, lI p1, lI p2, lI p3, lL x10, none, lI x11, lI v16, g18.1, g18.2.1, g18.2.2], ([], (mSH r tl, (G17, nk)))))) ?_ ?_
      · intro g18 G17
        exact sm_go 6 (hagain14 (none, lI v16, g18.1, g18.2.1, g18.2.2) (x10 * 1000) (x11 + 1) G17) rfl
      · intro k19 hk19
        refine sm_loop2 (S := fun (g22 : Option mV × Option mV) (x20 : Int) (G21 : mG) => (54, ([lR 54, lI p1, lI p2, lI p3, lL x10, none, lI x11, lI v16, lI x20, g22.1, g22.2], ([], (mSH r tl, (G21, nk)))))) ?_ LF (g13.2.2.2.1, g13.2.2.2.2) p3 G12
        intro again23 hagain23 g22 x20 G21
        refine sm_go 1 (s' := (56, ([lR 54, lI p1, lI p2, lI p3, lL x10, none, lI x11, lI v16, lI x20, g22.1, g22.2], ([sI x20], (mSH r tl, (G21, nk)))))) ?_ rfl
        refine sm_if1 (t := (ilt x20 0)) (pt := 115) rfl rfl rfl (fun _ => ?_) (fun _ => ?_)
        · exact hk19 (lI x20, g22.1, g22.2) G21
        · refine sm_letK1 (S := fun (g25 : Unit) (x24 : Int) => (83, ([lR 54, lI p1, lI p2, lI p3, lL x10, none, lI x11, lI v16, lI x20, g22.1, g22.2], ([sL x24], (mSH r tl, (G21, nk)))))) ?_ ?_
          · intro g25 x24
            refine sm_go 7 (s' := (97, ([lR 54, lI p1, lI p2, lI p3, lL x10, none, lI x11, lI v16, lI x20, lL x24, none], ([sI x20, sR 55, sI x20, sR 55], (mSH r tl, (G21, nk)))))) ?_ rfl
            refine sm_lld rfl rfl fun v26 => ?_
            refine sm_go 7 (s' := (108, ([lR 54, lI p1, lI p2, lI p3, lL x10, none, lI x11, lI v16, lI x20, lL x24, none], ([sL ((v26 * (w32 (1000 - p2))) + x24), sI x20, sR 55], (mSH r tl, (G21, nk)))))) ?_ rfl
            refine sm_lst rfl rfl fun G27 => ?_
            exact sm_go 2 (hagain23 (lL x24, none) (x20 + (-1)) G27) rfl
          · intro k28 hk28
            refine sm_go 2 (s' := (63, ([lR 54, lI p1, lI p2, lI p3, lL x10, none, lI x11, lI v16, lI x20, g22.1, g22.2], ([sI v16, sI x20], (mSH r tl, (G21, nk)))))) ?_ rfl
            refine sm_if2 (t := (ilt x20 v16)) (pt := 82) rfl rfl rfl (fun _ => ?_) (fun _ => ?_)
            · exact sm_go 1 (hk28 () 0) rfl
            · refine sm_go 5 (s' := (75, ([lR 54, lI p1, lI p2, lI p3, lL x10, none, lI x11, lI v16, lI x20, g22.1, g22.2], ([sI (x20 - v16), sR 55], (mSH r tl, (G21, nk)))))) ?_ rfl
              refine sm_lld rfl rfl fun v29 => ?_
              exact sm_go 4 (hk28 () (v29 * (w32 p2))) rfl
    · exact hk9 (none, lI x11, g13.2.1, g13.2.2.1, g13.2.2.2.1, g13.2.2.2.2) x10 G12
def P_X4_hourOf (p1 : Int) (p2 : Int) (p3 : Int) (G : mG) : Option (Int × mG) :=
(P_X7_hoursFrom p1 0 G).bind fun v4 =>
(P_X4_spread p1 p2 (iMin v4 (251 - 1)) G).bind fun z5 =>
letK (fun (x6 : Int) =>
(ald z5.2 2 6 p1).bind fun v8 =>
some (((v8 + (iMin v4 (251 - 1))) + (iMax x6 0)), z5.2)) fun k9 =>
loop2 LF (fun again13 (x10 : Int) (x11 : Int) =>
bif (ilt x11 (iMin v4 (251 - 1))) then
bif (ilt (lcmpI (x10 * 1000) ((w32 p3) * z5.1)) 0) then
(ald z5.2 55 251 (x11 + 1)).bind fun v14 =>
again13 (x10 + v14) (x11 + 1)
else
k9 x11
else
k9 x11) 0 (-1)
set_option maxRecDepth 100000 in
theorem T_X4_hourOf (scr : mScr) (d : Nat) (r : List (Option Nat)) (tl : List mSh) (nk : Nat × Nat) (G : mG)  (p1 : Int) (p2 : Int) (p3 : Int) : SimC scr (d + 3) 14 [sR 54, sI p1, sI p2, sI p3] (mSH r tl, (G, nk)) (e1I r tl nk) (P_X4_hourOf p1 p2 p3 G) := by
  refine sm_callX (cs := mc_X4_hourOf) (maxL := 10) (rk := 0) (o := 4) (hs := []) (d := d + 2) [lR 54, lI p1, lI p2, lI p3, none, none, none, none, none, none] rfl rfl rfl rfl ?_
  unfold P_X4_hourOf
  refine sm_go 4 (s' := (6, ([lR 54, lI p1, lI p2, lI p3, none, none, none, none, none, none], ([sI 0, sI p1, sR 1], (mSH r tl, (G, nk)))))) ?_ rfl
  refine sm_callG (rest := []) (T_X7_hoursFrom scr (d + 1) r tl nk G p1 0) rfl (Or.inl rfl) rfl rfl rfl rfl (fun _ => rfl) (fun v4 => (9, ([lR 54, lI p1, lI p2, lI p3, none, none, none, none, none, none], ([sI v4], (mSH r tl, (G, nk)))))) (fun _ => rfl) fun v4 => ?_
  refine sm_go 11 (s' := (26, ([lR 54, lI p1, lI p2, lI p3, lI (iMin v4 (251 - 1)), none, none, none, none, none], ([sI (iMin v4 (251 - 1)), sI p2, sI p1, sR 54], (mSH r tl, (G, nk)))))) ?_ rfl
  refine sm_callG (rest := []) (T_X4_spread scr d r tl nk G p1 p2 (iMin v4 (251 - 1))) rfl (Or.inl rfl) rfl rfl rfl rfl (fun _ => rfl) (fun z5 => (29, ([lR 54, lI p1, lI p2, lI p3, lI (iMin v4 (251 - 1)), none, none, none, none, none], ([sL z5.1], (mSH r tl, (z5.2, nk)))))) (fun _ => rfl) fun z5 => ?_
  refine sm_go 5 (s' := (37, ([lR 54, lI p1, lI p2, lI p3, lI (iMin v4 (251 - 1)), lL z5.1, none, lL 0, none, lI (-1)], ([], (mSH r tl, (z5.2, nk)))))) ?_ rfl
  refine sm_letK1 (S := fun (g7 : Option mV × Option mV) (x6 : Int) => (77, ([lR 54, lI p1, lI p2, lI p3, lI (iMin v4 (251 - 1)), lL z5.1, none, g7.1, g7.2, lI x6], ([], (mSH r tl, (z5.2, nk)))))) ?_ ?_
  · intro g7 x6
    refine sm_go 4 (s' := (85, ([lR 54, lI p1, lI p2, lI p3, lI (iMin v4 (251 - 1)), lL z5.1, none, g7.1, g7.2, lI x6], ([sI p1, sR 2], (mSH r tl, (z5.2, nk)))))) ?_ rfl
    refine sm_ald rfl rfl fun v8 => ?_
    refine sm_go 6 (s' := (96, ([lR 54, lI p1, lI p2, lI p3, lI (iMin v4 (251 - 1)), lL z5.1, none, g7.1, g7.2, lI x6], ([sI ((v8 + (iMin v4 (251 - 1))) + (iMax x6 0))], (mSH r tl, (z5.2, nk)))))) ?_ rfl
    exact sm_retI rfl rfl rfl
  · intro k9 hk9
    refine sm_loop2 (S := fun (g12 : Option mV) (x10 : Int) (x11 : Int) => (37, ([lR 54, lI p1, lI p2, lI p3, lI (iMin v4 (251 - 1)), lL z5.1, none, lL x10, none, lI x11], ([], (mSH r tl, (z5.2, nk)))))) ?_ LF (none) 0 (-1)
    intro again13 hagain13 g12 x10 x11
    refine sm_go 2 (s' := (41, ([lR 54, lI p1, lI p2, lI p3, lI (iMin v4 (251 - 1)), lL z5.1, none, lL x10, none, lI x11], ([sI (iMin v4 (251 - 1)), sI x11], (mSH r tl, (z5.2, nk)))))) ?_ rfl
    refine sm_if2n (t := (ilt x11 (iMin v4 (251 - 1)))) (pt := 77) rfl rfl rfl (fun _ => ?_) (fun _ => ?_)
    · refine sm_go 8 (s' := (56, ([lR 54, lI p1, lI p2, lI p3, lI (iMin v4 (251 - 1)), lL z5.1, none, lL x10, none, lI x11], ([sI (lcmpI (x10 * 1000) ((w32 p3) * z5.1))], (mSH r tl, (z5.2, nk)))))) ?_ rfl
      refine sm_if1n (t := (ilt (lcmpI (x10 * 1000) ((w32 p3) * z5.1)) 0)) (pt := 77) rfl rfl rfl (fun _ => ?_) (fun _ => ?_)
      · refine sm_go 5 (s' := (70, ([lR 54, lI p1, lI p2, lI p3, lI (iMin v4 (251 - 1)), lL z5.1, none, lL x10, none, lI (x11 + 1)], ([sI (x11 + 1), sR 55, sL x10], (mSH r tl, (z5.2, nk)))))) ?_ rfl
        refine sm_lld rfl rfl fun v14 => ?_
        exact sm_go 3 (hagain13 (none) (x10 + v14) (x11 + 1)) rfl
      · exact hk9 (lL x10, none) x11
    · exact hk9 (lL x10, none) x11
noncomputable def P_X10_promise (p1 : Int) (p2 : Int) (p3 : Int) (W : mW) : Option ((Int ⊕ Nat) × mW) :=
thrB (P_X10_needJob p1 W) fun v4 W5 =>
thrB (P_X10_needRange p2 0 1000 W5) fun v6 W7 =>
thrB (P_X10_needRange p3 1 1000 W7) fun v8 W9 =>
(P_X4_hourOf p1 p2 p3 W9.2.2.1).bind fun z10 =>
some (.inl z10.1, (W9.1, (W9.2.1, (z10.2, W9.2.2.2))))
set_option maxRecDepth 100000 in
theorem T_X10_promise (scr : mScr) (d : Nat) (W : mW)  (p1 : Int) (p2 : Int) (p3 : Int) : SimC scr (d + 4) 114 [sR 0, sI p1, sI p2, sI p3] (mkM W) (e2I) (P_X10_promise p1 p2 p3 W) := by
  refine sm_callX (cs := mc_X10_promise) (maxL := 4) (rk := 0) (o := 10) (hs := []) (d := d + 3) [lR 0, lI p1, lI p2, lI p3] rfl rfl rfl rfl ?_
  unfold P_X10_promise
  refine sm_go 2 (s' := (2, ([lR 0, lI p1, lI p2, lI p3], ([sI p1, sR 0], (mSH W.1 W.2.1, (W.2.2.1, W.2.2.2)))))) ?_ rfl
  refine sm_thr (rest := []) (T_X10_needJob scr (d + 2) W p1) rfl (Or.inl rfl) rfl rfl rfl rfl (fun _ _ => rfl) (fun _ _ => rfl) (fun v4 W5 => (5, ([lR 0, lI p1, lI p2, lI p3], ([], (mSH W5.1 W5.2.1, (W5.2.2.1, W5.2.2.2)))))) (fun _ _ => rfl) fun v4 W5 => ?_
  refine sm_go 3 (s' := (10, ([lR 0, lI p1, lI p2, lI p3], ([sI 1000, sI 0, sI p2], (mSH W5.1 W5.2.1, (W5.2.2.1, W5.2.2.2)))))) ?_ rfl
  refine sm_thr (rest := []) (T_X10_needRange scr (d + 2) W5 p2 0 1000) rfl (Or.inr (Or.inl rfl)) rfl rfl rfl rfl (fun _ _ => rfl) (fun _ _ => rfl) (fun v6 W7 => (13, ([lR 0, lI p1, lI p2, lI p3], ([], (mSH W7.1 W7.2.1, (W7.2.2.1, W7.2.2.2)))))) (fun _ _ => rfl) fun v6 W7 => ?_
  refine sm_go 3 (s' := (18, ([lR 0, lI p1, lI p2, lI p3], ([sI 1000, sI 1, sI p3], (mSH W7.1 W7.2.1, (W7.2.2.1, W7.2.2.2)))))) ?_ rfl
  refine sm_thr (rest := []) (T_X10_needRange scr (d + 2) W7 p3 1 1000) rfl (Or.inr (Or.inl rfl)) rfl rfl rfl rfl (fun _ _ => rfl) (fun _ _ => rfl) (fun v8 W9 => (21, ([lR 0, lI p1, lI p2, lI p3], ([], (mSH W9.1 W9.2.1, (W9.2.2.1, W9.2.2.2)))))) (fun _ _ => rfl) fun v8 W9 => ?_
  refine sm_go 5 (s' := (28, ([lR 0, lI p1, lI p2, lI p3], ([sI p3, sI p2, sI p1, sR 54], (mSH W9.1 W9.2.1, (W9.2.2.1, W9.2.2.2)))))) ?_ rfl
  refine sm_callG (rest := []) (T_X4_hourOf scr d W9.1 W9.2.1 W9.2.2.2 W9.2.2.1 p1 p2 p3) rfl (Or.inl rfl) rfl rfl rfl rfl (fun _ => rfl) (fun z10 => (31, ([lR 0, lI p1, lI p2, lI p3], ([sI z10.1], (mSH W9.1 W9.2.1, (z10.2, W9.2.2.2)))))) (fun _ => rfl) fun z10 => ?_
  exact sm_retI rfl rfl rfl
noncomputable def P_L_promise (p1 : Int) (p2 : Int) (p3 : Int) (W : mW) : Option ((Int ⊕ Nat) × mW) :=
ctcB (P_X10_promise p1 p2 p3 W) (fun v4 W5 =>
(ast W5.2.2.1 74 1 0 (w32 v4)).bind fun G8 =>
some (.inl 0, (W5.1, (W5.2.1, (G8, W5.2.2.2))))) (fun W6 =>
some (.inl 1, W6)) (fun W7 =>
some (.inl 2, W7)) (fun _ => none)
set_option maxRecDepth 100000 in
theorem T_L_promise (scr : mScr) (d : Nat) (W : mW)  (p1 : Int) (p2 : Int) (p3 : Int) : SimC scr (d + 5) 273 [sR 0, sI p1, sI p2, sI p3, sR 74] (mkM W) (e2I) (P_L_promise p1 p2 p3 W) := by
  refine sm_callX (cs := mc_L_promise) (maxL := 6) (rk := 0) (o := 112) (hs := [(0, (12, (15, 0))), (0, (12, (19, 1)))]) (d := d + 4) [lR 0, lI p1, lI p2, lI p3, lR 74, none] rfl rfl rfl rfl ?_
  unfold P_L_promise
  refine sm_go 6 (s' := (7, ([lR 0, lI p1, lI p2, lI p3, lR 74, none], ([sI p3, sI p2, sI p1, sR 0, sI 0, sR 74], (mSH W.1 W.2.1, (W.2.2.1, W.2.2.2)))))) ?_ rfl
  refine sm_ctc (rest := [sI 0, sR 74]) (T_X10_promise scr d W p1 p2 p3) rfl (Or.inl rfl) rfl rfl rfl rfl (fun _ _ => rfl) (fun v4 W5 => (10, ([lR 0, lI p1, lI p2, lI p3, lR 74, none], ([sI v4, sI 0, sR 74], (mSH W5.1 W5.2.1, (W5.2.2.1, W5.2.2.2)))))) (fun _ _ => rfl) (fun v4 W5 => ?_) (Or.inl ⟨15, rfl, fun W6 => ?_⟩) (Or.inl ⟨19, rfl, fun W7 => ?_⟩) (Or.inr rfl)
  · refine sm_go 1 (s' := (11, ([lR 0, lI p1, lI p2, lI p3, lR 74, none], ([sL (w32 v4), sI 0, sR 74], (mSH W5.1 W5.2.1, (W5.2.2.1, W5.2.2.2)))))) ?_ rfl
    refine sm_lst rfl rfl fun G8 => ?_
    refine sm_go 1 (s' := (23, ([lR 0, lI p1, lI p2, lI p3, lR 74, none], ([], (mSH W5.1 W5.2.1, (G8, W5.2.2.2)))))) ?_ rfl
    refine sm_go 1 (s' := (24, ([lR 0, lI p1, lI p2, lI p3, lR 74, none], ([sI 0], (mSH W5.1 W5.2.1, (G8, W5.2.2.2)))))) ?_ rfl
    exact sm_retI rfl rfl rfl
  · refine sm_go 2 (s' := (18, ([lR 0, lI p1, lI p2, lI p3, lR 74, lO], ([sI 1], (mSH W6.1 W6.2.1, (W6.2.2.1, W6.2.2.2)))))) ?_ rfl
    exact sm_retI rfl rfl rfl
  · refine sm_go 2 (s' := (22, ([lR 0, lI p1, lI p2, lI p3, lR 74, lO], ([sI 2], (mSH W7.1 W7.2.1, (W7.2.2.1, W7.2.2.2)))))) ?_ rfl
    exact sm_retI rfl rfl rfl
def P_X11_oddsOf (p1 : Int) (p2 : Int) (p3 : Int) (G : mG) : Option (Int) :=
letK (fun (x4 : Int) =>
some x4) fun k6 =>
loop2 LF (fun again10 (x7 : Int) (x8 : Int) =>
(P_X11_of p1 4 G).bind fun v11 =>
bif (ilt x8 (iShl 1 v11)) then
letK (fun (x12 : Int) (x13 : Int) =>
letK (fun (x15 : Int) =>
again10 (x7 + x15) (x8 + 1)) fun k17 =>
bif (ilt p2 x13) then
k17 0
else
k17 x12) fun k18 =>
loop3 LF (fun again23 (x19 : Int) (x20 : Int) (x21 : Int) =>
(P_X11_of p1 4 G).bind fun v24 =>
bif (ilt x21 v24) then
letK (fun (x25 : Int) =>
letK (fun (x27 : Int) =>
letK (fun (x29 : Int) =>
again23 (x19 * x27) (x20 + x29) (x21 + 1)) fun k31 =>
bif (ieq x25 0) then
(P_X11_hoursOf p1 x21 G).bind fun v32 =>
k31 v32
else
(P_X11_hoursOf p1 x21 G).bind fun v33 =>
k31 (2 * v33)) fun k34 =>
bif (ieq x25 0) then
k34 (w32 (1000 - p3))
else
k34 (w32 p3)) fun k35 =>
bif (ieq (iAnd (iShr x8 x21) 1) 1) then
k35 1
else
k35 0
else
k18 x19 x20) 1 0 0
else
k6 x7) 0 0
set_option maxRecDepth 100000 in
theorem T_X11_oddsOf (scr : mScr) (d : Nat) (r : List (Option Nat)) (tl : List mSh) (nk : Nat × Nat) (G : mG)  (p1 : Int) (p2 : Int) (p3 : Int) : SimC scr (d + 3) 229 [sR 56, sI p1, sI p2, sI p3] (mSH r tl, (G, nk)) (e0L (mSH r tl, (G, nk))) (P_X11_oddsOf p1 p2 p3 G) := by
  refine sm_callX (cs := mc_X11_oddsOf) (maxL := 12) (rk := 0) (o := 11) (hs := []) (d := d + 2) [lR 56, lI p1, lI p2, lI p3, none, none, none, none, none, none, none, none] rfl rfl rfl rfl ?_
  unfold P_X11_oddsOf
  refine sm_go 4 (s' := (6, ([lR 56, lI p1, lI p2, lI p3, lL 0, none, lI 0, none, none, none, none, none], ([], (mSH r tl, (G, nk)))))) ?_ rfl
  refine sm_letK1 (S := fun (g5 : Option mV × Option mV × Option mV × Option mV × Option mV × Option mV × Option mV) (x4 : Int) => (136, ([lR 56, lI p1, lI p2, lI p3, lL x4, none, g5.2.1, g5.2.2.1, g5.2.2.2.1, g5.2.2.2.2.1, g5.2.2.2.2.2.1, g5.2.2.2.2.2.2], ([], (mSH r tl, (G, nk)))))) ?_ ?_
  · intro g5 x4
    refine sm_go 1 (s' := (138, ([lR 56, lI p1, lI p2, lI p3, lL x4, none, g5.2.1, g5.2.2.1, g5.2.2.2.1, g5.2.2.2.2.1, g5.2.2.2.2.2.1, g5.2.2.2.2.2.2], ([sL x4], (mSH r tl, (G, nk)))))) ?_ rfl
    exact sm_retL rfl rfl
  · intro k6 hk6
    refine sm_loop2 (S := fun (g9 : Option mV × Option mV × Option mV × Option mV × Option mV × Option mV) (x7 : Int) (x8 : Int) => (6, ([lR 56, lI p1, lI p2, lI p3, lL x7, none, lI x8, g9.2.1, g9.2.2.1, g9.2.2.2.1, g9.2.2.2.2.1, g9.2.2.2.2.2], ([], (mSH r tl, (G, nk)))))) ?_ LF (none, none, none, none, none, none) 0 0
    intro again10 hagain10 g9 x7 x8
    refine sm_go 5 (s' := (12, ([lR 56, lI p1, lI p2, lI p3, lL x7, none, lI x8, g9.2.1, g9.2.2.1, g9.2.2.2.1, g9.2.2.2.2.1, g9.2.2.2.2.2], ([sI 4, sI p1, sR 56, sI 1, sI x8], (mSH r tl, (G, nk)))))) ?_ rfl
    refine sm_callG (rest := [sI 1, sI x8]) (T_X11_of scr (d + 1) r tl nk G p1 4) rfl (Or.inl rfl) rfl rfl rfl rfl (fun _ => rfl) (fun v11 => (15, ([lR 56, lI p1, lI p2, lI p3, lL x7, none, lI x8, g9.2.1, g9.2.2.1, g9.2.2.2.1, g9.2.2.2.2.1, g9.2.2.2.2.2], ([sI v11, sI 1, sI x8], (mSH r tl, (G, nk)))))) (fun _ => rfl) fun v11 => ?_
    refine sm_go 1 (s' := (16, ([lR 56, lI p1, lI p2, lI p3, lL x7, none, lI x8, g9.2.1, g9.2.2.1, g9.2.2.2.1, g9.2.2.2.2.1, g9.2.2.2.2.2], ([sI (iShl 1 v11), sI x8], (mSH r tl, (G, nk)))))) ?_ rfl
    refine sm_if2n (t := (ilt x8 (iShl 1 v11))) (pt := 136) rfl rfl rfl (fun _ => ?_) (fun _ => ?_)
    · refine sm_go 6 (s' := (28, ([lR 56, lI p1, lI p2, lI p3, lL x7, none, lI x8, lL 1, none, lI 0, lI 0, g9.2.2.2.2.2], ([], (mSH r tl, (G, nk)))))) ?_ rfl
      refine sm_letK2 (S := fun (g14 : Option mV × Option mV × Option mV) (x12 : Int) (x13 : Int) => (113, ([lR 56, lI p1, lI p2, lI p3, lL x7, none, lI x8, lL x12, none, lI x13, g14.2.1, g14.2.2], ([], (mSH r tl, (G, nk)))))) ?_ ?_
      · intro g14 x12 x13
        refine sm_letK1 (S := fun (g16 : Unit) (x15 : Int) => (127, ([lR 56, lI p1, lI p2, lI p3, lL x7, none, lI x8, lL x12, none, lI x13, g14.2.1, g14.2.2], ([sL x15, sL x7], (mSH r tl, (G, nk)))))) ?_ ?_
        · intro g16 x15
          exact sm_go 4 (hagain10 (none, lL x12, none, lI x13, g14.2.1, g14.2.2) (x7 + x15) (x8 + 1)) rfl
        · intro k17 hk17
          refine sm_go 3 (s' := (118, ([lR 56, lI p1, lI p2, lI p3, lL x7, none, lI x8, lL x12, none, lI x13, g14.2.1, g14.2.2], ([sI p2, sI x13, sL x7], (mSH r tl, (G, nk)))))) ?_ rfl
          refine sm_if2 (t := (ilt p2 x13)) (pt := 126) rfl rfl rfl (fun _ => ?_) (fun _ => ?_)
          · exact sm_go 1 (hk17 () 0) rfl
          · exact sm_go 2 (hk17 () x12) rfl
      · intro k18 hk18
        refine sm_loop3 (S := fun (g22 : Option mV × Option mV) (x19 : Int) (x20 : Int) (x21 : Int) => (28, ([lR 56, lI p1, lI p2, lI p3, lL x7, none, lI x8, lL x19, none, lI x20, lI x21, g22.2], ([], (mSH r tl, (G, nk)))))) ?_ LF (none, g9.2.2.2.2.2) 1 0 0
        intro again23 hagain23 g22 x19 x20 x21
        refine sm_go 4 (s' := (33, ([lR 56, lI p1, lI p2, lI p3, lL x7, none, lI x8, lL x19, none, lI x20, lI x21, g22.2], ([sI 4, sI p1, sR 56, sI x21], (mSH r tl, (G, nk)))))) ?_ rfl
        refine sm_callG (rest := [sI x21]) (T_X11_of scr (d + 1) r tl nk G p1 4) rfl (Or.inl rfl) rfl rfl rfl rfl (fun _ => rfl) (fun v24 => (36, ([lR 56, lI p1, lI p2, lI p3, lL x7, none, lI x8, lL x19, none, lI x20, lI x21, g22.2], ([sI v24, sI x21], (mSH r tl, (G, nk)))))) (fun _ => rfl) fun v24 => ?_
        refine sm_if2n (t := (ilt x21 v24)) (pt := 113) rfl rfl rfl (fun _ => ?_) (fun _ => ?_)
        · refine sm_letK1 (S := fun (g26 : Unit) (x25 : Int) => (55, ([lR 56, lI p1, lI p2, lI p3, lL x7, none, lI x8, lL x19, none, lI x20, lI x21, g22.2], ([sI x25], (mSH r tl, (G, nk)))))) ?_ ?_
          · intro g26 x25
            refine sm_letK1 (S := fun (g28 : Unit) (x27 : Int) => (75, ([lR 56, lI p1, lI p2, lI p3, lL x7, none, lI x8, lL x19, none, lI x20, lI x21, lI x25], ([sL x27, sL x19], (mSH r tl, (G, nk)))))) ?_ ?_
            · intro g28 x27
              refine sm_letK1 (S := fun (g30 : Unit) (x29 : Int) => (104, ([lR 56, lI p1, lI p2, lI p3, lL x7, none, lI x8, lL (x19 * x27), none, lI x20, lI x21, lI x25], ([sI x29, sI x20], (mSH r tl, (G, nk)))))) ?_ ?_
              · intro g30 x29
                exact sm_go 4 (hagain23 (none, lI x25) (x19 * x27) (x20 + x29) (x21 + 1)) rfl
              · intro k31 hk31
                refine sm_go 4 (s' := (82, ([lR 56, lI p1, lI p2, lI p3, lL x7, none, lI x8, lL (x19 * x27), none, lI x20, lI x21, lI x25], ([sI x25, sI x20], (mSH r tl, (G, nk)))))) ?_ rfl
                refine sm_if1 (t := (ieq x25 0)) (pt := 97) rfl rfl rfl (fun _ => ?_) (fun _ => ?_)
                · refine sm_go 3 (s' := (101, ([lR 56, lI p1, lI p2, lI p3, lL x7, none, lI x8, lL (x19 * x27), none, lI x20, lI x21, lI x25], ([sI x21, sI p1, sR 56, sI x20], (mSH r tl, (G, nk)))))) ?_ rfl
                  refine sm_callG (rest := [sI x20]) (T_X11_hoursOf scr d r tl nk G p1 x21) rfl (Or.inl rfl) rfl rfl rfl rfl (fun _ => rfl) (fun v32 => (104, ([lR 56, lI p1, lI p2, lI p3, lL x7, none, lI x8, lL (x19 * x27), none, lI x20, lI x21, lI x25], ([sI v32, sI x20], (mSH r tl, (G, nk)))))) (fun _ => rfl) fun v32 => ?_
                  exact hk31 () v32
                · refine sm_go 4 (s' := (90, ([lR 56, lI p1, lI p2, lI p3, lL x7, none, lI x8, lL (x19 * x27), none, lI x20, lI x21, lI x25], ([sI x21, sI p1, sR 56, sI 2, sI x20], (mSH r tl, (G, nk)))))) ?_ rfl
                  refine sm_callG (rest := [sI 2, sI x20]) (T_X11_hoursOf scr d r tl nk G p1 x21) rfl (Or.inl rfl) rfl rfl rfl rfl (fun _ => rfl) (fun v33 => (93, ([lR 56, lI p1, lI p2, lI p3, lL x7, none, lI x8, lL (x19 * x27), none, lI x20, lI x21, lI x25], ([sI v33, sI 2, sI x20], (mSH r tl, (G, nk)))))) (fun _ => rfl) fun v33 => ?_
                  exact sm_go 2 (hk31 () (2 * v33)) rfl
            · intro k34 hk34
              refine sm_go 3 (s' := (61, ([lR 56, lI p1, lI p2, lI p3, lL x7, none, lI x8, lL x19, none, lI x20, lI x21, lI x25], ([sI x25, sL x19], (mSH r tl, (G, nk)))))) ?_ rfl
              refine sm_if1 (t := (ieq x25 0)) (pt := 69) rfl rfl rfl (fun _ => ?_) (fun _ => ?_)
              · exact sm_go 4 (hk34 () (w32 (1000 - p3))) rfl
              · exact sm_go 3 (hk34 () (w32 p3)) rfl
          · intro k35 hk35
            refine sm_go 6 (s' := (47, ([lR 56, lI p1, lI p2, lI p3, lL x7, none, lI x8, lL x19, none, lI x20, lI x21, g22.2], ([sI 1, sI (iAnd (iShr x8 x21) 1)], (mSH r tl, (G, nk)))))) ?_ rfl
            refine sm_if2n (t := (ieq (iAnd (iShr x8 x21) 1) 1)) (pt := 54) rfl rfl rfl (fun _ => ?_) (fun _ => ?_)
            · exact sm_go 2 (hk35 () 1) rfl
            · exact sm_go 1 (hk35 () 0) rfl
        · exact hk18 (none, lI x21, g22.2) x19 x20
    · exact hk6 (none, lI x8, g9.2.1, g9.2.2.1, g9.2.2.2.1, g9.2.2.2.2.1, g9.2.2.2.2.2) x7
def P_X11_promise (p1 : Int) (p2 : Int) (p3 : Int) (G : mG) : Option (Int × mG) :=
(P_X11_isJob p1 G).bind fun v4 =>
(P_X11_in p2 0 1000).bind fun v5 =>
letK (fun (x6 : Int) =>
(P_X11_fits (b2i v4) x6 1 G).bind fun z8 =>
bif z8.1 then
letK (fun (x9 : Int) =>
letK (fun (x11 : Int) =>
(P_X11_of p1 0 z8.2).bind fun v13 =>
some ((v13 + x11), z8.2)) fun k14 =>
loop1 LF (fun again17 (x15 : Int) =>
(P_X11_oddsOf p1 x15 p2 z8.2).bind fun v18 =>
bif (ilt (lcmpI (v18 * 1000) x9) 0) then
again17 (x15 + 1)
else
k14 x15) 0) fun k19 =>
loop2 LF (fun again23 (x20 : Int) (x21 : Int) =>
(P_X11_of p1 4 z8.2).bind fun v24 =>
bif (ilt x21 v24) then
again23 (x20 * 1000) (x21 + 1)
else
k19 x20) (w32 p3) 0
else
some (0, z8.2)) fun k25 =>
letK (k25 0) fun k27 =>
bif v5 then
(P_X11_in p3 1 1000).bind fun v28 =>
bif v28 then
k25 1
else
k27
else
k27
set_option maxRecDepth 100000 in
theorem T_X11_promise (scr : mScr) (d : Nat) (r : List (Option Nat)) (tl : List mSh) (nk : Nat × Nat) (G : mG)  (p1 : Int) (p2 : Int) (p3 : Int) : SimC scr (d + 4) 230 [sR 56, sI p1, sI p2, sI p3] (mSH r tl, (G, nk)) (e1I r tl nk) (P_X11_promise p1 p2 p3 G) := by
  refine sm_callX (cs := mc_X11_promise) (maxL := 7) (rk := 0) (o := 11) (hs := []) (d := d + 3) [lR 56, lI p1, lI p2, lI p3, none, none, none] rfl rfl rfl rfl ?_
  unfold P_X11_promise
  refine sm_go 3 (s' := (3, ([lR 56, lI p1, lI p2, lI p3, none, none, none], ([sI p1, sR 56, sR 56], (mSH r tl, (G, nk)))))) ?_ rfl
  refine sm_callG (rest := [sR 56]) (T_X11_isJob scr (d + 1) r tl nk G p1) rfl (Or.inl rfl) rfl rfl rfl rfl (fun _ => rfl) (fun v4 => (6, ([lR 56, lI p1, lI p2, lI p3, none, none, none], ([sI (b2i v4), sR 56], (mSH r tl, (G, nk)))))) (fun _ => rfl) fun v4 => ?_
  refine sm_go 3 (s' := (11, ([lR 56, lI p1, lI p2, lI p3, none, none, none], ([sI 1000, sI 0, sI p2, sI (b2i v4), sR 56], (mSH r tl, (G, nk)))))) ?_ rfl
  refine sm_callG (rest := [sI (b2i v4), sR 56]) (T_X11_in scr (d + 2) r tl nk G p2 0 1000) rfl (Or.inr (Or.inl rfl)) rfl rfl rfl rfl (fun _ => rfl) (fun v5 => (14, ([lR 56, lI p1, lI p2, lI p3, none, none, none], ([sI (b2i v5), sI (b2i v4), sR 56], (mSH r tl, (G, nk)))))) (fun _ => rfl) fun v5 => ?_
  refine sm_letK1 (S := fun (g7 : Unit) (x6 : Int) => (33, ([lR 56, lI p1, lI p2, lI p3, none, none, none], ([sI x6, sI (b2i v4), sR 56], (mSH r tl, (G, nk)))))) ?_ ?_
  · intro g7 x6
    refine sm_go 1 (s' := (34, ([lR 56, lI p1, lI p2, lI p3, none, none, none], ([sI 1, sI x6, sI (b2i v4), sR 56], (mSH r tl, (G, nk)))))) ?_ rfl
    refine sm_callG (rest := []) (T_X11_fits scr (d + 2) r tl nk G (b2i v4) x6 1) rfl (Or.inl rfl) rfl rfl rfl rfl (fun _ => rfl) (fun z8 => (37, ([lR 56, lI p1, lI p2, lI p3, none, none, none], ([sI (b2i z8.1)], (mSH r tl, (z8.2, nk)))))) (fun _ => rfl) fun z8 => ?_
    refine sm_if1 (t := z8.1) (pt := 42) (mCmpB_ne z8.1) rfl rfl (fun _ => ?_) (fun _ => ?_)
    · refine sm_go 5 (s' := (49, ([lR 56, lI p1, lI p2, lI p3, lL (w32 p3), none, lI 0], ([], (mSH r tl, (z8.2, nk)))))) ?_ rfl
      refine sm_letK1 (S := fun (g10 : Option mV × Option mV) (x9 : Int) => (74, ([lR 56, lI p1, lI p2, lI p3, lL x9, none, g10.2], ([], (mSH r tl, (z8.2, nk)))))) ?_ ?_
      · intro g10 x9
        refine sm_go 2 (s' := (77, ([lR 56, lI p1, lI p2, lI p3, lL x9, none, lI 0], ([], (mSH r tl, (z8.2, nk)))))) ?_ rfl
        refine sm_letK1 (S := fun (g12 : Unit) (x11 : Int) => (101, ([lR 56, lI p1, lI p2, lI p3, lL x9, none, lI x11], ([], (mSH r tl, (z8.2, nk)))))) ?_ ?_
        · intro g12 x11
          refine sm_go 3 (s' := (104, ([lR 56, lI p1, lI p2, lI p3, lL x9, none, lI x11], ([sI 0, sI p1, sR 56], (mSH r tl, (z8.2, nk)))))) ?_ rfl
          refine sm_callG (rest := []) (T_X11_of scr (d + 2) r tl nk z8.2 p1 0) rfl (Or.inl rfl) rfl rfl rfl rfl (fun _ => rfl) (fun v13 => (107, ([lR 56, lI p1, lI p2, lI p3, lL x9, none, lI x11], ([sI v13], (mSH r tl, (z8.2, nk)))))) (fun _ => rfl) fun v13 => ?_
          refine sm_go 2 (s' := (110, ([lR 56, lI p1, lI p2, lI p3, lL x9, none, lI x11], ([sI (v13 + x11)], (mSH r tl, (z8.2, nk)))))) ?_ rfl
          exact sm_retI rfl rfl rfl
        · intro k14 hk14
          refine sm_loop1 (S := fun (g16 : Unit) (x15 : Int) => (77, ([lR 56, lI p1, lI p2, lI p3, lL x9, none, lI x15], ([], (mSH r tl, (z8.2, nk)))))) ?_ LF () 0
          intro again17 hagain17 g16 x15
          refine sm_go 4 (s' := (82, ([lR 56, lI p1, lI p2, lI p3, lL x9, none, lI x15], ([sI p2, sI x15, sI p1, sR 56], (mSH r tl, (z8.2, nk)))))) ?_ rfl
          refine sm_callG (rest := []) (T_X11_oddsOf scr d r tl nk z8.2 p1 x15 p2) rfl (Or.inl rfl) rfl rfl rfl rfl (fun _ => rfl) (fun v18 => (85, ([lR 56, lI p1, lI p2, lI p3, lL x9, none, lI x15], ([sL v18], (mSH r tl, (z8.2, nk)))))) (fun _ => rfl) fun v18 => ?_
          refine sm_go 4 (s' := (92, ([lR 56, lI p1, lI p2, lI p3, lL x9, none, lI x15], ([sI (lcmpI (v18 * 1000) x9)], (mSH r tl, (z8.2, nk)))))) ?_ rfl
          refine sm_if1n (t := (ilt (lcmpI (v18 * 1000) x9) 0)) (pt := 101) rfl rfl rfl (fun _ => ?_) (fun _ => ?_)
          · exact sm_go 2 (hagain17 () (x15 + 1)) rfl
          · exact hk14 () x15
      · intro k19 hk19
        refine sm_loop2 (S := fun (g22 : Option mV) (x20 : Int) (x21 : Int) => (49, ([lR 56, lI p1, lI p2, lI p3, lL x20, none, lI x21], ([], (mSH r tl, (z8.2, nk)))))) ?_ LF (none) (w32 p3) 0
        intro again23 hagain23 g22 x20 x21
        refine sm_go 4 (s' := (54, ([lR 56, lI p1, lI p2, lI p3, lL x20, none, lI x21], ([sI 4, sI p1, sR 56, sI x21], (mSH r tl, (z8.2, nk)))))) ?_ rfl
        refine sm_callG (rest := [sI x21]) (T_X11_of scr (d + 2) r tl nk z8.2 p1 4) rfl (Or.inl rfl) rfl rfl rfl rfl (fun _ => rfl) (fun v24 => (57, ([lR 56, lI p1, lI p2, lI p3, lL x20, none, lI x21], ([sI v24, sI x21], (mSH r tl, (z8.2, nk)))))) (fun _ => rfl) fun v24 => ?_
        refine sm_if2n (t := (ilt x21 v24)) (pt := 74) rfl rfl rfl (fun _ => ?_) (fun _ => ?_)
        · exact sm_go 6 (hagain23 (none) (x20 * 1000) (x21 + 1)) rfl
        · exact hk19 (none, lI x21) x20
    · refine sm_go 1 (s' := (41, ([lR 56, lI p1, lI p2, lI p3, none, none, none], ([sI 0], (mSH r tl, (z8.2, nk)))))) ?_ rfl
      exact sm_retI rfl rfl rfl
  · intro k25 hk25
    refine sm_letK0 (S := fun (g26 : Unit) => (32, ([lR 56, lI p1, lI p2, lI p3, none, none, none], ([sI (b2i v4), sR 56], (mSH r tl, (G, nk)))))) ?_ ?_
    · intro g26
      exact sm_go 1 (hk25 () 0) rfl
    · intro k27 hk27
      refine sm_if1n (t := v5) (pt := 32) (mCmpB_eq v5) rfl rfl (fun _ => ?_) (fun _ => ?_)
      · refine sm_go 3 (s' := (22, ([lR 56, lI p1, lI p2, lI p3, none, none, none], ([sI 1000, sI 1, sI p3, sI (b2i v4), sR 56], (mSH r tl, (G, nk)))))) ?_ rfl
        refine sm_callG (rest := [sI (b2i v4), sR 56]) (T_X11_in scr (d + 2) r tl nk G p3 1 1000) rfl (Or.inr (Or.inl rfl)) rfl rfl rfl rfl (fun _ => rfl) (fun v28 => (25, ([lR 56, lI p1, lI p2, lI p3, none, none, none], ([sI (b2i v28), sI (b2i v4), sR 56], (mSH r tl, (G, nk)))))) (fun _ => rfl) fun v28 => ?_
        refine sm_if1n (t := v28) (pt := 32) (mCmpB_eq v28) rfl rfl (fun _ => ?_) (fun _ => ?_)
        · exact sm_go 2 (hk25 () 1) rfl
        · exact hk27 ()
      · exact hk27 ()
def P_X8_hoursDone (t : Nat) (p1 : Int) (p2 : Int) (G : mG) : Option (Int) :=
loop2 LF (fun again6 (x3 : Int) (x4 : Int) =>
(ald G (t+2) 6 p1).bind fun v7 =>
bif (ilt x4 v7) then
(ald G (t+5) 30 ((p1 * 5) + x4)).bind fun v8 =>
(ald G 8 30 ((p1 * 5) + x4)).bind fun v9 =>
again6 (x3 + (iMin (iMax (p2 - v8) 0) v9)) (x4 + 1)
else
some x3) 0 0
set_option maxRecDepth 100000 in
theorem T_X8_hoursDone_17 (scr : mScr) (d : Nat) (r : List (Option Nat)) (tl : List mSh) (nk : Nat × Nat) (G : mG)  (p1 : Int) (p2 : Int) : SimC scr (d + 1) 69 [sR 17, sI p1, sI p2] (mSH r tl, (G, nk)) (e0I (mSH r tl, (G, nk))) (P_X8_hoursDone 17 p1 p2 G) := by
  refine sm_callX (cs := mc_X8_hoursDone) (maxL := 6) (rk := 0) (o := 8) (hs := []) (d := d + 0) [lR 17, lI p1, lI p2, none, none, none] rfl rfl rfl rfl ?_
  unfold P_X8_hoursDone
  refine sm_go 4 (s' := (5, ([lR 17, lI p1, lI p2, lI 0, lI 0, none], ([], (mSH r tl, (G, nk)))))) ?_ rfl
  refine sm_loop2 (S := fun (g5 : Option mV) (x3 : Int) (x4 : Int) => (5, ([lR 17, lI p1, lI p2, lI x3, lI x4, g5], ([], (mSH r tl, (G, nk)))))) ?_ LF (none) 0 0
  intro again6 hagain6 g5 x3 x4
  refine sm_go 4 (s' := (12, ([lR 17, lI p1, lI p2, lI x3, lI x4, g5], ([sI p1, sR 19, sI x4], (mSH r tl, (G, nk)))))) ?_ rfl
  refine sm_ald rfl rfl fun v7 => ?_
  refine sm_if2n (t := (ilt x4 v7)) (pt := 59) rfl rfl rfl (fun _ => ?_) (fun _ => ?_)
  · refine sm_go 11 (s' := (32, ([lR 17, lI p1, lI p2, lI x3, lI x4, lI ((p1 * 5) + x4)], ([sI ((p1 * 5) + x4), sR 22, sI p2, sI x3], (mSH r tl, (G, nk)))))) ?_ rfl
    refine sm_ald rfl rfl fun v8 => ?_
    refine sm_go 7 (s' := (47, ([lR 17, lI p1, lI p2, lI x3, lI x4, lI ((p1 * 5) + x4)], ([sI ((p1 * 5) + x4), sR 8, sI (iMax (p2 - v8) 0), sI x3], (mSH r tl, (G, nk)))))) ?_ rfl
    refine sm_ald rfl rfl fun v9 => ?_
    exact sm_go 5 (hagain6 (lI ((p1 * 5) + x4)) (x3 + (iMin (iMax (p2 - v8) 0) v9)) (x4 + 1)) rfl
  · refine sm_go 1 (s' := (60, ([lR 17, lI p1, lI p2, lI x3, lI x4, g5], ([sI x3], (mSH r tl, (G, nk)))))) ?_ rfl
    exact sm_retI rfl rfl rfl
noncomputable def P_X10_worked (p1 : Int) (p2 : Int) (W : mW) : Option ((Int ⊕ Nat) × mW) :=
thrB (P_X10_needRange p1 0 5000 W) fun v3 W4 =>
thrB (P_X10_needRange p2 0 2 W4) fun v5 W6 =>
thrB (P_X10_needPlan W6) fun v7 W8 =>
loop2 LF (fun again12 (x9 : Int) (x10 : Int) =>
bif (ilt x10 (W8.2.2.1 1 0)) then
(P_X8_leastEndOf 17 x10 W8.2.2.1).bind fun v13 =>
letK (fun (x14 : Int) =>
letK (fun (x16 : Int) =>
again12 x16 (x10 + 1)) fun k18 =>
letK ((P_X8_hoursDone 17 x10 p1 W8.2.2.1).bind fun v20 =>
k18 (x9 + v20)) fun k21 =>
bif (ieq p2 0) then
k21
else
letK (fun (x22 : Int) =>
bif (ieq x14 x22) then
k21
else
k18 x9) fun k24 =>
bif (ieq p2 1) then
k24 1
else
k24 0) fun k25 =>
bif (ilt p1 v13) then
k25 0
else
k25 1
else
some (.inl x9, W8)) 0 0
set_option maxRecDepth 100000 in
theorem T_X10_worked (scr : mScr) (d : Nat) (W : mW)  (p1 : Int) (p2 : Int) : SimC scr (d + 4) 115 [sR 0, sI p1, sI p2] (mkM W) (e2I) (P_X10_worked p1 p2 W) := by
  refine sm_callX (cs := mc_X10_worked) (maxL := 6) (rk := 0) (o := 10) (hs := []) (d := d + 3) [lR 0, lI p1, lI p2, none, none, none] rfl rfl rfl rfl ?_
  unfold P_X10_worked
  refine sm_go 3 (s' := (5, ([lR 0, lI p1, lI p2, none, none, none], ([sI 5000, sI 0, sI p1], (mSH W.1 W.2.1, (W.2.2.1, W.2.2.2)))))) ?_ rfl
  refine sm_thr (rest := []) (T_X10_needRange scr (d + 2) W p1 0 5000) rfl (Or.inr (Or.inl rfl)) rfl rfl rfl rfl (fun _ _ => rfl) (fun _ _ => rfl) (fun v3 W4 => (8, ([lR 0, lI p1, lI p2, none, none, none], ([], (mSH W4.1 W4.2.1, (W4.2.2.1, W4.2.2.2)))))) (fun _ _ => rfl) fun v3 W4 => ?_
  refine sm_go 3 (s' := (11, ([lR 0, lI p1, lI p2, none, none, none], ([sI 2, sI 0, sI p2], (mSH W4.1 W4.2.1, (W4.2.2.1, W4.2.2.2)))))) ?_ rfl
  refine sm_thr (rest := []) (T_X10_needRange scr (d + 2) W4 p2 0 2) rfl (Or.inr (Or.inl rfl)) rfl rfl rfl rfl (fun _ _ => rfl) (fun _ _ => rfl) (fun v5 W6 => (14, ([lR 0, lI p1, lI p2, none, none, none], ([], (mSH W6.1 W6.2.1, (W6.2.2.1, W6.2.2.2)))))) (fun _ _ => rfl) fun v5 W6 => ?_
  refine sm_go 1 (s' := (15, ([lR 0, lI p1, lI p2, none, none, none], ([sR 0], (mSH W6.1 W6.2.1, (W6.2.2.1, W6.2.2.2)))))) ?_ rfl
  refine sm_thr (rest := []) (T_X10_needPlan scr (d + 2) W6) rfl (Or.inl rfl) rfl rfl rfl rfl (fun _ _ => rfl) (fun _ _ => rfl) (fun v7 W8 => (18, ([lR 0, lI p1, lI p2, none, none, none], ([], (mSH W8.1 W8.2.1, (W8.2.2.1, W8.2.2.2)))))) (fun _ _ => rfl) fun v7 W8 => ?_
  refine sm_go 4 (s' := (23, ([lR 0, lI p1, lI p2, lI 0, lI 0, none], ([], (mSH W8.1 W8.2.1, (W8.2.2.1, W8.2.2.2)))))) ?_ rfl
  refine sm_loop2 (S := fun (g11 : Option mV) (x9 : Int) (x10 : Int) => (23, ([lR 0, lI p1, lI p2, lI x9, lI x10, g11], ([], (mSH W8.1 W8.2.1, (W8.2.2.1, W8.2.2.2)))))) ?_ LF (none) 0 0
  intro again12 hagain12 g11 x9 x10
  refine sm_go 4 (s' := (32, ([lR 0, lI p1, lI p2, lI x9, lI x10, g11], ([sI (W8.2.2.1 1 0), sI x10], (mSH W8.1 W8.2.1, (W8.2.2.1, W8.2.2.2)))))) ?_ rfl
  refine sm_if2n (t := (ilt x10 (W8.2.2.1 1 0))) (pt := 93) rfl rfl rfl (fun _ => ?_) (fun _ => ?_)
  · refine sm_go 3 (s' := (41, ([lR 0, lI p1, lI p2, lI x9, lI x10, g11], ([sI x10, sR 17], (mSH W8.1 W8.2.1, (W8.2.2.1, W8.2.2.2)))))) ?_ rfl
    refine sm_callG (rest := []) (T_X8_leastEndOf_17 scr d W8.1 W8.2.1 W8.2.2.2 W8.2.2.1 x10) rfl (Or.inl rfl) rfl rfl rfl rfl (fun _ => rfl) (fun v13 => (44, ([lR 0, lI p1, lI p2, lI x9, lI x10, g11], ([sI v13], (mSH W8.1 W8.2.1, (W8.2.2.1, W8.2.2.2)))))) (fun _ => rfl) fun v13 => ?_
    refine sm_letK1 (S := fun (g15 : Unit) (x14 : Int) => (53, ([lR 0, lI p1, lI p2, lI x9, lI x10, g11], ([sI x14], (mSH W8.1 W8.2.1, (W8.2.2.1, W8.2.2.2)))))) ?_ ?_
    · intro g15 x14
      refine sm_letK1 (S := fun (g17 : Unit) (x16 : Int) => (87, ([lR 0, lI p1, lI p2, lI x16, lI x10, lI x14], ([], (mSH W8.1 W8.2.1, (W8.2.2.1, W8.2.2.2)))))) ?_ ?_
      · intro g17 x16
        exact sm_go 2 (hagain12 (lI x14) x16 (x10 + 1)) rfl
      · intro k18 hk18
        refine sm_letK0 (S := fun (g19 : Unit) => (74, ([lR 0, lI p1, lI p2, lI x9, lI x10, lI x14], ([], (mSH W8.1 W8.2.1, (W8.2.2.1, W8.2.2.2)))))) ?_ ?_
        · intro g19
          refine sm_go 5 (s' := (82, ([lR 0, lI p1, lI p2, lI x9, lI x10, lI x14], ([sI p1, sI x10, sR 17, sI x9], (mSH W8.1 W8.2.1, (W8.2.2.1, W8.2.2.2)))))) ?_ rfl
          refine sm_callG (rest := [sI x9]) (T_X8_hoursDone_17 scr (d + 2) W8.1 W8.2.1 W8.2.2.2 W8.2.2.1 x10 p1) rfl (Or.inl rfl) rfl rfl rfl rfl (fun _ => rfl) (fun v20 => (85, ([lR 0, lI p1, lI p2, lI x9, lI x10, lI x14], ([sI v20, sI x9], (mSH W8.1 W8.2.1, (W8.2.2.1, W8.2.2.2)))))) (fun _ => rfl) fun v20 => ?_
          exact sm_go 2 (hk18 () (x9 + v20)) rfl
        · intro k21 hk21
          refine sm_go 2 (s' := (56, ([lR 0, lI p1, lI p2, lI x9, lI x10, lI x14], ([sI p2], (mSH W8.1 W8.2.1, (W8.2.2.1, W8.2.2.2)))))) ?_ rfl
          refine sm_if1 (t := (ieq p2 0)) (pt := 74) rfl rfl rfl (fun _ => ?_) (fun _ => ?_)
          · exact hk21 ()
          · refine sm_letK1 (S := fun (g23 : Unit) (x22 : Int) => (71, ([lR 0, lI p1, lI p2, lI x9, lI x10, lI x14], ([sI x22, sI x14], (mSH W8.1 W8.2.1, (W8.2.2.1, W8.2.2.2)))))) ?_ ?_
            · intro g23 x22
              refine sm_if2n (t := (ieq x14 x22)) (pt := 87) rfl rfl rfl (fun _ => ?_) (fun _ => ?_)
              · exact hk21 ()
              · exact hk18 () x9
            · intro k24 hk24
              refine sm_go 3 (s' := (63, ([lR 0, lI p1, lI p2, lI x9, lI x10, lI x14], ([sI 1, sI p2, sI x14], (mSH W8.1 W8.2.1, (W8.2.2.1, W8.2.2.2)))))) ?_ rfl
              refine sm_if2n (t := (ieq p2 1)) (pt := 70) rfl rfl rfl (fun _ => ?_) (fun _ => ?_)
              · exact sm_go 2 (hk24 () 1) rfl
              · exact sm_go 1 (hk24 () 0) rfl
    · intro k25 hk25
      refine sm_go 1 (s' := (45, ([lR 0, lI p1, lI p2, lI x9, lI x10, g11], ([sI p1, sI v13], (mSH W8.1 W8.2.1, (W8.2.2.1, W8.2.2.2)))))) ?_ rfl
      refine sm_if2 (t := (ilt p1 v13)) (pt := 52) rfl rfl rfl (fun _ => ?_) (fun _ => ?_)
      · exact sm_go 1 (hk25 () 0) rfl
      · exact sm_go 2 (hk25 () 1) rfl
  · refine sm_go 1 (s' := (94, ([lR 0, lI p1, lI p2, lI x9, lI x10, g11], ([sI x9], (mSH W8.1 W8.2.1, (W8.2.2.1, W8.2.2.2)))))) ?_ rfl
    exact sm_retI rfl rfl rfl
noncomputable def P_L_worked (p1 : Int) (p2 : Int) (W : mW) : Option ((Int ⊕ Nat) × mW) :=
ctcB (P_X10_worked p1 p2 W) (fun v3 W4 =>
(ast W4.2.2.1 74 1 0 (w32 v3)).bind fun G7 =>
some (.inl 0, (W4.1, (W4.2.1, (G7, W4.2.2.2))))) (fun _ => none) (fun W5 =>
some (.inl 1, W5)) (fun W6 =>
some (.inl 2, W6))
set_option maxRecDepth 100000 in
theorem T_L_worked (scr : mScr) (d : Nat) (W : mW)  (p1 : Int) (p2 : Int) : SimC scr (d + 5) 274 [sR 0, sI p1, sI p2, sR 74] (mkM W) (e2I) (P_L_worked p1 p2 W) := by
  refine sm_callX (cs := mc_L_worked) (maxL := 5) (rk := 0) (o := 112) (hs := [(0, (10, (13, 1))), (0, (10, (17, 2)))]) (d := d + 4) [lR 0, lI p1, lI p2, lR 74, none] rfl rfl rfl rfl ?_
  unfold P_L_worked
  refine sm_go 5 (s' := (5, ([lR 0, lI p1, lI p2, lR 74, none], ([sI p2, sI p1, sR 0, sI 0, sR 74], (mSH W.1 W.2.1, (W.2.2.1, W.2.2.2)))))) ?_ rfl
  refine sm_ctc (rest := [sI 0, sR 74]) (T_X10_worked scr d W p1 p2) rfl (Or.inl rfl) rfl rfl rfl rfl (fun _ _ => rfl) (fun v3 W4 => (8, ([lR 0, lI p1, lI p2, lR 74, none], ([sI v3, sI 0, sR 74], (mSH W4.1 W4.2.1, (W4.2.2.1, W4.2.2.2)))))) (fun _ _ => rfl) (fun v3 W4 => ?_) (Or.inr rfl) (Or.inl ⟨13, rfl, fun W5 => ?_⟩) (Or.inl ⟨17, rfl, fun W6 => ?_⟩)
  · refine sm_go 1 (s' := (9, ([lR 0, lI p1, lI p2, lR 74, none], ([sL (w32 v3), sI 0, sR 74], (mSH W4.1 W4.2.1, (W4.2.2.1, W4.2.2.2)))))) ?_ rfl
    refine sm_lst rfl rfl fun G7 => ?_
    refine sm_go 1 (s' := (21, ([lR 0, lI p1, lI p2, lR 74, none], ([], (mSH W4.1 W4.2.1, (G7, W4.2.2.2)))))) ?_ rfl
    refine sm_go 1 (s' := (22, ([lR 0, lI p1, lI p2, lR 74, none], ([sI 0], (mSH W4.1 W4.2.1, (G7, W4.2.2.2)))))) ?_ rfl
    exact sm_retI rfl rfl rfl
  · refine sm_go 2 (s' := (16, ([lR 0, lI p1, lI p2, lR 74, lO], ([sI 1], (mSH W5.1 W5.2.1, (W5.2.2.1, W5.2.2.2)))))) ?_ rfl
    exact sm_retI rfl rfl rfl
  · refine sm_go 2 (s' := (20, ([lR 0, lI p1, lI p2, lR 74, lO], ([sI 2], (mSH W6.1 W6.2.1, (W6.2.2.1, W6.2.2.2)))))) ?_ rfl
    exact sm_retI rfl rfl rfl
def P_X11_worked (p1 : Int) (p2 : Int) (G : mG) : Option (Int × mG) :=
(P_X11_in p1 0 5000).bind fun v3 =>
letK (fun (x4 : Int) =>
(P_X11_isPlanned G).bind fun z6 =>
(P_X11_fits x4 (b2i z6.1) 1 z6.2).bind fun z7 =>
bif z7.1 then
loop2 LF (fun again11 (x8 : Int) (x9 : Int) =>
(ald z7.2 57 282 0).bind fun v12 =>
bif (ilt x9 v12) then
(ald z7.2 61 6 x9).bind fun v13 =>
letK (fun (x14 : Int) =>
letK (fun (x16 : Int) =>
again11 x16 (x9 + 1)) fun k18 =>
letK (letK (loop2 LF (fun again24 (x21 : Int) (x22 : Int) =>
(P_X11_of x9 4 z7.2).bind fun v25 =>
bif (ilt x22 v25) then
(P_X11_stepEnd x9 x22 z7.2).bind fun v26 =>
(ald z7.2 59 30 ((x9 * 5) + x22)).bind fun v27 =>
again24 (x21 + (iMax 0 ((iMin p1 v26) - v27))) (x22 + 1)
else
k18 x21) x8 0) fun k28 =>
bif (ieq p2 2) then
bif (ieq x14 0) then
k28
else
k18 x8
else
k28) fun k29 =>
bif (ieq p2 1) then
bif (ieq x14 0) then
k18 x8
else
k29
else
k29) fun k30 =>
bif (ilt p1 v13) then
k30 0
else
k30 1
else
some (x8, z7.2)) 0 0
else
some (0, z7.2)) fun k31 =>
letK (k31 0) fun k33 =>
bif v3 then
(P_X11_in p2 0 2).bind fun v34 =>
bif v34 then
k31 1
else
k33
else
k33
set_option maxRecDepth 100000 in
theorem T_X11_worked (scr : mScr) (d : Nat) (r : List (Option Nat)) (tl : List mSh) (nk : Nat × Nat) (G : mG)  (p1 : Int) (p2 : Int) : SimC scr (d + 7) 231 [sR 56, sI p1, sI p2] (mSH r tl, (G, nk)) (e1I r tl nk) (P_X11_worked p1 p2 G) := by
  refine sm_callX (cs := mc_X11_worked) (maxL := 7) (rk := 0) (o := 11) (hs := []) (d := d + 6) [lR 56, lI p1, lI p2, none, none, none, none] rfl rfl rfl rfl ?_
  unfold P_X11_worked
  refine sm_go 4 (s' := (6, ([lR 56, lI p1, lI p2, none, none, none, none], ([sI 5000, sI 0, sI p1, sR 56], (mSH r tl, (G, nk)))))) ?_ rfl
  refine sm_callG (rest := [sR 56]) (T_X11_in scr (d + 5) r tl nk G p1 0 5000) rfl (Or.inr (Or.inl rfl)) rfl rfl rfl rfl (fun _ => rfl) (fun v3 => (9, ([lR 56, lI p1, lI p2, none, none, none, none], ([sI (b2i v3), sR 56], (mSH r tl, (G, nk)))))) (fun _ => rfl) fun v3 => ?_
  refine sm_letK1 (S := fun (g5 : Unit) (x4 : Int) => (26, ([lR 56, lI p1, lI p2, none, none, none, none], ([sI x4, sR 56], (mSH r tl, (G, nk)))))) ?_ ?_
  · intro g5 x4
    refine sm_go 1 (s' := (27, ([lR 56, lI p1, lI p2, none, none, none, none], ([sR 56, sI x4, sR 56], (mSH r tl, (G, nk)))))) ?_ rfl
    refine sm_callG (rest := [sI x4, sR 56]) (T_X11_isPlanned scr d r tl nk G) rfl (Or.inl rfl) rfl rfl rfl rfl (fun _ => rfl) (fun z6 => (30, ([lR 56, lI p1, lI p2, none, none, none, none], ([sI (b2i z6.1), sI x4, sR 56], (mSH r tl, (z6.2, nk)))))) (fun _ => rfl) fun z6 => ?_
    refine sm_go 1 (s' := (31, ([lR 56, lI p1, lI p2, none, none, none, none], ([sI 1, sI (b2i z6.1), sI x4, sR 56], (mSH r tl, (z6.2, nk)))))) ?_ rfl
    refine sm_callG (rest := []) (T_X11_fits scr (d + 5) r tl nk z6.2 x4 (b2i z6.1) 1) rfl (Or.inl rfl) rfl rfl rfl rfl (fun _ => rfl) (fun z7 => (34, ([lR 56, lI p1, lI p2, none, none, none, none], ([sI (b2i z7.1)], (mSH r tl, (z7.2, nk)))))) (fun _ => rfl) fun z7 => ?_
    refine sm_if1 (t := z7.1) (pt := 39) (mCmpB_ne z7.1) rfl rfl (fun _ => ?_) (fun _ => ?_)
    · refine sm_go 4 (s' := (44, ([lR 56, lI p1, lI p2, lI 0, lI 0, none, none], ([], (mSH r tl, (z7.2, nk)))))) ?_ rfl
      refine sm_loop2 (S := fun (g10 : Option mV × Option mV) (x8 : Int) (x9 : Int) => (44, ([lR 56, lI p1, lI p2, lI x8, lI x9, g10.1, g10.2], ([], (mSH r tl, (z7.2, nk)))))) ?_ LF (none, none) 0 0
      intro again11 hagain11 g10 x8 x9
      refine sm_go 4 (s' := (51, ([lR 56, lI p1, lI p2, lI x8, lI x9, g10.1, g10.2], ([sI 0, sR 57, sI x9], (mSH r tl, (z7.2, nk)))))) ?_ rfl
      refine sm_ald rfl rfl fun v12 => ?_
      refine sm_if2n (t := (ilt x9 v12)) (pt := 155) rfl rfl rfl (fun _ => ?_) (fun _ => ?_)
      · refine sm_go 3 (s' := (61, ([lR 56, lI p1, lI p2, lI x8, lI x9, g10.1, g10.2], ([sI x9, sR 61], (mSH r tl, (z7.2, nk)))))) ?_ rfl
        refine sm_ald rfl rfl fun v13 => ?_
        refine sm_letK1 (S := fun (g15 : Unit) (x14 : Int) => (71, ([lR 56, lI p1, lI p2, lI x8, lI x9, g10.1, g10.2], ([sI x14], (mSH r tl, (z7.2, nk)))))) ?_ ?_
        · intro g15 x14
          refine sm_letK1 (S := fun (g17 : Option mV) (x16 : Int) => (149, ([lR 56, lI p1, lI p2, lI x16, lI x9, lI x14, g17], ([], (mSH r tl, (z7.2, nk)))))) ?_ ?_
          · intro g17 x16
            exact sm_go 2 (hagain11 (lI x14, g17) x16 (x9 + 1)) rfl
          · intro k18 hk18
            refine sm_letK0 (S := fun (g19 : Unit) => (83, ([lR 56, lI p1, lI p2, lI x8, lI x9, lI x14, g10.2], ([], (mSH r tl, (z7.2, nk)))))) ?_ ?_
            · intro g19
              refine sm_letK0 (S := fun (g20 : Unit) => (96, ([lR 56, lI p1, lI p2, lI x8, lI x9, lI x14, g10.2], ([], (mSH r tl, (z7.2, nk)))))) ?_ ?_
              · intro g20
                refine sm_go 2 (s' := (99, ([lR 56, lI p1, lI p2, lI x8, lI x9, lI x14, lI 0], ([], (mSH r tl, (z7.2, nk)))))) ?_ rfl
                refine sm_loop2 (S := fun (g23 : Unit) (x21 : Int) (x22 : Int) => (99, ([lR 56, lI p1, lI p2, lI x21, lI x9, lI x14, lI x22], ([], (mSH r tl, (z7.2, nk)))))) ?_ LF () x8 0
                intro again24 hagain24 g23 x21 x22
                refine sm_go 4 (s' := (105, ([lR 56, lI p1, lI p2, lI x21, lI x9, lI x14, lI x22], ([sI 4, sI x9, sR 56, sI x22], (mSH r tl, (z7.2, nk)))))) ?_ rfl
                refine sm_callG (rest := [sI x22]) (T_X11_of scr (d + 5) r tl nk z7.2 x9 4) rfl (Or.inl rfl) rfl rfl rfl rfl (fun _ => rfl) (fun v25 => (108, ([lR 56, lI p1, lI p2, lI x21, lI x9, lI x14, lI x22], ([sI v25, sI x22], (mSH r tl, (z7.2, nk)))))) (fun _ => rfl) fun v25 => ?_
                refine sm_if2n (t := (ilt x22 v25)) (pt := 149) rfl rfl rfl (fun _ => ?_) (fun _ => ?_)
                · refine sm_go 6 (s' := (119, ([lR 56, lI p1, lI p2, lI x21, lI x9, lI x14, lI x22], ([sI x22, sI x9, sR 56, sI p1, sI 0, sI x21], (mSH r tl, (z7.2, nk)))))) ?_ rfl
                  refine sm_callG (rest := [sI p1, sI 0, sI x21]) (T_X11_stepEnd scr (d + 3) r tl nk z7.2 x9 x22) rfl (Or.inl rfl) rfl rfl rfl rfl (fun _ => rfl) (fun v26 => (122, ([lR 56, lI p1, lI p2, lI x21, lI x9, lI x14, lI x22], ([sI v26, sI p1, sI 0, sI x21], (mSH r tl, (z7.2, nk)))))) (fun _ => rfl) fun v26 => ?_
                  refine sm_go 8 (s' := (136, ([lR 56, lI p1, lI p2, lI x21, lI x9, lI x14, lI x22], ([sI ((x9 * 5) + x22), sR 59, sI (iMin p1 v26), sI 0, sI x21], (mSH r tl, (z7.2, nk)))))) ?_ rfl
                  refine sm_ald rfl rfl fun v27 => ?_
                  exact sm_go 6 (hagain24 () (x21 + (iMax 0 ((iMin p1 v26) - v27))) (x22 + 1)) rfl
                · exact hk18 (lI x22) x21
              · intro k28 hk28
                refine sm_go 2 (s' := (85, ([lR 56, lI p1, lI p2, lI x8, lI x9, lI x14, g10.2], ([sI 2, sI p2], (mSH r tl, (z7.2, nk)))))) ?_ rfl
                refine sm_if2n (t := (ieq p2 2)) (pt := 96) rfl rfl rfl (fun _ => ?_) (fun _ => ?_)
                · refine sm_go 1 (s' := (90, ([lR 56, lI p1, lI p2, lI x8, lI x9, lI x14, g10.2], ([sI x14], (mSH r tl, (z7.2, nk)))))) ?_ rfl
                  refine sm_if1 (t := (ieq x14 0)) (pt := 96) rfl rfl rfl (fun _ => ?_) (fun _ => ?_)
                  · exact hk28 ()
                  · exact sm_go 1 (hk18 (g10.2) x8) rfl
                · exact hk28 ()
            · intro k29 hk29
              refine sm_go 3 (s' := (75, ([lR 56, lI p1, lI p2, lI x8, lI x9, lI x14, g10.2], ([sI 1, sI p2], (mSH r tl, (z7.2, nk)))))) ?_ rfl
              refine sm_if2n (t := (ieq p2 1)) (pt := 83) rfl rfl rfl (fun _ => ?_) (fun _ => ?_)
              · refine sm_go 1 (s' := (80, ([lR 56, lI p1, lI p2, lI x8, lI x9, lI x14, g10.2], ([sI x14], (mSH r tl, (z7.2, nk)))))) ?_ rfl
                refine sm_if1 (t := (ieq x14 0)) (pt := 149) rfl rfl rfl (fun _ => ?_) (fun _ => ?_)
                · exact hk18 (g10.2) x8
                · exact hk29 ()
              · exact hk29 ()
        · intro k30 hk30
          refine sm_go 1 (s' := (63, ([lR 56, lI p1, lI p2, lI x8, lI x9, g10.1, g10.2], ([sI p1, sI v13], (mSH r tl, (z7.2, nk)))))) ?_ rfl
          refine sm_if2 (t := (ilt p1 v13)) (pt := 70) rfl rfl rfl (fun _ => ?_) (fun _ => ?_)
          · exact sm_go 1 (hk30 () 0) rfl
          · exact sm_go 2 (hk30 () 1) rfl
      · refine sm_go 1 (s' := (156, ([lR 56, lI p1, lI p2, lI x8, lI x9, g10.1, g10.2], ([sI x8], (mSH r tl, (z7.2, nk)))))) ?_ rfl
        exact sm_retI rfl rfl rfl
    · refine sm_go 1 (s' := (38, ([lR 56, lI p1, lI p2, none, none, none, none], ([sI 0], (mSH r tl, (z7.2, nk)))))) ?_ rfl
      exact sm_retI rfl rfl rfl
  · intro k31 hk31
    refine sm_letK0 (S := fun (g32 : Unit) => (25, ([lR 56, lI p1, lI p2, none, none, none, none], ([sR 56], (mSH r tl, (G, nk)))))) ?_ ?_
    · intro g32
      exact sm_go 1 (hk31 () 0) rfl
    · intro k33 hk33
      refine sm_if1n (t := v3) (pt := 25) (mCmpB_eq v3) rfl rfl (fun _ => ?_) (fun _ => ?_)
      · refine sm_go 3 (s' := (15, ([lR 56, lI p1, lI p2, none, none, none, none], ([sI 2, sI 0, sI p2, sR 56], (mSH r tl, (G, nk)))))) ?_ rfl
        refine sm_callG (rest := [sR 56]) (T_X11_in scr (d + 5) r tl nk G p2 0 2) rfl (Or.inr (Or.inl rfl)) rfl rfl rfl rfl (fun _ => rfl) (fun v34 => (18, ([lR 56, lI p1, lI p2, none, none, none, none], ([sI (b2i v34), sR 56], (mSH r tl, (G, nk)))))) (fun _ => rfl) fun v34 => ?_
        refine sm_if1n (t := v34) (pt := 25) (mCmpB_eq v34) rfl rfl (fun _ => ?_) (fun _ => ?_)
        · exact sm_go 2 (hk31 () 1) rfl
        · exact hk33 ()
      · exact hk33 ()
noncomputable def P_X10_meanEnd (W : mW) : Option ((UInt64 ⊕ Nat) × mW) :=
thrB (P_X10_needPlan W) fun v1 W2 =>
bif (ieq (W2.2.2.1 1 0) 0) then
some (.inl FP.dconst0, W2)
else
(P_X8_aimed 17 1 W2.2.2.1).bind fun v3 =>
(ddv (FP.i2d (Int32.ofInt v3)) (FP.i2d (Int32.ofInt (W2.2.2.1 1 0)))).bind fun v4 =>
some (.inl v4, W2)
set_option maxRecDepth 100000 in
theorem T_X10_meanEnd (scr : mScr) (d : Nat) (W : mW)  : SimC scr (d + 5) 116 [sR 0] (mkM W) (e2D) (P_X10_meanEnd W) := by
  refine sm_callX (cs := mc_X10_meanEnd) (maxL := 1) (rk := 0) (o := 10) (hs := []) (d := d + 4) [lR 0] rfl rfl rfl rfl ?_
  unfold P_X10_meanEnd
  refine sm_go 1 (s' := (1, ([lR 0], ([sR 0], (mSH W.1 W.2.1, (W.2.2.1, W.2.2.2)))))) ?_ rfl
  refine sm_thr (rest := []) (T_X10_needPlan scr (d + 3) W) rfl (Or.inl rfl) rfl rfl rfl rfl (fun _ _ => rfl) (fun _ _ => rfl) (fun v1 W2 => (4, ([lR 0], ([], (mSH W2.1 W2.2.1, (W2.2.2.1, W2.2.2.2)))))) (fun _ _ => rfl) fun v1 W2 => ?_
  refine sm_go 3 (s' := (11, ([lR 0], ([sI (W2.2.2.1 1 0)], (mSH W2.1 W2.2.1, (W2.2.2.1, W2.2.2.2)))))) ?_ rfl
  refine sm_if1n (t := (ieq (W2.2.2.1 1 0) 0)) (pt := 16) rfl rfl rfl (fun _ => ?_) (fun _ => ?_)
  · refine sm_go 1 (s' := (15, ([lR 0], ([sD FP.dconst0], (mSH W2.1 W2.2.1, (W2.2.2.1, W2.2.2.2)))))) ?_ rfl
    exact sm_retD rfl rfl
  · refine sm_go 3 (s' := (21, ([lR 0], ([sI 1, sR 17], (mSH W2.1 W2.2.1, (W2.2.2.1, W2.2.2.2)))))) ?_ rfl
    refine sm_callG (rest := []) (T_X8_aimed_17 scr d W2.1 W2.2.1 W2.2.2.2 W2.2.2.1 1) rfl (Or.inl rfl) rfl rfl rfl rfl (fun _ => rfl) (fun v3 => (24, ([lR 0], ([sI v3], (mSH W2.1 W2.2.1, (W2.2.2.1, W2.2.2.2)))))) (fun _ => rfl) fun v3 => ?_
    refine sm_go 5 (s' := (33, ([lR 0], ([sD (FP.i2d (Int32.ofInt (W2.2.2.1 1 0))), sD (FP.i2d (Int32.ofInt v3))], (mSH W2.1 W2.2.1, (W2.2.2.1, W2.2.2.2)))))) ?_ rfl
    refine sm_ddv rfl fun v4 => ?_
    exact sm_retD rfl rfl
noncomputable def P_L_meanEnd (W : mW) : Option ((Int ⊕ Nat) × mW) :=
ctcB (P_X10_meanEnd W) (fun v1 W2 =>
(dst W2.2.2.1 75 1 0 v1).bind fun G4 =>
some (.inl 0, (W2.1, (W2.2.1, (G4, W2.2.2.2))))) (fun _ => none) (fun _ => none) (fun W3 =>
some (.inl 1, W3))
set_option maxRecDepth 100000 in
theorem T_L_meanEnd (scr : mScr) (d : Nat) (W : mW)  : SimC scr (d + 6) 275 [sR 0, sR 75] (mkM W) (e2I) (P_L_meanEnd W) := by
  refine sm_callX (cs := mc_L_meanEnd) (maxL := 3) (rk := 0) (o := 112) (hs := [(0, (7, (10, 2)))]) (d := d + 5) [lR 0, lR 75, none] rfl rfl rfl rfl ?_
  unfold P_L_meanEnd
  refine sm_go 3 (s' := (3, ([lR 0, lR 75, none], ([sR 0, sI 0, sR 75], (mSH W.1 W.2.1, (W.2.2.1, W.2.2.2)))))) ?_ rfl
  refine sm_ctc (rest := [sI 0, sR 75]) (T_X10_meanEnd scr d W) rfl (Or.inl rfl) rfl rfl rfl rfl (fun _ _ => rfl) (fun v1 W2 => (6, ([lR 0, lR 75, none], ([sD v1, sI 0, sR 75], (mSH W2.1 W2.2.1, (W2.2.2.1, W2.2.2.2)))))) (fun _ _ => rfl) (fun v1 W2 => ?_) (Or.inr rfl) (Or.inr rfl) (Or.inl ⟨10, rfl, fun W3 => ?_⟩)
  · refine sm_dst rfl rfl fun G4 => ?_
    refine sm_go 1 (s' := (13, ([lR 0, lR 75, none], ([], (mSH W2.1 W2.2.1, (G4, W2.2.2.2)))))) ?_ rfl
    refine sm_go 1 (s' := (14, ([lR 0, lR 75, none], ([sI 0], (mSH W2.1 W2.2.1, (G4, W2.2.2.2)))))) ?_ rfl
    exact sm_retI rfl rfl rfl
  · refine sm_go 2 (s' := (12, ([lR 0, lR 75, lO], ([sI 1], (mSH W3.1 W3.2.1, (W3.2.2.1, W3.2.2.2)))))) ?_ rfl
    exact sm_retI rfl rfl rfl
