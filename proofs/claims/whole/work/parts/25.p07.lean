/-! ===== programs as functions, 25 7: printed by wip/whole/gen/gen_p_out.py ===== -/
def P_X11_stepAt (p1 : Int) (p2 : Int) (p3 : Int) (G : mG) : Option (Int × mG) :=
(P_X11_isStep p1 p2 G).bind fun v4 =>
(P_X11_in p3 0 1).bind fun v5 =>
(P_X11_fits (b2i v4) (b2i v5) 1 G).bind fun z6 =>
bif z6.1 then
(P_X11_of p1 ((5 + (2 * p2)) + p3) z6.2).bind fun v7 =>
some (v7, z6.2)
else
some (0, z6.2)
set_option maxRecDepth 100000 in
theorem T_X11_stepAt (scr : mScr) (d : Nat) (r : List (Option Nat)) (tl : List mSh) (nk : Nat × Nat) (G : mG)  (p1 : Int) (p2 : Int) (p3 : Int) : SimC scr (d + 4) 189 [sR 56, sI p1, sI p2, sI p3] (mSH r tl, (G, nk)) (e1I r tl nk) (P_X11_stepAt p1 p2 p3 G) := by
  refine sm_callX (cs := mc_X11_stepAt) (maxL := 4) (rk := 0) (o := 11) (hs := []) (d := d + 3) [lR 56, lI p1, lI p2, lI p3] rfl rfl rfl rfl ?_
  unfold P_X11_stepAt
  refine sm_go 4 (s' := (4, ([lR 56, lI p1, lI p2, lI p3], ([sI p2, sI p1, sR 56, sR 56], (mSH r tl, (G, nk)))))) ?_ rfl
  refine sm_callG (rest := [sR 56]) (T_X11_isStep scr d r tl nk G p1 p2) rfl (Or.inl rfl) rfl rfl rfl rfl (fun _ => rfl) (fun v4 => (7, ([lR 56, lI p1, lI p2, lI p3], ([sI (b2i v4), sR 56], (mSH r tl, (G, nk)))))) (fun _ => rfl) fun v4 => ?_
  refine sm_go 3 (s' := (10, ([lR 56, lI p1, lI p2, lI p3], ([sI 1, sI 0, sI p3, sI (b2i v4), sR 56], (mSH r tl, (G, nk)))))) ?_ rfl
  refine sm_callG (rest := [sI (b2i v4), sR 56]) (T_X11_in scr (d + 2) r tl nk G p3 0 1) rfl (Or.inr (Or.inl rfl)) rfl rfl rfl rfl (fun _ => rfl) (fun v5 => (13, ([lR 56, lI p1, lI p2, lI p3], ([sI (b2i v5), sI (b2i v4), sR 56], (mSH r tl, (G, nk)))))) (fun _ => rfl) fun v5 => ?_
  refine sm_go 1 (s' := (14, ([lR 56, lI p1, lI p2, lI p3], ([sI 1, sI (b2i v5), sI (b2i v4), sR 56], (mSH r tl, (G, nk)))))) ?_ rfl
  refine sm_callG (rest := []) (T_X11_fits scr (d + 2) r tl nk G (b2i v4) (b2i v5) 1) rfl (Or.inl rfl) rfl rfl rfl rfl (fun _ => rfl) (fun z6 => (17, ([lR 56, lI p1, lI p2, lI p3], ([sI (b2i z6.1)], (mSH r tl, (z6.2, nk)))))) (fun _ => rfl) fun z6 => ?_
  refine sm_if1 (t := z6.1) (pt := 22) (mCmpB_ne z6.1) rfl rfl (fun _ => ?_) (fun _ => ?_)
  · refine sm_go 9 (s' := (31, ([lR 56, lI p1, lI p2, lI p3], ([sI ((5 + (2 * p2)) + p3), sI p1, sR 56], (mSH r tl, (z6.2, nk)))))) ?_ rfl
    refine sm_callG (rest := []) (T_X11_of scr (d + 2) r tl nk z6.2 p1 ((5 + (2 * p2)) + p3)) rfl (Or.inl rfl) rfl rfl rfl rfl (fun _ => rfl) (fun v7 => (34, ([lR 56, lI p1, lI p2, lI p3], ([sI v7], (mSH r tl, (z6.2, nk)))))) (fun _ => rfl) fun v7 => ?_
    exact sm_retI rfl rfl rfl
  · refine sm_go 1 (s' := (21, ([lR 56, lI p1, lI p2, lI p3], ([sI 0], (mSH r tl, (z6.2, nk)))))) ?_ rfl
    exact sm_retI rfl rfl rfl
noncomputable def P_X10_begin (p1 : Int) (p2 : Int) (W : mW) : Option ((Int ⊕ Nat) × mW) :=
thrB (P_X10_needStep p1 p2 W) fun v3 W4 =>
thrB (P_X10_needPlan W4) fun v5 W6 =>
(ald W6.2.2.1 22 30 ((p1 * 5) + p2)).bind fun v7 =>
some (.inl v7, W6)
set_option maxRecDepth 100000 in
theorem T_X10_begin (scr : mScr) (d : Nat) (W : mW)  (p1 : Int) (p2 : Int) : SimC scr (d + 3) 92 [sR 0, sI p1, sI p2] (mkM W) (e2I) (P_X10_begin p1 p2 W) := by
  refine sm_callX (cs := mc_X10_begin) (maxL := 3) (rk := 0) (o := 10) (hs := []) (d := d + 2) [lR 0, lI p1, lI p2] rfl rfl rfl rfl ?_
  unfold P_X10_begin
  refine sm_go 3 (s' := (3, ([lR 0, lI p1, lI p2], ([sI p2, sI p1, sR 0], (mSH W.1 W.2.1, (W.2.2.1, W.2.2.2)))))) ?_ rfl
  refine sm_thr (rest := []) (T_X10_needStep scr d W p1 p2) rfl (Or.inl rfl) rfl rfl rfl rfl (fun _ _ => rfl) (fun _ _ => rfl) (fun v3 W4 => (6, ([lR 0, lI p1, lI p2], ([], (mSH W4.1 W4.2.1, (W4.2.2.1, W4.2.2.2)))))) (fun _ _ => rfl) fun v3 W4 => ?_
  refine sm_go 1 (s' := (7, ([lR 0, lI p1, lI p2], ([sR 0], (mSH W4.1 W4.2.1, (W4.2.2.1, W4.2.2.2)))))) ?_ rfl
  refine sm_thr (rest := []) (T_X10_needPlan scr (d + 1) W4) rfl (Or.inl rfl) rfl rfl rfl rfl (fun _ _ => rfl) (fun _ _ => rfl) (fun v5 W6 => (10, ([lR 0, lI p1, lI p2], ([], (mSH W6.1 W6.2.1, (W6.2.2.1, W6.2.2.2)))))) (fun _ _ => rfl) fun v5 W6 => ?_
  refine sm_go 8 (s' := (22, ([lR 0, lI p1, lI p2], ([sI ((p1 * 5) + p2), sR 22], (mSH W6.1 W6.2.1, (W6.2.2.1, W6.2.2.2)))))) ?_ rfl
  refine sm_ald rfl rfl fun v7 => ?_
  exact sm_retI rfl rfl rfl
noncomputable def P_L_begin (p1 : Int) (p2 : Int) (W : mW) : Option ((Int ⊕ Nat) × mW) :=
ctcB (P_X10_begin p1 p2 W) (fun v3 W4 =>
(ast W4.2.2.1 74 1 0 (w32 v3)).bind fun G7 =>
some (.inl 0, (W4.1, (W4.2.1, (G7, W4.2.2.2))))) (fun W5 =>
some (.inl 1, W5)) (fun _ => none) (fun W6 =>
some (.inl 2, W6))
set_option maxRecDepth 100000 in
theorem T_L_begin (scr : mScr) (d : Nat) (W : mW)  (p1 : Int) (p2 : Int) : SimC scr (d + 4) 257 [sR 0, sI p1, sI p2, sR 74] (mkM W) (e2I) (P_L_begin p1 p2 W) := by
  refine sm_callX (cs := mc_L_begin) (maxL := 5) (rk := 0) (o := 112) (hs := [(0, (10, (13, 0))), (0, (10, (17, 2)))]) (d := d + 3) [lR 0, lI p1, lI p2, lR 74, none] rfl rfl rfl rfl ?_
  unfold P_L_begin
  refine sm_go 5 (s' := (5, ([lR 0, lI p1, lI p2, lR 74, none], ([sI p2, sI p1, sR 0, sI 0, sR 74], (mSH W.1 W.2.1, (W.2.2.1, W.2.2.2)))))) ?_ rfl
  refine sm_ctc (rest := [sI 0, sR 74]) (T_X10_begin scr d W p1 p2) rfl (Or.inl rfl) rfl rfl rfl rfl (fun _ _ => rfl) (fun v3 W4 => (8, ([lR 0, lI p1, lI p2, lR 74, none], ([sI v3, sI 0, sR 74], (mSH W4.1 W4.2.1, (W4.2.2.1, W4.2.2.2)))))) (fun _ _ => rfl) (fun v3 W4 => ?_) (Or.inl ⟨13, rfl, fun W5 => ?_⟩) (Or.inr rfl) (Or.inl ⟨17, rfl, fun W6 => ?_⟩)
  · refine sm_go 1 (s' := (9, ([lR 0, lI p1, lI p2, lR 74, none], ([sL (w32 v3), sI 0, sR 74], (mSH W4.1 W4.2.1, (W4.2.2.1, W4.2.2.2)))))) ?_ rfl
    refine sm_lst rfl rfl fun G7 => ?_
    refine sm_go 1 (s' := (21, ([lR 0, lI p1, lI p2, lR 74, none], ([], (mSH W4.1 W4.2.1, (G7, W4.2.2.2)))))) ?_ rfl
    refine sm_go 1 (s' := (22, ([lR 0, lI p1, lI p2, lR 74, none], ([sI 0], (mSH W4.1 W4.2.1, (G7, W4.2.2.2)))))) ?_ rfl
    exact sm_retI rfl rfl rfl
  · refine sm_go 2 (s' := (16, ([lR 0, lI p1, lI p2, lR 74, lO], ([sI 1], (mSH W5.1 W5.2.1, (W5.2.2.1, W5.2.2.2)))))) ?_ rfl
    exact sm_retI rfl rfl rfl
  · refine sm_go 2 (s' := (20, ([lR 0, lI p1, lI p2, lR 74, lO], ([sI 2], (mSH W6.1 W6.2.1, (W6.2.2.1, W6.2.2.2)))))) ?_ rfl
    exact sm_retI rfl rfl rfl
def P_X11_isPlanned (G : mG) : Option (Bool × mG) :=
(P_X11_hasPlan G).bind fun v1 =>
letK (fun (G2 : mG) =>
some (false, G2)) fun k4 =>
bif v1 then
(P_X11_works G).bind fun z5 =>
bif z5.1 then
some (true, z5.2)
else
k4 z5.2
else
k4 G
set_option maxRecDepth 100000 in
theorem T_X11_isPlanned (scr : mScr) (d : Nat) (r : List (Option Nat)) (tl : List mSh) (nk : Nat × Nat) (G : mG)  : SimC scr (d + 6) 190 [sR 56] (mSH r tl, (G, nk)) (e1B r tl nk) (P_X11_isPlanned G) := by
  refine sm_callX (cs := mc_X11_isPlanned) (maxL := 1) (rk := 1) (o := 11) (hs := []) (d := d + 5) [lR 56] rfl rfl rfl rfl ?_
  unfold P_X11_isPlanned
  refine sm_go 1 (s' := (1, ([lR 56], ([sR 56], (mSH r tl, (G, nk)))))) ?_ rfl
  refine sm_callG (rest := []) (T_X11_hasPlan scr (d + 4) r tl nk G) rfl (Or.inl rfl) rfl rfl rfl rfl (fun _ => rfl) (fun v1 => (4, ([lR 56], ([sI (b2i v1)], (mSH r tl, (G, nk)))))) (fun _ => rfl) fun v1 => ?_
  refine sm_letK1 (S := fun (g3 : Unit) (G2 : mG) => (18, ([lR 56], ([], (mSH r tl, (G2, nk)))))) ?_ ?_
  · intro g3 G2
    refine sm_go 1 (s' := (19, ([lR 56], ([sI 0], (mSH r tl, (G2, nk)))))) ?_ rfl
    exact sm_retB1 (b := false) rfl rfl
  · intro k4 hk4
    refine sm_if1n (t := v1) (pt := 18) (mCmpB_eq v1) rfl rfl (fun _ => ?_) (fun _ => ?_)
    · refine sm_go 1 (s' := (8, ([lR 56], ([sR 56], (mSH r tl, (G, nk)))))) ?_ rfl
      refine sm_callG (rest := []) (T_X11_works scr d r tl nk G) rfl (Or.inl rfl) rfl rfl rfl rfl (fun _ => rfl) (fun z5 => (11, ([lR 56], ([sI (b2i z5.1)], (mSH r tl, (z5.2, nk)))))) (fun _ => rfl) fun z5 => ?_
      refine sm_if1n (t := z5.1) (pt := 18) (mCmpB_eq z5.1) rfl rfl (fun _ => ?_) (fun _ => ?_)
      · refine sm_go 2 (s' := (19, ([lR 56], ([sI 1], (mSH r tl, (z5.2, nk)))))) ?_ rfl
        exact sm_retB1 (b := true) rfl rfl
      · exact hk4 () z5.2
    · exact hk4 () G
def P_X11_begin (p1 : Int) (p2 : Int) (G : mG) : Option (Int × mG) :=
(P_X11_isStep p1 p2 G).bind fun v3 =>
(P_X11_isPlanned G).bind fun z4 =>
(P_X11_fits (b2i v3) (b2i z4.1) 1 z4.2).bind fun z5 =>
bif z5.1 then
(ald z5.2 59 30 ((p1 * 5) + p2)).bind fun v6 =>
some (v6, z5.2)
else
some (0, z5.2)
set_option maxRecDepth 100000 in
theorem T_X11_begin (scr : mScr) (d : Nat) (r : List (Option Nat)) (tl : List mSh) (nk : Nat × Nat) (G : mG)  (p1 : Int) (p2 : Int) : SimC scr (d + 7) 191 [sR 56, sI p1, sI p2] (mSH r tl, (G, nk)) (e1I r tl nk) (P_X11_begin p1 p2 G) := by
  refine sm_callX (cs := mc_X11_begin) (maxL := 3) (rk := 0) (o := 11) (hs := []) (d := d + 6) [lR 56, lI p1, lI p2] rfl rfl rfl rfl ?_
  unfold P_X11_begin
  refine sm_go 4 (s' := (4, ([lR 56, lI p1, lI p2], ([sI p2, sI p1, sR 56, sR 56], (mSH r tl, (G, nk)))))) ?_ rfl
  refine sm_callG (rest := [sR 56]) (T_X11_isStep scr (d + 3) r tl nk G p1 p2) rfl (Or.inl rfl) rfl rfl rfl rfl (fun _ => rfl) (fun v3 => (7, ([lR 56, lI p1, lI p2], ([sI (b2i v3), sR 56], (mSH r tl, (G, nk)))))) (fun _ => rfl) fun v3 => ?_
  refine sm_go 1 (s' := (8, ([lR 56, lI p1, lI p2], ([sR 56, sI (b2i v3), sR 56], (mSH r tl, (G, nk)))))) ?_ rfl
  refine sm_callG (rest := [sI (b2i v3), sR 56]) (T_X11_isPlanned scr d r tl nk G) rfl (Or.inl rfl) rfl rfl rfl rfl (fun _ => rfl) (fun z4 => (11, ([lR 56, lI p1, lI p2], ([sI (b2i z4.1), sI (b2i v3), sR 56], (mSH r tl, (z4.2, nk)))))) (fun _ => rfl) fun z4 => ?_
  refine sm_go 1 (s' := (12, ([lR 56, lI p1, lI p2], ([sI 1, sI (b2i z4.1), sI (b2i v3), sR 56], (mSH r tl, (z4.2, nk)))))) ?_ rfl
  refine sm_callG (rest := []) (T_X11_fits scr (d + 5) r tl nk z4.2 (b2i v3) (b2i z4.1) 1) rfl (Or.inl rfl) rfl rfl rfl rfl (fun _ => rfl) (fun z5 => (15, ([lR 56, lI p1, lI p2], ([sI (b2i z5.1)], (mSH r tl, (z5.2, nk)))))) (fun _ => rfl) fun z5 => ?_
  refine sm_if1n (t := z5.1) (pt := 31) (mCmpB_eq z5.1) rfl rfl (fun _ => ?_) (fun _ => ?_)
  · refine sm_go 7 (s' := (27, ([lR 56, lI p1, lI p2], ([sI ((p1 * 5) + p2), sR 59], (mSH r tl, (z5.2, nk)))))) ?_ rfl
    refine sm_ald rfl rfl fun v6 => ?_
    refine sm_go 1 (s' := (32, ([lR 56, lI p1, lI p2], ([sI v6], (mSH r tl, (z5.2, nk)))))) ?_ rfl
    exact sm_retI rfl rfl rfl
  · refine sm_go 1 (s' := (32, ([lR 56, lI p1, lI p2], ([sI 0], (mSH r tl, (z5.2, nk)))))) ?_ rfl
    exact sm_retI rfl rfl rfl
noncomputable def P_X10_endOf (p1 : Int) (W : mW) : Option ((Int ⊕ Nat) × mW) :=
thrB (P_X10_needJob p1 W) fun v2 W3 =>
thrB (P_X10_needPlan W3) fun v4 W5 =>
(P_X8_leastEndOf 17 p1 W5.2.2.1).bind fun v6 =>
some (.inl v6, W5)
set_option maxRecDepth 100000 in
theorem T_X10_endOf (scr : mScr) (d : Nat) (W : mW)  (p1 : Int) : SimC scr (d + 4) 93 [sR 0, sI p1] (mkM W) (e2I) (P_X10_endOf p1 W) := by
  refine sm_callX (cs := mc_X10_endOf) (maxL := 2) (rk := 0) (o := 10) (hs := []) (d := d + 3) [lR 0, lI p1] rfl rfl rfl rfl ?_
  unfold P_X10_endOf
  refine sm_go 2 (s' := (2, ([lR 0, lI p1], ([sI p1, sR 0], (mSH W.1 W.2.1, (W.2.2.1, W.2.2.2)))))) ?_ rfl
  refine sm_thr (rest := []) (T_X10_needJob scr (d + 2) W p1) rfl (Or.inl rfl) rfl rfl rfl rfl (fun _ _ => rfl) (fun _ _ => rfl) (fun v2 W3 => (5, ([lR 0, lI p1], ([], (mSH W3.1 W3.2.1, (W3.2.2.1, W3.2.2.2)))))) (fun _ _ => rfl) fun v2 W3 => ?_
  refine sm_go 1 (s' := (6, ([lR 0, lI p1], ([sR 0], (mSH W3.1 W3.2.1, (W3.2.2.1, W3.2.2.2)))))) ?_ rfl
  refine sm_thr (rest := []) (T_X10_needPlan scr (d + 2) W3) rfl (Or.inl rfl) rfl rfl rfl rfl (fun _ _ => rfl) (fun _ _ => rfl) (fun v4 W5 => (9, ([lR 0, lI p1], ([], (mSH W5.1 W5.2.1, (W5.2.2.1, W5.2.2.2)))))) (fun _ _ => rfl) fun v4 W5 => ?_
  refine sm_go 3 (s' := (14, ([lR 0, lI p1], ([sI p1, sR 17], (mSH W5.1 W5.2.1, (W5.2.2.1, W5.2.2.2)))))) ?_ rfl
  refine sm_callG (rest := []) (T_X8_leastEndOf_17 scr d W5.1 W5.2.1 W5.2.2.2 W5.2.2.1 p1) rfl (Or.inl rfl) rfl rfl rfl rfl (fun _ => rfl) (fun v6 => (17, ([lR 0, lI p1], ([sI v6], (mSH W5.1 W5.2.1, (W5.2.2.1, W5.2.2.2)))))) (fun _ => rfl) fun v6 => ?_
  exact sm_retI rfl rfl rfl
noncomputable def P_L_endOf (p1 : Int) (W : mW) : Option ((Int ⊕ Nat) × mW) :=
ctcB (P_X10_endOf p1 W) (fun v2 W3 =>
(ast W3.2.2.1 74 1 0 (w32 v2)).bind fun G6 =>
some (.inl 0, (W3.1, (W3.2.1, (G6, W3.2.2.2))))) (fun W4 =>
some (.inl 1, W4)) (fun _ => none) (fun W5 =>
some (.inl 2, W5))
set_option maxRecDepth 100000 in
theorem T_L_endOf (scr : mScr) (d : Nat) (W : mW)  (p1 : Int) : SimC scr (d + 5) 258 [sR 0, sI p1, sR 74] (mkM W) (e2I) (P_L_endOf p1 W) := by
  refine sm_callX (cs := mc_L_endOf) (maxL := 4) (rk := 0) (o := 112) (hs := [(0, (9, (12, 0))), (0, (9, (15, 2)))]) (d := d + 4) [lR 0, lI p1, lR 74, none] rfl rfl rfl rfl ?_
  unfold P_L_endOf
  refine sm_go 4 (s' := (4, ([lR 0, lI p1, lR 74, none], ([sI p1, sR 0, sI 0, sR 74], (mSH W.1 W.2.1, (W.2.2.1, W.2.2.2)))))) ?_ rfl
  refine sm_ctc (rest := [sI 0, sR 74]) (T_X10_endOf scr d W p1) rfl (Or.inl rfl) rfl rfl rfl rfl (fun _ _ => rfl) (fun v2 W3 => (7, ([lR 0, lI p1, lR 74, none], ([sI v2, sI 0, sR 74], (mSH W3.1 W3.2.1, (W3.2.2.1, W3.2.2.2)))))) (fun _ _ => rfl) (fun v2 W3 => ?_) (Or.inl ⟨12, rfl, fun W4 => ?_⟩) (Or.inr rfl) (Or.inl ⟨15, rfl, fun W5 => ?_⟩)
  · refine sm_go 1 (s' := (8, ([lR 0, lI p1, lR 74, none], ([sL (w32 v2), sI 0, sR 74], (mSH W3.1 W3.2.1, (W3.2.2.1, W3.2.2.2)))))) ?_ rfl
    refine sm_lst rfl rfl fun G6 => ?_
    refine sm_go 1 (s' := (18, ([lR 0, lI p1, lR 74, none], ([], (mSH W3.1 W3.2.1, (G6, W3.2.2.2)))))) ?_ rfl
    refine sm_go 1 (s' := (19, ([lR 0, lI p1, lR 74, none], ([sI 0], (mSH W3.1 W3.2.1, (G6, W3.2.2.2)))))) ?_ rfl
    exact sm_retI rfl rfl rfl
  · refine sm_go 2 (s' := (14, ([lR 0, lI p1, lR 74, lO], ([sI 1], (mSH W4.1 W4.2.1, (W4.2.2.1, W4.2.2.2)))))) ?_ rfl
    exact sm_retI rfl rfl rfl
  · refine sm_go 2 (s' := (17, ([lR 0, lI p1, lR 74, lO], ([sI 2], (mSH W5.1 W5.2.1, (W5.2.2.1, W5.2.2.2)))))) ?_ rfl
    exact sm_retI rfl rfl rfl
def P_X11_endOf (p1 : Int) (G : mG) : Option (Int × mG) :=
(P_X11_isJob p1 G).bind fun v2 =>
(P_X11_isPlanned G).bind fun z3 =>
(P_X11_fits (b2i v2) (b2i z3.1) 1 z3.2).bind fun z4 =>
bif z4.1 then
(ald z4.2 61 6 p1).bind fun v5 =>
some (v5, z4.2)
else
some (0, z4.2)
set_option maxRecDepth 100000 in
theorem T_X11_endOf (scr : mScr) (d : Nat) (r : List (Option Nat)) (tl : List mSh) (nk : Nat × Nat) (G : mG)  (p1 : Int) : SimC scr (d + 7) 192 [sR 56, sI p1] (mSH r tl, (G, nk)) (e1I r tl nk) (P_X11_endOf p1 G) := by
  refine sm_callX (cs := mc_X11_endOf) (maxL := 2) (rk := 0) (o := 11) (hs := []) (d := d + 6) [lR 56, lI p1] rfl rfl rfl rfl ?_
  unfold P_X11_endOf
  refine sm_go 3 (s' := (3, ([lR 56, lI p1], ([sI p1, sR 56, sR 56], (mSH r tl, (G, nk)))))) ?_ rfl
  refine sm_callG (rest := [sR 56]) (T_X11_isJob scr (d + 4) r tl nk G p1) rfl (Or.inl rfl) rfl rfl rfl rfl (fun _ => rfl) (fun v2 => (6, ([lR 56, lI p1], ([sI (b2i v2), sR 56], (mSH r tl, (G, nk)))))) (fun _ => rfl) fun v2 => ?_
  refine sm_go 1 (s' := (7, ([lR 56, lI p1], ([sR 56, sI (b2i v2), sR 56], (mSH r tl, (G, nk)))))) ?_ rfl
  refine sm_callG (rest := [sI (b2i v2), sR 56]) (T_X11_isPlanned scr d r tl nk G) rfl (Or.inl rfl) rfl rfl rfl rfl (fun _ => rfl) (fun z3 => (10, ([lR 56, lI p1], ([sI (b2i z3.1), sI (b2i v2), sR 56], (mSH r tl, (z3.2, nk)))))) (fun _ => rfl) fun z3 => ?_
  refine sm_go 1 (s' := (11, ([lR 56, lI p1], ([sI 1, sI (b2i z3.1), sI (b2i v2), sR 56], (mSH r tl, (z3.2, nk)))))) ?_ rfl
  refine sm_callG (rest := []) (T_X11_fits scr (d + 5) r tl nk z3.2 (b2i v2) (b2i z3.1) 1) rfl (Or.inl rfl) rfl rfl rfl rfl (fun _ => rfl) (fun z4 => (14, ([lR 56, lI p1], ([sI (b2i z4.1)], (mSH r tl, (z4.2, nk)))))) (fun _ => rfl) fun z4 => ?_
  refine sm_if1n (t := z4.1) (pt := 26) (mCmpB_eq z4.1) rfl rfl (fun _ => ?_) (fun _ => ?_)
  · refine sm_go 3 (s' := (22, ([lR 56, lI p1], ([sI p1, sR 61], (mSH r tl, (z4.2, nk)))))) ?_ rfl
    refine sm_ald rfl rfl fun v5 => ?_
    refine sm_go 1 (s' := (27, ([lR 56, lI p1], ([sI v5], (mSH r tl, (z4.2, nk)))))) ?_ rfl
    exact sm_retI rfl rfl rfl
  · refine sm_go 1 (s' := (27, ([lR 56, lI p1], ([sI 0], (mSH r tl, (z4.2, nk)))))) ?_ rfl
    exact sm_retI rfl rfl rfl
noncomputable def P_X10_value (p1 : Int) (W : mW) : Option ((Int ⊕ Nat) × mW) :=
thrB (P_X10_needAim p1 W) fun v2 W3 =>
thrB (P_X10_needPlan W3) fun v4 W5 =>
(P_X8_aimed 17 p1 W5.2.2.1).bind fun v6 =>
some (.inl v6, W5)
set_option maxRecDepth 100000 in
theorem T_X10_value (scr : mScr) (d : Nat) (W : mW)  (p1 : Int) : SimC scr (d + 5) 94 [sR 0, sI p1] (mkM W) (e2I) (P_X10_value p1 W) := by
  refine sm_callX (cs := mc_X10_value) (maxL := 2) (rk := 0) (o := 10) (hs := []) (d := d + 4) [lR 0, lI p1] rfl rfl rfl rfl ?_
  unfold P_X10_value
  refine sm_go 1 (s' := (1, ([lR 0, lI p1], ([sI p1], (mSH W.1 W.2.1, (W.2.2.1, W.2.2.2)))))) ?_ rfl
  refine sm_thr (rest := []) (T_X10_needAim scr (d + 2) W p1) rfl (Or.inr (Or.inl rfl)) rfl rfl rfl rfl (fun _ _ => rfl) (fun _ _ => rfl) (fun v2 W3 => (4, ([lR 0, lI p1], ([], (mSH W3.1 W3.2.1, (W3.2.2.1, W3.2.2.2)))))) (fun _ _ => rfl) fun v2 W3 => ?_
  refine sm_go 1 (s' := (5, ([lR 0, lI p1], ([sR 0], (mSH W3.1 W3.2.1, (W3.2.2.1, W3.2.2.2)))))) ?_ rfl
  refine sm_thr (rest := []) (T_X10_needPlan scr (d + 3) W3) rfl (Or.inl rfl) rfl rfl rfl rfl (fun _ _ => rfl) (fun _ _ => rfl) (fun v4 W5 => (8, ([lR 0, lI p1], ([], (mSH W5.1 W5.2.1, (W5.2.2.1, W5.2.2.2)))))) (fun _ _ => rfl) fun v4 W5 => ?_
  refine sm_go 3 (s' := (13, ([lR 0, lI p1], ([sI p1, sR 17], (mSH W5.1 W5.2.1, (W5.2.2.1, W5.2.2.2)))))) ?_ rfl
  refine sm_callG (rest := []) (T_X8_aimed_17 scr d W5.1 W5.2.1 W5.2.2.2 W5.2.2.1 p1) rfl (Or.inl rfl) rfl rfl rfl rfl (fun _ => rfl) (fun v6 => (16, ([lR 0, lI p1], ([sI v6], (mSH W5.1 W5.2.1, (W5.2.2.1, W5.2.2.2)))))) (fun _ => rfl) fun v6 => ?_
  exact sm_retI rfl rfl rfl
noncomputable def P_L_value (p1 : Int) (W : mW) : Option ((Int ⊕ Nat) × mW) :=
ctcB (P_X10_value p1 W) (fun v2 W3 =>
(ast W3.2.2.1 74 1 0 (w32 v2)).bind fun G6 =>
some (.inl 0, (W3.1, (W3.2.1, (G6, W3.2.2.2))))) (fun _ => none) (fun W4 =>
some (.inl 1, W4)) (fun W5 =>
some (.inl 2, W5))
set_option maxRecDepth 100000 in
theorem T_L_value (scr : mScr) (d : Nat) (W : mW)  (p1 : Int) : SimC scr (d + 6) 259 [sR 0, sI p1, sR 74] (mkM W) (e2I) (P_L_value p1 W) := by
  refine sm_callX (cs := mc_L_value) (maxL := 4) (rk := 0) (o := 112) (hs := [(0, (9, (12, 1))), (0, (9, (15, 2)))]) (d := d + 5) [lR 0, lI p1, lR 74, none] rfl rfl rfl rfl ?_
  unfold P_L_value
  refine sm_go 4 (s' := (4, ([lR 0, lI p1, lR 74, none], ([sI p1, sR 0, sI 0, sR 74], (mSH W.1 W.2.1, (W.2.2.1, W.2.2.2)))))) ?_ rfl
  refine sm_ctc (rest := [sI 0, sR 74]) (T_X10_value scr d W p1) rfl (Or.inl rfl) rfl rfl rfl rfl (fun _ _ => rfl) (fun v2 W3 => (7, ([lR 0, lI p1, lR 74, none], ([sI v2, sI 0, sR 74], (mSH W3.1 W3.2.1, (W3.2.2.1, W3.2.2.2)))))) (fun _ _ => rfl) (fun v2 W3 => ?_) (Or.inr rfl) (Or.inl ⟨12, rfl, fun W4 => ?_⟩) (Or.inl ⟨15, rfl, fun W5 => ?_⟩)
  · refine sm_go 1 (s' := (8, ([lR 0, lI p1, lR 74, none], ([sL (w32 v2), sI 0, sR 74], (mSH W3.1 W3.2.1, (W3.2.2.1, W3.2.2.2)))))) ?_ rfl
    refine sm_lst rfl rfl fun G6 => ?_
    refine sm_go 1 (s' := (18, ([lR 0, lI p1, lR 74, none], ([], (mSH W3.1 W3.2.1, (G6, W3.2.2.2)))))) ?_ rfl
    refine sm_go 1 (s' := (19, ([lR 0, lI p1, lR 74, none], ([sI 0], (mSH W3.1 W3.2.1, (G6, W3.2.2.2)))))) ?_ rfl
    exact sm_retI rfl rfl rfl
  · refine sm_go 2 (s' := (14, ([lR 0, lI p1, lR 74, lO], ([sI 1], (mSH W4.1 W4.2.1, (W4.2.2.1, W4.2.2.2)))))) ?_ rfl
    exact sm_retI rfl rfl rfl
  · refine sm_go 2 (s' := (17, ([lR 0, lI p1, lR 74, lO], ([sI 2], (mSH W5.1 W5.2.1, (W5.2.2.1, W5.2.2.2)))))) ?_ rfl
    exact sm_retI rfl rfl rfl
def P_X11_value (p1 : Int) (G : mG) : Option (Int × mG) :=
(P_X11_in p1 0 4).bind fun v2 =>
(P_X11_isPlanned G).bind fun z3 =>
(P_X11_fits (b2i v2) (b2i z3.1) 1 z3.2).bind fun z4 =>
bif z4.1 then
(P_X11_valueOf p1 z4.2).bind fun v5 =>
some (v5, z4.2)
else
some (0, z4.2)
set_option maxRecDepth 100000 in
theorem T_X11_value (scr : mScr) (d : Nat) (r : List (Option Nat)) (tl : List mSh) (nk : Nat × Nat) (G : mG)  (p1 : Int) : SimC scr (d + 7) 193 [sR 56, sI p1] (mSH r tl, (G, nk)) (e1I r tl nk) (P_X11_value p1 G) := by
  refine sm_callX (cs := mc_X11_value) (maxL := 2) (rk := 0) (o := 11) (hs := []) (d := d + 6) [lR 56, lI p1] rfl rfl rfl rfl ?_
  unfold P_X11_value
  refine sm_go 4 (s' := (4, ([lR 56, lI p1], ([sI 4, sI 0, sI p1, sR 56], (mSH r tl, (G, nk)))))) ?_ rfl
  refine sm_callG (rest := [sR 56]) (T_X11_in scr (d + 5) r tl nk G p1 0 4) rfl (Or.inr (Or.inl rfl)) rfl rfl rfl rfl (fun _ => rfl) (fun v2 => (7, ([lR 56, lI p1], ([sI (b2i v2), sR 56], (mSH r tl, (G, nk)))))) (fun _ => rfl) fun v2 => ?_
  refine sm_go 1 (s' := (8, ([lR 56, lI p1], ([sR 56, sI (b2i v2), sR 56], (mSH r tl, (G, nk)))))) ?_ rfl
  refine sm_callG (rest := [sI (b2i v2), sR 56]) (T_X11_isPlanned scr d r tl nk G) rfl (Or.inl rfl) rfl rfl rfl rfl (fun _ => rfl) (fun z3 => (11, ([lR 56, lI p1], ([sI (b2i z3.1), sI (b2i v2), sR 56], (mSH r tl, (z3.2, nk)))))) (fun _ => rfl) fun z3 => ?_
  refine sm_go 1 (s' := (12, ([lR 56, lI p1], ([sI 1, sI (b2i z3.1), sI (b2i v2), sR 56], (mSH r tl, (z3.2, nk)))))) ?_ rfl
  refine sm_callG (rest := []) (T_X11_fits scr (d + 5) r tl nk z3.2 (b2i v2) (b2i z3.1) 1) rfl (Or.inl rfl) rfl rfl rfl rfl (fun _ => rfl) (fun z4 => (15, ([lR 56, lI p1], ([sI (b2i z4.1)], (mSH r tl, (z4.2, nk)))))) (fun _ => rfl) fun z4 => ?_
  refine sm_if1n (t := z4.1) (pt := 26) (mCmpB_eq z4.1) rfl rfl (fun _ => ?_) (fun _ => ?_)
  · refine sm_go 2 (s' := (20, ([lR 56, lI p1], ([sI p1, sR 56], (mSH r tl, (z4.2, nk)))))) ?_ rfl
    refine sm_callG (rest := []) (T_X11_valueOf scr (d + 4) r tl nk z4.2 p1) rfl (Or.inl rfl) rfl rfl rfl rfl (fun _ => rfl) (fun v5 => (23, ([lR 56, lI p1], ([sI v5], (mSH r tl, (z4.2, nk)))))) (fun _ => rfl) fun v5 => ?_
    refine sm_go 1 (s' := (27, ([lR 56, lI p1], ([sI v5], (mSH r tl, (z4.2, nk)))))) ?_ rfl
    exact sm_retI rfl rfl rfl
  · refine sm_go 1 (s' := (27, ([lR 56, lI p1], ([sI 0], (mSH r tl, (z4.2, nk)))))) ?_ rfl
    exact sm_retI rfl rfl rfl
def P_X7_hoursOn (p1 : Int) (G : mG) : Option (Int) :=
loop2 LF (fun again5 (x2 : Int) (x3 : Int) =>
bif (ilt x3 (G 1 0)) then
letK (fun (x6 : Int) =>
again5 x6 (x3 + 1)) fun k8 =>
loop2 LF (fun again12 (x9 : Int) (x10 : Int) =>
(ald G 6 6 x3).bind fun v13 =>
bif (ilt x10 v13) then
(ald G 7 30 ((x3 * 5) + x10)).bind fun v14 =>
letK (fun (x15 : Int) =>
again12 x15 (x10 + 1)) fun k17 =>
bif (ieq v14 p1) then
(ald G 8 30 ((x3 * 5) + x10)).bind fun v18 =>
k17 (x9 + v18)
else
k17 x9
else
k8 x9) x2 0
else
some x2) 0 0
set_option maxRecDepth 100000 in
theorem T_X7_hoursOn (scr : mScr) (d : Nat) (r : List (Option Nat)) (tl : List mSh) (nk : Nat × Nat) (G : mG)  (p1 : Int) : SimC scr (d + 1) 42 [sR 1, sI p1] (mSH r tl, (G, nk)) (e0I (mSH r tl, (G, nk))) (P_X7_hoursOn p1 G) := by
  refine sm_callX (cs := mc_X7_hoursOn) (maxL := 6) (rk := 0) (o := 7) (hs := []) (d := d + 0) [lR 1, lI p1, none, none, none, none] rfl rfl rfl rfl ?_
  unfold P_X7_hoursOn
  refine sm_go 4 (s' := (4, ([lR 1, lI p1, lI 0, lI 0, none, none], ([], (mSH r tl, (G, nk)))))) ?_ rfl
  refine sm_loop2 (S := fun (g4 : Option mV × Option mV) (x2 : Int) (x3 : Int) => (4, ([lR 1, lI p1, lI x2, lI x3, g4.1, g4.2], ([], (mSH r tl, (G, nk)))))) ?_ LF (none, none) 0 0
  intro again5 hagain5 g4 x2 x3
  refine sm_go 3 (s' := (9, ([lR 1, lI p1, lI x2, lI x3, g4.1, g4.2], ([sI (G 1 0), sI x3], (mSH r tl, (G, nk)))))) ?_ rfl
  refine sm_if2n (t := (ilt x3 (G 1 0))) (pt := 67) rfl rfl rfl (fun _ => ?_) (fun _ => ?_)
  · refine sm_go 2 (s' := (15, ([lR 1, lI p1, lI x2, lI x3, lI 0, g4.2], ([], (mSH r tl, (G, nk)))))) ?_ rfl
    refine sm_letK1 (S := fun (g7 : Option mV × Option mV) (x6 : Int) => (61, ([lR 1, lI p1, lI x6, lI x3, g7.1, g7.2], ([], (mSH r tl, (G, nk)))))) ?_ ?_
    · intro g7 x6
      exact sm_go 2 (hagain5 (g7.1, g7.2) x6 (x3 + 1)) rfl
    · intro k8 hk8
      refine sm_loop2 (S := fun (g11 : Option mV) (x9 : Int) (x10 : Int) => (15, ([lR 1, lI p1, lI x9, lI x3, lI x10, g11], ([], (mSH r tl, (G, nk)))))) ?_ LF (g4.2) x2 0
      intro again12 hagain12 g11 x9 x10
      refine sm_go 4 (s' := (22, ([lR 1, lI p1, lI x9, lI x3, lI x10, g11], ([sI x3, sR 6, sI x10], (mSH r tl, (G, nk)))))) ?_ rfl
      refine sm_ald rfl rfl fun v13 => ?_
      refine sm_if2n (t := (ilt x10 v13)) (pt := 61) rfl rfl rfl (fun _ => ?_) (fun _ => ?_)
      · refine sm_go 9 (s' := (40, ([lR 1, lI p1, lI x9, lI x3, lI x10, lI ((x3 * 5) + x10)], ([sI ((x3 * 5) + x10), sR 7], (mSH r tl, (G, nk)))))) ?_ rfl
        refine sm_ald rfl rfl fun v14 => ?_
        refine sm_letK1 (S := fun (g16 : Unit) (x15 : Int) => (55, ([lR 1, lI p1, lI x15, lI x3, lI x10, lI ((x3 * 5) + x10)], ([], (mSH r tl, (G, nk)))))) ?_ ?_
        · intro g16 x15
          exact sm_go 2 (hagain12 (lI ((x3 * 5) + x10)) x15 (x10 + 1)) rfl
        · intro k17 hk17
          refine sm_go 1 (s' := (42, ([lR 1, lI p1, lI x9, lI x3, lI x10, lI ((x3 * 5) + x10)], ([sI p1, sI v14], (mSH r tl, (G, nk)))))) ?_ rfl
          refine sm_if2n (t := (ieq v14 p1)) (pt := 55) rfl rfl rfl (fun _ => ?_) (fun _ => ?_)
          · refine sm_go 4 (s' := (52, ([lR 1, lI p1, lI x9, lI x3, lI x10, lI ((x3 * 5) + x10)], ([sI ((x3 * 5) + x10), sR 8, sI x9], (mSH r tl, (G, nk)))))) ?_ rfl
            refine sm_ald rfl rfl fun v18 => ?_
            exact sm_go 2 (hk17 () (x9 + v18)) rfl
          · exact hk17 () x9
      · exact hk8 (lI x10, g11) x9
  · refine sm_go 1 (s' := (68, ([lR 1, lI p1, lI x2, lI x3, g4.1, g4.2], ([sI x2], (mSH r tl, (G, nk)))))) ?_ rfl
    exact sm_retI rfl rfl rfl
def P_X7_leastHours (G : mG) : Option (Int) :=
letK (fun (x1 : Int) =>
loop2 LF (fun again6 (x3 : Int) (x4 : Int) =>
bif (ilt x4 4) then
(P_X7_hoursOn x4 G).bind fun v7 =>
again6 (iMax x3 v7) (x4 + 1)
else
some x3) x1 0) fun k8 =>
loop2 LF (fun again12 (x9 : Int) (x10 : Int) =>
bif (ilt x10 (G 1 0)) then
(ald G 2 6 x10).bind fun v13 =>
(P_X7_hoursFrom x10 0 G).bind fun v14 =>
again12 (iMax x9 (v13 + v14)) (x10 + 1)
else
k8 x9) 0 0
set_option maxRecDepth 100000 in
theorem T_X7_leastHours (scr : mScr) (d : Nat) (r : List (Option Nat)) (tl : List mSh) (nk : Nat × Nat) (G : mG)  : SimC scr (d + 2) 43 [sR 1] (mSH r tl, (G, nk)) (e0I (mSH r tl, (G, nk))) (P_X7_leastHours G) := by
  refine sm_callX (cs := mc_X7_leastHours) (maxL := 3) (rk := 0) (o := 7) (hs := []) (d := d + 1) [lR 1, none, none] rfl rfl rfl rfl ?_
  unfold P_X7_leastHours
  refine sm_go 4 (s' := (4, ([lR 1, lI 0, lI 0], ([], (mSH r tl, (G, nk)))))) ?_ rfl
  refine sm_letK1 (S := fun (g2 : Option mV) (x1 : Int) => (36, ([lR 1, lI x1, g2], ([], (mSH r tl, (G, nk)))))) ?_ ?_
  · intro g2 x1
    refine sm_go 2 (s' := (38, ([lR 1, lI x1, lI 0], ([], (mSH r tl, (G, nk)))))) ?_ rfl
    refine sm_loop2 (S := fun (g5 : Unit) (x3 : Int) (x4 : Int) => (38, ([lR 1, lI x3, lI x4], ([], (mSH r tl, (G, nk)))))) ?_ LF () x1 0
    intro again6 hagain6 g5 x3 x4
    refine sm_go 2 (s' := (40, ([lR 1, lI x3, lI x4], ([sI 4, sI x4], (mSH r tl, (G, nk)))))) ?_ rfl
    refine sm_if2n (t := (ilt x4 4)) (pt := 59) rfl rfl rfl (fun _ => ?_) (fun _ => ?_)
    · refine sm_go 3 (s' := (46, ([lR 1, lI x3, lI x4], ([sI x4, sR 1, sI x3], (mSH r tl, (G, nk)))))) ?_ rfl
      refine sm_callG (rest := [sI x3]) (T_X7_hoursOn scr d r tl nk G x4) rfl (Or.inl rfl) rfl rfl rfl rfl (fun _ => rfl) (fun v7 => (49, ([lR 1, lI x3, lI x4], ([sI v7, sI x3], (mSH r tl, (G, nk)))))) (fun _ => rfl) fun v7 => ?_
      exact sm_go 4 (hagain6 () (iMax x3 v7) (x4 + 1)) rfl
    · refine sm_go 1 (s' := (60, ([lR 1, lI x3, lI x4], ([sI x3], (mSH r tl, (G, nk)))))) ?_ rfl
      exact sm_retI rfl rfl rfl
  · intro k8 hk8
    refine sm_loop2 (S := fun (g11 : Unit) (x9 : Int) (x10 : Int) => (4, ([lR 1, lI x9, lI x10], ([], (mSH r tl, (G, nk)))))) ?_ LF () 0 0
    intro again12 hagain12 g11 x9 x10
    refine sm_go 3 (s' := (9, ([lR 1, lI x9, lI x10], ([sI (G 1 0), sI x10], (mSH r tl, (G, nk)))))) ?_ rfl
    refine sm_if2n (t := (ilt x10 (G 1 0))) (pt := 36) rfl rfl rfl (fun _ => ?_) (fun _ => ?_)
    · refine sm_go 4 (s' := (18, ([lR 1, lI x9, lI x10], ([sI x10, sR 2, sI x9], (mSH r tl, (G, nk)))))) ?_ rfl
      refine sm_ald rfl rfl fun v13 => ?_
      refine sm_go 3 (s' := (22, ([lR 1, lI x9, lI x10], ([sI 0, sI x10, sR 1, sI v13, sI x9], (mSH r tl, (G, nk)))))) ?_ rfl
      refine sm_callG (rest := [sI v13, sI x9]) (T_X7_hoursFrom scr d r tl nk G x10 0) rfl (Or.inl rfl) rfl rfl rfl rfl (fun _ => rfl) (fun v14 => (25, ([lR 1, lI x9, lI x10], ([sI v14, sI v13, sI x9], (mSH r tl, (G, nk)))))) (fun _ => rfl) fun v14 => ?_
      exact sm_go 5 (hagain12 () (iMax x9 (v13 + v14)) (x10 + 1)) rfl
    · exact hk8 (lI x10) x9
def P_X10_bound (G : mG) : Option (Int) :=
(P_X7_leastHours G).bind fun v1 =>
some v1
set_option maxRecDepth 100000 in
theorem T_X10_bound (scr : mScr) (d : Nat) (r : List (Option Nat)) (tl : List mSh) (nk : Nat × Nat) (G : mG)  : SimC scr (d + 3) 95 [sR 0] (mSH r tl, (G, nk)) (e0I (mSH r tl, (G, nk))) (P_X10_bound G) := by
  refine sm_callX (cs := mc_X10_bound) (maxL := 1) (rk := 0) (o := 10) (hs := []) (d := d + 2) [lR 0] rfl rfl rfl rfl ?_
  unfold P_X10_bound
  refine sm_go 2 (s' := (4, ([lR 0], ([sR 1], (mSH r tl, (G, nk)))))) ?_ rfl
  refine sm_callG (rest := []) (T_X7_leastHours scr d r tl nk G) rfl (Or.inl rfl) rfl rfl rfl rfl (fun _ => rfl) (fun v1 => (7, ([lR 0], ([sI v1], (mSH r tl, (G, nk)))))) (fun _ => rfl) fun v1 => ?_
  exact sm_retI rfl rfl rfl
def P_X11_hoursOn (p1 : Int) (G : mG) : Option (Int) :=
loop2 LF (fun again5 (x2 : Int) (x3 : Int) =>
(ald G 57 282 0).bind fun v6 =>
bif (ilt x3 v6) then
letK (fun (x7 : Int) =>
again5 x7 (x3 + 1)) fun k9 =>
loop2 LF (fun again13 (x10 : Int) (x11 : Int) =>
(P_X11_of x3 4 G).bind fun v14 =>
bif (ilt x11 v14) then
(P_X11_machineOf x3 x11 G).bind fun v15 =>
letK (fun (x16 : Int) =>
again13 (x10 + x16) (x11 + 1)) fun k18 =>
bif (ieq v15 p1) then
(P_X11_hoursOf x3 x11 G).bind fun v19 =>
k18 v19
else
k18 0
else
k9 x10) x2 0
else
some x2) 0 0
set_option maxRecDepth 100000 in
theorem T_X11_hoursOn (scr : mScr) (d : Nat) (r : List (Option Nat)) (tl : List mSh) (nk : Nat × Nat) (G : mG)  (p1 : Int) : SimC scr (d + 3) 195 [sR 56, sI p1] (mSH r tl, (G, nk)) (e0I (mSH r tl, (G, nk))) (P_X11_hoursOn p1 G) := by
  refine sm_callX (cs := mc_X11_hoursOn) (maxL := 5) (rk := 0) (o := 11) (hs := []) (d := d + 2) [lR 56, lI p1, none, none, none] rfl rfl rfl rfl ?_
  unfold P_X11_hoursOn
  refine sm_go 4 (s' := (4, ([lR 56, lI p1, lI 0, lI 0, none], ([], (mSH r tl, (G, nk)))))) ?_ rfl
  refine sm_loop2 (S := fun (g4 : Option mV) (x2 : Int) (x3 : Int) => (4, ([lR 56, lI p1, lI x2, lI x3, g4], ([], (mSH r tl, (G, nk)))))) ?_ LF (none) 0 0
  intro again5 hagain5 g4 x2 x3
  refine sm_go 4 (s' := (10, ([lR 56, lI p1, lI x2, lI x3, g4], ([sI 0, sR 57, sI x3], (mSH r tl, (G, nk)))))) ?_ rfl
  refine sm_ald rfl rfl fun v6 => ?_
  refine sm_if2n (t := (ilt x3 v6)) (pt := 65) rfl rfl rfl (fun _ => ?_) (fun _ => ?_)
  · refine sm_go 2 (s' := (17, ([lR 56, lI p1, lI x2, lI x3, lI 0], ([], (mSH r tl, (G, nk)))))) ?_ rfl
    refine sm_letK1 (S := fun (g8 : Option mV) (x7 : Int) => (59, ([lR 56, lI p1, lI x7, lI x3, g8], ([], (mSH r tl, (G, nk)))))) ?_ ?_
    · intro g8 x7
      exact sm_go 2 (hagain5 (g8) x7 (x3 + 1)) rfl
    · intro k9 hk9
      refine sm_loop2 (S := fun (g12 : Unit) (x10 : Int) (x11 : Int) => (17, ([lR 56, lI p1, lI x10, lI x3, lI x11], ([], (mSH r tl, (G, nk)))))) ?_ LF () x2 0
      intro again13 hagain13 g12 x10 x11
      refine sm_go 4 (s' := (22, ([lR 56, lI p1, lI x10, lI x3, lI x11], ([sI 4, sI x3, sR 56, sI x11], (mSH r tl, (G, nk)))))) ?_ rfl
      refine sm_callG (rest := [sI x11]) (T_X11_of scr (d + 1) r tl nk G x3 4) rfl (Or.inl rfl) rfl rfl rfl rfl (fun _ => rfl) (fun v14 => (25, ([lR 56, lI p1, lI x10, lI x3, lI x11], ([sI v14, sI x11], (mSH r tl, (G, nk)))))) (fun _ => rfl) fun v14 => ?_
      refine sm_if2n (t := (ilt x11 v14)) (pt := 59) rfl rfl rfl (fun _ => ?_) (fun _ => ?_)
      · refine sm_go 4 (s' := (33, ([lR 56, lI p1, lI x10, lI x3, lI x11], ([sI x11, sI x3, sR 56, sI x10], (mSH r tl, (G, nk)))))) ?_ rfl
        refine sm_callG (rest := [sI x10]) (T_X11_machineOf scr d r tl nk G x3 x11) rfl (Or.inl rfl) rfl rfl rfl rfl (fun _ => rfl) (fun v15 => (36, ([lR 56, lI p1, lI x10, lI x3, lI x11], ([sI v15, sI x10], (mSH r tl, (G, nk)))))) (fun _ => rfl) fun v15 => ?_
        refine sm_letK1 (S := fun (g17 : Unit) (x16 : Int) => (51, ([lR 56, lI p1, lI x10, lI x3, lI x11], ([sI x16, sI x10], (mSH r tl, (G, nk)))))) ?_ ?_
        · intro g17 x16
          exact sm_go 4 (hagain13 () (x10 + x16) (x11 + 1)) rfl
        · intro k18 hk18
          refine sm_go 1 (s' := (37, ([lR 56, lI p1, lI x10, lI x3, lI x11], ([sI p1, sI v15, sI x10], (mSH r tl, (G, nk)))))) ?_ rfl
          refine sm_if2n (t := (ieq v15 p1)) (pt := 50) rfl rfl rfl (fun _ => ?_) (fun _ => ?_)
          · refine sm_go 3 (s' := (44, ([lR 56, lI p1, lI x10, lI x3, lI x11], ([sI x11, sI x3, sR 56, sI x10], (mSH r tl, (G, nk)))))) ?_ rfl
            refine sm_callG (rest := [sI x10]) (T_X11_hoursOf scr d r tl nk G x3 x11) rfl (Or.inl rfl) rfl rfl rfl rfl (fun _ => rfl) (fun v19 => (47, ([lR 56, lI p1, lI x10, lI x3, lI x11], ([sI v19, sI x10], (mSH r tl, (G, nk)))))) (fun _ => rfl) fun v19 => ?_
            exact sm_go 1 (hk18 () v19) rfl
          · exact sm_go 1 (hk18 () 0) rfl
      · exact hk9 (lI x11) x10
  · refine sm_go 1 (s' := (66, ([lR 56, lI p1, lI x2, lI x3, g4], ([sI x2], (mSH r tl, (G, nk)))))) ?_ rfl
    exact sm_retI rfl rfl rfl
def P_X11_bound (G : mG) : Option (Int × mG) :=
(pst G 56 3 0).bind fun G1 =>
letK (fun (x2 : Int) =>
loop2 LF (fun again7 (x4 : Int) (x5 : Int) =>
bif (ilt x5 4) then
(P_X11_hoursOn x5 G1).bind fun v8 =>
again7 (iMax x4 v8) (x5 + 1)
else
some (x4, G1)) x2 0) fun k9 =>
loop2 LF (fun again13 (x10 : Int) (x11 : Int) =>
(ald G1 57 282 0).bind fun v14 =>
bif (ilt x11 v14) then
(P_X11_of x11 0 G1).bind fun v15 =>
(P_X11_length x11 G1).bind fun v16 =>
again13 (iMax x10 (v15 + v16)) (x11 + 1)
else
k9 x10) 0 0
set_option maxRecDepth 100000 in
theorem T_X11_bound (scr : mScr) (d : Nat) (r : List (Option Nat)) (tl : List mSh) (nk : Nat × Nat) (G : mG)  : SimC scr (d + 5) 194 [sR 56] (mSH r tl, (G, nk)) (e1I r tl nk) (P_X11_bound G) := by
  refine sm_callX (cs := mc_X11_bound) (maxL := 3) (rk := 0) (o := 11) (hs := []) (d := d + 4) [lR 56, none, none] rfl rfl rfl rfl ?_
  unfold P_X11_bound
  refine sm_go 2 (s' := (2, ([lR 56, none, none], ([sI 0, sR 56], (mSH r tl, (G, nk)))))) ?_ rfl
  refine sm_pst rfl rfl rfl fun G1 => ?_
  refine sm_go 4 (s' := (9, ([lR 56, lI 0, lI 0], ([], (mSH r tl, (G1, nk)))))) ?_ rfl
  refine sm_letK1 (S := fun (g3 : Option mV) (x2 : Int) => (42, ([lR 56, lI x2, g3], ([], (mSH r tl, (G1, nk)))))) ?_ ?_
  · intro g3 x2
    refine sm_go 2 (s' := (44, ([lR 56, lI x2, lI 0], ([], (mSH r tl, (G1, nk)))))) ?_ rfl
    refine sm_loop2 (S := fun (g6 : Unit) (x4 : Int) (x5 : Int) => (44, ([lR 56, lI x4, lI x5], ([], (mSH r tl, (G1, nk)))))) ?_ LF () x2 0
    intro again7 hagain7 g6 x4 x5
    refine sm_go 2 (s' := (46, ([lR 56, lI x4, lI x5], ([sI 4, sI x5], (mSH r tl, (G1, nk)))))) ?_ rfl
    refine sm_if2n (t := (ilt x5 4)) (pt := 65) rfl rfl rfl (fun _ => ?_) (fun _ => ?_)
    · refine sm_go 3 (s' := (52, ([lR 56, lI x4, lI x5], ([sI x5, sR 56, sI x4], (mSH r tl, (G1, nk)))))) ?_ rfl
      refine sm_callG (rest := [sI x4]) (T_X11_hoursOn scr (d + 1) r tl nk G1 x5) rfl (Or.inl rfl) rfl rfl rfl rfl (fun _ => rfl) (fun v8 => (55, ([lR 56, lI x4, lI x5], ([sI v8, sI x4], (mSH r tl, (G1, nk)))))) (fun _ => rfl) fun v8 => ?_
      exact sm_go 4 (hagain7 () (iMax x4 v8) (x5 + 1)) rfl
    · refine sm_go 1 (s' := (66, ([lR 56, lI x4, lI x5], ([sI x4], (mSH r tl, (G1, nk)))))) ?_ rfl
      exact sm_retI rfl rfl rfl
  · intro k9 hk9
    refine sm_loop2 (S := fun (g12 : Unit) (x10 : Int) (x11 : Int) => (9, ([lR 56, lI x10, lI x11], ([], (mSH r tl, (G1, nk)))))) ?_ LF () 0 0
    intro again13 hagain13 g12 x10 x11
    refine sm_go 4 (s' := (15, ([lR 56, lI x10, lI x11], ([sI 0, sR 57, sI x11], (mSH r tl, (G1, nk)))))) ?_ rfl
    refine sm_ald rfl rfl fun v14 => ?_
    refine sm_if2n (t := (ilt x11 v14)) (pt := 42) rfl rfl rfl (fun _ => ?_) (fun _ => ?_)
    · refine sm_go 4 (s' := (23, ([lR 56, lI x10, lI x11], ([sI 0, sI x11, sR 56, sI x10], (mSH r tl, (G1, nk)))))) ?_ rfl
      refine sm_callG (rest := [sI x10]) (T_X11_of scr (d + 3) r tl nk G1 x11 0) rfl (Or.inl rfl) rfl rfl rfl rfl (fun _ => rfl) (fun v15 => (26, ([lR 56, lI x10, lI x11], ([sI v15, sI x10], (mSH r tl, (G1, nk)))))) (fun _ => rfl) fun v15 => ?_
      refine sm_go 2 (s' := (28, ([lR 56, lI x10, lI x11], ([sI x11, sR 56, sI v15, sI x10], (mSH r tl, (G1, nk)))))) ?_ rfl
      refine sm_callG (rest := [sI v15, sI x10]) (T_X11_length scr d r tl nk G1 x11) rfl (Or.inl rfl) rfl rfl rfl rfl (fun _ => rfl) (fun v16 => (31, ([lR 56, lI x10, lI x11], ([sI v16, sI v15, sI x10], (mSH r tl, (G1, nk)))))) (fun _ => rfl) fun v16 => ?_
      exact sm_go 5 (hagain13 () (iMax x10 (v15 + v16)) (x11 + 1)) rfl
    · exact hk9 (lI x11) x10
def P_X10_told (p1 : Int) : Option (Int) :=
some ((10 * (iDiv p1 5)) + (iRem p1 5))
set_option maxRecDepth 100000 in
theorem T_X10_told (scr : mScr) (d : Nat) (r : List (Option Nat)) (tl : List mSh) (nk : Nat × Nat) (G : mG)  (p1 : Int) : SimC scr (d + 1) 130 [sI p1] (mSH r tl, (G, nk)) (e0I (mSH r tl, (G, nk))) (P_X10_told p1) := by
  refine sm_callX (cs := mc_X10_told) (maxL := 1) (rk := 0) (o := 110) (hs := []) (d := d + 0) [lI p1] rfl rfl rfl rfl ?_
  unfold P_X10_told
  refine sm_go 9 (s' := (10, ([lI p1], ([sI ((10 * (iDiv p1 5)) + (iRem p1 5))], (mSH r tl, (G, nk)))))) ?_ rfl
  exact sm_retI rfl rfl rfl
noncomputable def P_X10_orderAt (p1 : Int) (p2 : Int) (W : mW) : Option ((Int ⊕ Nat) × mW) :=
thrB (P_X10_needMachine p1 W) fun v3 W4 =>
letK (some (.inr 0, (W4.1, (W4.2.1, (W4.2.2.1, (W4.2.2.2.1 + 1, W4.2.2.2.2 + 6)))))) fun k6 =>
bif (ilt p2 0) then
k6
else
(ald W4.2.2.1 20 4 p1).bind fun v7 =>
bif (ilt p2 v7) then
(ald W4.2.2.1 21 120 ((p1 * 30) + p2)).bind fun v8 =>
(P_X10_told v8).bind fun v9 =>
some (.inl v9, W4)
else
k6
set_option maxRecDepth 100000 in
theorem T_X10_orderAt (scr : mScr) (d : Nat) (W : mW)  (p1 : Int) (p2 : Int) : SimC scr (d + 2) 96 [sR 0, sI p1, sI p2] (mkM W) (e2I) (P_X10_orderAt p1 p2 W) := by
  refine sm_callX (cs := mc_X10_orderAt) (maxL := 3) (rk := 0) (o := 10) (hs := []) (d := d + 1) [lR 0, lI p1, lI p2] rfl rfl rfl rfl ?_
  unfold P_X10_orderAt
  refine sm_go 1 (s' := (1, ([lR 0, lI p1, lI p2], ([sI p1], (mSH W.1 W.2.1, (W.2.2.1, W.2.2.2)))))) ?_ rfl
  refine sm_thr (rest := []) (T_X10_needMachine scr d W p1) rfl (Or.inr (Or.inl rfl)) rfl rfl rfl rfl (fun _ _ => rfl) (fun _ _ => rfl) (fun v3 W4 => (4, ([lR 0, lI p1, lI p2], ([], (mSH W4.1 W4.2.1, (W4.2.2.1, W4.2.2.2)))))) (fun _ _ => rfl) fun v3 W4 => ?_
  refine sm_letK0 (S := fun (g5 : Unit) => (21, ([lR 0, lI p1, lI p2], ([], (mSH W4.1 W4.2.1, (W4.2.2.1, W4.2.2.2)))))) ?_ ?_
  · intro g5
    exact sm_exc rfl rfl rfl rfl
  · intro k6 hk6
    refine sm_go 1 (s' := (5, ([lR 0, lI p1, lI p2], ([sI p2], (mSH W4.1 W4.2.1, (W4.2.2.1, W4.2.2.2)))))) ?_ rfl
    refine sm_if1 (t := (ilt p2 0)) (pt := 21) rfl rfl rfl (fun _ => ?_) (fun _ => ?_)
    · exact hk6 ()
    · refine sm_go 5 (s' := (17, ([lR 0, lI p1, lI p2], ([sI p1, sR 20, sI p2], (mSH W4.1 W4.2.1, (W4.2.2.1, W4.2.2.2)))))) ?_ rfl
      refine sm_ald rfl rfl fun v7 => ?_
      refine sm_if2 (t := (ilt p2 v7)) (pt := 32) rfl rfl rfl (fun _ => ?_) (fun _ => ?_)
      · refine sm_go 8 (s' := (45, ([lR 0, lI p1, lI p2], ([sI ((p1 * 30) + p2), sR 21], (mSH W4.1 W4.2.1, (W4.2.2.1, W4.2.2.2)))))) ?_ rfl
        refine sm_ald rfl rfl fun v8 => ?_
        refine sm_callG (rest := []) (T_X10_told scr d W4.1 W4.2.1 W4.2.2.2 W4.2.2.1 v8) rfl (Or.inr (Or.inl rfl)) rfl rfl rfl rfl (fun _ => rfl) (fun v9 => (49, ([lR 0, lI p1, lI p2], ([sI v9], (mSH W4.1 W4.2.1, (W4.2.2.1, W4.2.2.2)))))) (fun _ => rfl) fun v9 => ?_
        exact sm_retI rfl rfl rfl
      · exact hk6 ()
noncomputable def P_L_orderAt (p1 : Int) (p2 : Int) (W : mW) : Option ((Int ⊕ Nat) × mW) :=
ctcB (P_X10_orderAt p1 p2 W) (fun v3 W4 =>
(ast W4.2.2.1 74 1 0 (w32 v3)).bind fun G6 =>
some (.inl 0, (W4.1, (W4.2.1, (G6, W4.2.2.2))))) (fun W5 =>
some (.inl 1, W5)) (fun _ => none) (fun _ => none)
set_option maxRecDepth 100000 in
theorem T_L_orderAt (scr : mScr) (d : Nat) (W : mW)  (p1 : Int) (p2 : Int) : SimC scr (d + 3) 260 [sR 0, sI p1, sI p2, sR 74] (mkM W) (e2I) (P_L_orderAt p1 p2 W) := by
  refine sm_callX (cs := mc_L_orderAt) (maxL := 5) (rk := 0) (o := 112) (hs := [(0, (10, (13, 0)))]) (d := d + 2) [lR 0, lI p1, lI p2, lR 74, none] rfl rfl rfl rfl ?_
  unfold P_L_orderAt
  refine sm_go 5 (s' := (5, ([lR 0, lI p1, lI p2, lR 74, none], ([sI p2, sI p1, sR 0, sI 0, sR 74], (mSH W.1 W.2.1, (W.2.2.1, W.2.2.2)))))) ?_ rfl
  refine sm_ctc (rest := [sI 0, sR 74]) (T_X10_orderAt scr d W p1 p2) rfl (Or.inl rfl) rfl rfl rfl rfl (fun _ _ => rfl) (fun v3 W4 => (8, ([lR 0, lI p1, lI p2, lR 74, none], ([sI v3, sI 0, sR 74], (mSH W4.1 W4.2.1, (W4.2.2.1, W4.2.2.2)))))) (fun _ _ => rfl) (fun v3 W4 => ?_) (Or.inl ⟨13, rfl, fun W5 => ?_⟩) (Or.inr rfl) (Or.inr rfl)
  · refine sm_go 1 (s' := (9, ([lR 0, lI p1, lI p2, lR 74, none], ([sL (w32 v3), sI 0, sR 74], (mSH W4.1 W4.2.1, (W4.2.2.1, W4.2.2.2)))))) ?_ rfl
    refine sm_lst rfl rfl fun G6 => ?_
    refine sm_go 1 (s' := (17, ([lR 0, lI p1, lI p2, lR 74, none], ([], (mSH W4.1 W4.2.1, (G6, W4.2.2.2)))))) ?_ rfl
    refine sm_go 1 (s' := (18, ([lR 0, lI p1, lI p2, lR 74, none], ([sI 0], (mSH W4.1 W4.2.1, (G6, W4.2.2.2)))))) ?_ rfl
    exact sm_retI rfl rfl rfl
  · refine sm_go 2 (s' := (16, ([lR 0, lI p1, lI p2, lR 74, lO], ([sI 1], (mSH W5.1 W5.2.1, (W5.2.2.1, W5.2.2.2)))))) ?_ rfl
    exact sm_retI rfl rfl rfl
def P_X11_orderAt (p1 : Int) (p2 : Int) (G : mG) : Option (Int × mG) :=
(P_X11_in p1 0 3).bind fun v3 =>
letK (fun (x4 : Int) =>
(P_X11_fits x4 1 1 G).bind fun z6 =>
bif z6.1 then
(ald z6.2 57 282 (((152 + (p1 * 31)) + 1) + p2)).bind fun v7 =>
some (v7, z6.2)
else
some (0, z6.2)) fun k8 =>
letK (k8 0) fun k10 =>
bif v3 then
(ald G 57 282 (152 + (p1 * 31))).bind fun v11 =>
(P_X11_in p2 0 (v11 - 1)).bind fun v12 =>
bif v12 then
k8 1
else
k10
else
k10
set_option maxRecDepth 100000 in
theorem T_X11_orderAt (scr : mScr) (d : Nat) (r : List (Option Nat)) (tl : List mSh) (nk : Nat × Nat) (G : mG)  (p1 : Int) (p2 : Int) : SimC scr (d + 2) 196 [sR 56, sI p1, sI p2] (mSH r tl, (G, nk)) (e1I r tl nk) (P_X11_orderAt p1 p2 G) := by
  refine sm_callX (cs := mc_X11_orderAt) (maxL := 3) (rk := 0) (o := 11) (hs := []) (d := d + 1) [lR 56, lI p1, lI p2] rfl rfl rfl rfl ?_
  unfold P_X11_orderAt
  refine sm_go 4 (s' := (4, ([lR 56, lI p1, lI p2], ([sI 3, sI 0, sI p1, sR 56], (mSH r tl, (G, nk)))))) ?_ rfl
  refine sm_callG (rest := [sR 56]) (T_X11_in scr d r tl nk G p1 0 3) rfl (Or.inr (Or.inl rfl)) rfl rfl rfl rfl (fun _ => rfl) (fun v3 => (7, ([lR 56, lI p1, lI p2], ([sI (b2i v3), sR 56], (mSH r tl, (G, nk)))))) (fun _ => rfl) fun v3 => ?_
  refine sm_letK1 (S := fun (g5 : Unit) (x4 : Int) => (38, ([lR 56, lI p1, lI p2], ([sI x4, sR 56], (mSH r tl, (G, nk)))))) ?_ ?_
  · intro g5 x4
    refine sm_go 2 (s' := (40, ([lR 56, lI p1, lI p2], ([sI 1, sI 1, sI x4, sR 56], (mSH r tl, (G, nk)))))) ?_ rfl
    refine sm_callG (rest := []) (T_X11_fits scr d r tl nk G x4 1 1) rfl (Or.inl rfl) rfl rfl rfl rfl (fun _ => rfl) (fun z6 => (43, ([lR 56, lI p1, lI p2], ([sI (b2i z6.1)], (mSH r tl, (z6.2, nk)))))) (fun _ => rfl) fun z6 => ?_
    refine sm_if1n (t := z6.1) (pt := 66) (mCmpB_eq z6.1) rfl rfl (fun _ => ?_) (fun _ => ?_)
    · refine sm_go 11 (s' := (62, ([lR 56, lI p1, lI p2], ([sI (((152 + (p1 * 31)) + 1) + p2), sR 57], (mSH r tl, (z6.2, nk)))))) ?_ rfl
      refine sm_ald rfl rfl fun v7 => ?_
      refine sm_go 1 (s' := (67, ([lR 56, lI p1, lI p2], ([sI v7], (mSH r tl, (z6.2, nk)))))) ?_ rfl
      exact sm_retI rfl rfl rfl
    · refine sm_go 1 (s' := (67, ([lR 56, lI p1, lI p2], ([sI 0], (mSH r tl, (z6.2, nk)))))) ?_ rfl
      exact sm_retI rfl rfl rfl
  · intro k8 hk8
    refine sm_letK0 (S := fun (g9 : Unit) => (37, ([lR 56, lI p1, lI p2], ([sR 56], (mSH r tl, (G, nk)))))) ?_ ?_
    · intro g9
      exact sm_go 1 (hk8 () 0) rfl
    · intro k10 hk10
      refine sm_if1n (t := v3) (pt := 37) (mCmpB_eq v3) rfl rfl (fun _ => ?_) (fun _ => ?_)
      · refine sm_go 9 (s' := (24, ([lR 56, lI p1, lI p2], ([sI (152 + (p1 * 31)), sR 57, sI 0, sI p2, sR 56], (mSH r tl, (G, nk)))))) ?_ rfl
        refine sm_ald rfl rfl fun v11 => ?_
        refine sm_go 2 (s' := (27, ([lR 56, lI p1, lI p2], ([sI (v11 - 1), sI 0, sI p2, sR 56], (mSH r tl, (G, nk)))))) ?_ rfl
        refine sm_callG (rest := [sR 56]) (T_X11_in scr d r tl nk G p2 0 (v11 - 1)) rfl (Or.inr (Or.inl rfl)) rfl rfl rfl rfl (fun _ => rfl) (fun v12 => (30, ([lR 56, lI p1, lI p2], ([sI (b2i v12), sR 56], (mSH r tl, (G, nk)))))) (fun _ => rfl) fun v12 => ?_
        refine sm_if1n (t := v12) (pt := 37) (mCmpB_eq v12) rfl rfl (fun _ => ?_) (fun _ => ?_)
        · exact sm_go 2 (hk8 () 1) rfl
        · exact hk10 ()
      · exact hk10 ()
noncomputable def P_X10_doneIn (p1 : Int) (p2 : Int) (W : mW) : Option ((Int ⊕ Nat) × mW) :=
thrB (P_X10_needMachine p1 W) fun v3 W4 =>
thrB (P_X10_needRange p2 0 5000 W4) fun v5 W6 =>
thrB (P_X10_needPlan W6) fun v7 W8 =>
loop1 LF (fun again11 (x9 : Int) =>
(ald W8.2.2.1 20 4 p1).bind fun v12 =>
bif (ilt x9 v12) then
(ald W8.2.2.1 21 120 ((p1 * 30) + x9)).bind fun v13 =>
(ald W8.2.2.1 22 30 v13).bind fun v14 =>
letK (again11 (x9 + 1)) fun k16 =>
bif (ilt p2 v14) then
k16
else
(P_X8_endOfStep 17 v13 W8.2.2.1).bind fun v17 =>
bif (ilt p2 v17) then
some (.inl (iDiv v13 5), W8)
else
k16
else
some (.inl (-1), W8)) 0
set_option maxRecDepth 100000 in
theorem T_X10_doneIn (scr : mScr) (d : Nat) (W : mW)  (p1 : Int) (p2 : Int) : SimC scr (d + 2) 97 [sR 0, sI p1, sI p2] (mkM W) (e2I) (P_X10_doneIn p1 p2 W) := by
  refine sm_callX (cs := mc_X10_doneIn) (maxL := 5) (rk := 0) (o := 10) (hs := []) (d := d + 1) [lR 0, lI p1, lI p2, none, none] rfl rfl rfl rfl ?_
  unfold P_X10_doneIn
  refine sm_go 1 (s' := (1, ([lR 0, lI p1, lI p2, none, none], ([sI p1], (mSH W.1 W.2.1, (W.2.2.1, W.2.2.2)))))) ?_ rfl
  refine sm_thr (rest := []) (T_X10_needMachine scr d W p1) rfl (Or.inr (Or.inl rfl)) rfl rfl rfl rfl (fun _ _ => rfl) (fun _ _ => rfl) (fun v3 W4 => (4, ([lR 0, lI p1, lI p2, none, none], ([], (mSH W4.1 W4.2.1, (W4.2.2.1, W4.2.2.2)))))) (fun _ _ => rfl) fun v3 W4 => ?_
  refine sm_go 3 (s' := (9, ([lR 0, lI p1, lI p2, none, none], ([sI 5000, sI 0, sI p2], (mSH W4.1 W4.2.1, (W4.2.2.1, W4.2.2.2)))))) ?_ rfl
  refine sm_thr (rest := []) (T_X10_needRange scr d W4 p2 0 5000) rfl (Or.inr (Or.inl rfl)) rfl rfl rfl rfl (fun _ _ => rfl) (fun _ _ => rfl) (fun v5 W6 => (12, ([lR 0, lI p1, lI p2, none, none], ([], (mSH W6.1 W6.2.1, (W6.2.2.1, W6.2.2.2)))))) (fun _ _ => rfl) fun v5 W6 => ?_
  refine sm_go 1 (s' := (13, ([lR 0, lI p1, lI p2, none, none], ([sR 0], (mSH W6.1 W6.2.1, (W6.2.2.1, W6.2.2.2)))))) ?_ rfl
  refine sm_thr (rest := []) (T_X10_needPlan scr d W6) rfl (Or.inl rfl) rfl rfl rfl rfl (fun _ _ => rfl) (fun _ _ => rfl) (fun v7 W8 => (16, ([lR 0, lI p1, lI p2, none, none], ([], (mSH W8.1 W8.2.1, (W8.2.2.1, W8.2.2.2)))))) (fun _ _ => rfl) fun v7 W8 => ?_
  refine sm_go 2 (s' := (18, ([lR 0, lI p1, lI p2, lI 0, none], ([], (mSH W8.1 W8.2.1, (W8.2.2.1, W8.2.2.2)))))) ?_ rfl
  refine sm_loop1 (S := fun (g10 : Option mV) (x9 : Int) => (18, ([lR 0, lI p1, lI p2, lI x9, g10], ([], (mSH W8.1 W8.2.1, (W8.2.2.1, W8.2.2.2)))))) ?_ LF (none) 0
  intro again11 hagain11 g10 x9
  refine sm_go 5 (s' := (27, ([lR 0, lI p1, lI p2, lI x9, g10], ([sI p1, sR 20, sI x9], (mSH W8.1 W8.2.1, (W8.2.2.1, W8.2.2.2)))))) ?_ rfl
  refine sm_ald rfl rfl fun v12 => ?_
  refine sm_if2n (t := (ilt x9 v12)) (pt := 85) rfl rfl rfl (fun _ => ?_) (fun _ => ?_)
  · refine sm_go 8 (s' := (44, ([lR 0, lI p1, lI p2, lI x9, g10], ([sI ((p1 * 30) + x9), sR 21], (mSH W8.1 W8.2.1, (W8.2.2.1, W8.2.2.2)))))) ?_ rfl
    refine sm_ald rfl rfl fun v13 => ?_
    refine sm_go 5 (s' := (56, ([lR 0, lI p1, lI p2, lI x9, lI v13], ([sI v13, sR 22], (mSH W8.1 W8.2.1, (W8.2.2.1, W8.2.2.2)))))) ?_ rfl
    refine sm_ald rfl rfl fun v14 => ?_
    refine sm_letK0 (S := fun (g15 : Unit) => (79, ([lR 0, lI p1, lI p2, lI x9, lI v13], ([], (mSH W8.1 W8.2.1, (W8.2.2.1, W8.2.2.2)))))) ?_ ?_
    · intro g15
      exact sm_go 2 (hagain11 (lI v13) (x9 + 1)) rfl
    · intro k16 hk16
      refine sm_go 1 (s' := (58, ([lR 0, lI p1, lI p2, lI x9, lI v13], ([sI p2, sI v14], (mSH W8.1 W8.2.1, (W8.2.2.1, W8.2.2.2)))))) ?_ rfl
      refine sm_if2 (t := (ilt p2 v14)) (pt := 79) rfl rfl rfl (fun _ => ?_) (fun _ => ?_)
      · exact hk16 ()
      · refine sm_go 4 (s' := (68, ([lR 0, lI p1, lI p2, lI x9, lI v13], ([sI v13, sR 17, sI p2], (mSH W8.1 W8.2.1, (W8.2.2.1, W8.2.2.2)))))) ?_ rfl
        refine sm_callG (rest := [sI p2]) (T_X8_endOfStep_17 scr d W8.1 W8.2.1 W8.2.2.2 W8.2.2.1 v13) rfl (Or.inl rfl) rfl rfl rfl rfl (fun _ => rfl) (fun v17 => (71, ([lR 0, lI p1, lI p2, lI x9, lI v13], ([sI v17, sI p2], (mSH W8.1 W8.2.1, (W8.2.2.1, W8.2.2.2)))))) (fun _ => rfl) fun v17 => ?_
        refine sm_if2n (t := (ilt p2 v17)) (pt := 79) rfl rfl rfl (fun _ => ?_) (fun _ => ?_)
        · refine sm_go 3 (s' := (78, ([lR 0, lI p1, lI p2, lI x9, lI v13], ([sI (iDiv v13 5)], (mSH W8.1 W8.2.1, (W8.2.2.1, W8.2.2.2)))))) ?_ rfl
          exact sm_retI rfl rfl rfl
        · exact hk16 ()
  · refine sm_go 1 (s' := (86, ([lR 0, lI p1, lI p2, lI x9, g10], ([sI (-1)], (mSH W8.1 W8.2.1, (W8.2.2.1, W8.2.2.2)))))) ?_ rfl
    exact sm_retI rfl rfl rfl
noncomputable def P_L_doneIn (p1 : Int) (p2 : Int) (W : mW) : Option ((Int ⊕ Nat) × mW) :=
ctcB (P_X10_doneIn p1 p2 W) (fun v3 W4 =>
(ast W4.2.2.1 74 1 0 (w32 v3)).bind fun G8 =>
some (.inl 0, (W4.1, (W4.2.1, (G8, W4.2.2.2))))) (fun W5 =>
some (.inl 1, W5)) (fun W6 =>
some (.inl 2, W6)) (fun W7 =>
some (.inl 3, W7))
set_option maxRecDepth 100000 in
theorem T_L_doneIn (scr : mScr) (d : Nat) (W : mW)  (p1 : Int) (p2 : Int) : SimC scr (d + 3) 261 [sR 0, sI p1, sI p2, sR 74] (mkM W) (e2I) (P_L_doneIn p1 p2 W) := by
  refine sm_callX (cs := mc_L_doneIn) (maxL := 5) (rk := 0) (o := 112) (hs := [(0, (10, (13, 0))), (0, (10, (17, 1))), (0, (10, (21, 2)))]) (d := d + 2) [lR 0, lI p1, lI p2, lR 74, none] rfl rfl rfl rfl ?_
  unfold P_L_doneIn
  refine sm_go 5 (s' := (5, ([lR 0, lI p1, lI p2, lR 74, none], ([sI p2, sI p1, sR 0, sI 0, sR 74], (mSH W.1 W.2.1, (W.2.2.1, W.2.2.2)))))) ?_ rfl
  refine sm_ctc (rest := [sI 0, sR 74]) (T_X10_doneIn scr d W p1 p2) rfl (Or.inl rfl) rfl rfl rfl rfl (fun _ _ => rfl) (fun v3 W4 => (8, ([lR 0, lI p1, lI p2, lR 74, none], ([sI v3, sI 0, sR 74], (mSH W4.1 W4.2.1, (W4.2.2.1, W4.2.2.2)))))) (fun _ _ => rfl) (fun v3 W4 => ?_) (Or.inl ⟨13, rfl, fun W5 => ?_⟩) (Or.inl ⟨17, rfl, fun W6 => ?_⟩) (Or.inl ⟨21, rfl, fun W7 => ?_⟩)
  · refine sm_go 1 (s' := (9, ([lR 0, lI p1, lI p2, lR 74, none], ([sL (w32 v3), sI 0, sR 74], (mSH W4.1 W4.2.1, (W4.2.2.1, W4.2.2.2)))))) ?_ rfl
    refine sm_lst rfl rfl fun G8 => ?_
    refine sm_go 1 (s' := (25, ([lR 0, lI p1, lI p2, lR 74, none], ([], (mSH W4.1 W4.2.1, (G8, W4.2.2.2)))))) ?_ rfl
    refine sm_go 1 (s' := (26, ([lR 0, lI p1, lI p2, lR 74, none], ([sI 0], (mSH W4.1 W4.2.1, (G8, W4.2.2.2)))))) ?_ rfl
    exact sm_retI rfl rfl rfl
  · refine sm_go 2 (s' := (16, ([lR 0, lI p1, lI p2, lR 74, lO], ([sI 1], (mSH W5.1 W5.2.1, (W5.2.2.1, W5.2.2.2)))))) ?_ rfl
    exact sm_retI rfl rfl rfl
  · refine sm_go 2 (s' := (20, ([lR 0, lI p1, lI p2, lR 74, lO], ([sI 2], (mSH W6.1 W6.2.1, (W6.2.2.1, W6.2.2.2)))))) ?_ rfl
    exact sm_retI rfl rfl rfl
  · refine sm_go 2 (s' := (24, ([lR 0, lI p1, lI p2, lR 74, lO], ([sI 3], (mSH W7.1 W7.2.1, (W7.2.2.1, W7.2.2.2)))))) ?_ rfl
    exact sm_retI rfl rfl rfl
def P_X11_stepEnd (p1 : Int) (p2 : Int) (G : mG) : Option (Int) :=
(ald G 59 30 ((p1 * 5) + p2)).bind fun v3 =>
(P_X11_hoursOf p1 p2 G).bind fun v4 =>
some (v3 + v4)
set_option maxRecDepth 100000 in
theorem T_X11_stepEnd (scr : mScr) (d : Nat) (r : List (Option Nat)) (tl : List mSh) (nk : Nat × Nat) (G : mG)  (p1 : Int) (p2 : Int) : SimC scr (d + 3) 199 [sR 56, sI p1, sI p2] (mSH r tl, (G, nk)) (e0I (mSH r tl, (G, nk))) (P_X11_stepEnd p1 p2 G) := by
  refine sm_callX (cs := mc_X11_stepEnd) (maxL := 3) (rk := 0) (o := 11) (hs := []) (d := d + 2) [lR 56, lI p1, lI p2] rfl rfl rfl rfl ?_
  unfold P_X11_stepEnd
  refine sm_go 7 (s' := (9, ([lR 56, lI p1, lI p2], ([sI ((p1 * 5) + p2), sR 59], (mSH r tl, (G, nk)))))) ?_ rfl
  refine sm_ald rfl rfl fun v3 => ?_
  refine sm_go 3 (s' := (13, ([lR 56, lI p1, lI p2], ([sI p2, sI p1, sR 56, sI v3], (mSH r tl, (G, nk)))))) ?_ rfl
  refine sm_callG (rest := [sI v3]) (T_X11_hoursOf scr d r tl nk G p1 p2) rfl (Or.inl rfl) rfl rfl rfl rfl (fun _ => rfl) (fun v4 => (16, ([lR 56, lI p1, lI p2], ([sI v4, sI v3], (mSH r tl, (G, nk)))))) (fun _ => rfl) fun v4 => ?_
  refine sm_go 1 (s' := (17, ([lR 56, lI p1, lI p2], ([sI (v3 + v4)], (mSH r tl, (G, nk)))))) ?_ rfl
  exact sm_retI rfl rfl rfl
def P_X11_isDone (p1 : Int) (p2 : Int) (p3 : Int) (G : mG) : Option (Bool) :=
(ald G 59 30 ((p1 * 5) + p2)).bind fun v4 =>
letK (some false) fun k6 =>
bif (ilt p3 v4) then
k6
else
(P_X11_stepEnd p1 p2 G).bind fun v7 =>
bif (ilt p3 v7) then
some true
else
k6
set_option maxRecDepth 100000 in
theorem T_X11_isDone (scr : mScr) (d : Nat) (r : List (Option Nat)) (tl : List mSh) (nk : Nat × Nat) (G : mG)  (p1 : Int) (p2 : Int) (p3 : Int) : SimC scr (d + 4) 198 [sR 56, sI p1, sI p2, sI p3] (mSH r tl, (G, nk)) (e0B (mSH r tl, (G, nk))) (P_X11_isDone p1 p2 p3 G) := by
  refine sm_callX (cs := mc_X11_isDone) (maxL := 4) (rk := 1) (o := 11) (hs := []) (d := d + 3) [lR 56, lI p1, lI p2, lI p3] rfl rfl rfl rfl ?_
  unfold P_X11_isDone
  refine sm_go 7 (s' := (9, ([lR 56, lI p1, lI p2, lI p3], ([sI ((p1 * 5) + p2), sR 59], (mSH r tl, (G, nk)))))) ?_ rfl
  refine sm_ald rfl rfl fun v4 => ?_
  refine sm_letK0 (S := fun (g5 : Unit) => (28, ([lR 56, lI p1, lI p2, lI p3], ([], (mSH r tl, (G, nk)))))) ?_ ?_
  · intro g5
    refine sm_go 1 (s' := (29, ([lR 56, lI p1, lI p2, lI p3], ([sI 0], (mSH r tl, (G, nk)))))) ?_ rfl
    exact sm_retB1 (b := false) rfl rfl
  · intro k6 hk6
    refine sm_go 1 (s' := (11, ([lR 56, lI p1, lI p2, lI p3], ([sI p3, sI v4], (mSH r tl, (G, nk)))))) ?_ rfl
    refine sm_if2 (t := (ilt p3 v4)) (pt := 28) rfl rfl rfl (fun _ => ?_) (fun _ => ?_)
    · exact hk6 ()
    · refine sm_go 4 (s' := (18, ([lR 56, lI p1, lI p2, lI p3], ([sI p2, sI p1, sR 56, sI p3], (mSH r tl, (G, nk)))))) ?_ rfl
      refine sm_callG (rest := [sI p3]) (T_X11_stepEnd scr d r tl nk G p1 p2) rfl (Or.inl rfl) rfl rfl rfl rfl (fun _ => rfl) (fun v7 => (21, ([lR 56, lI p1, lI p2, lI p3], ([sI v7, sI p3], (mSH r tl, (G, nk)))))) (fun _ => rfl) fun v7 => ?_
      refine sm_if2n (t := (ilt p3 v7)) (pt := 28) rfl rfl rfl (fun _ => ?_) (fun _ => ?_)
      · refine sm_go 2 (s' := (29, ([lR 56, lI p1, lI p2, lI p3], ([sI 1], (mSH r tl, (G, nk)))))) ?_ rfl
        exact sm_retB1 (b := true) rfl rfl
      · exact hk6 ()
