/-! ===== programs as functions, 25 0: printed by wip/whole/gen/gen_p_out.py ===== -/
def P_J7_fill_53178 (a an : Nat) (p1 : Int) (G : mG) : Option (mG) :=
loop2 LF (fun again5 (x2 : Int) (G3 : mG) =>
bif (ilt x2 (an : Int)) then
(ast G3 a an x2 p1).bind fun G6 =>
again5 (x2 + 1) G6
else
some G3) 0 G
set_option maxRecDepth 100000 in
theorem T_J7_fill_53178 (scr : mScr) (d : Nat) (r : List (Option Nat)) (tl : List mSh) (nk : Nat × Nat) (G : mG) (a an : Nat) (ha : (mSH r tl)[a]? = some (.inr (0, (an, []))))  (p1 : Int) : SimC scr (d + 1) 241 [sR a, sI p1] (mSH r tl, (G, nk)) (e1U r tl nk) (P_J7_fill_53178 a an p1 G) := by
  refine sm_callX (cs := mc_J7_fill_53178) (maxL := 4) (rk := 0) (o := 114) (hs := []) (d := d + 0) [lR a, lI p1, none, none] rfl rfl rfl rfl ?_
  unfold P_J7_fill_53178
  refine sm_go 3 (s' := (3, ([lR a, lI p1, lI 0, none], ([sR a], (mSH r tl, (G, nk)))))) ?_ rfl
  refine sm_al ha rfl ?_
  refine sm_go 1 (s' := (5, ([lR a, lI p1, lI 0, lI (an : Int)], ([], (mSH r tl, (G, nk)))))) ?_ rfl
  refine sm_loop2 (S := fun (g4 : Unit) (x2 : Int) (G3 : mG) => (5, ([lR a, lI p1, lI x2, lI (an : Int)], ([], (mSH r tl, (G3, nk)))))) ?_ LF () 0 G
  intro again5 hagain5 g4 x2 G3
  refine sm_go 2 (s' := (7, ([lR a, lI p1, lI x2, lI (an : Int)], ([sI (an : Int), sI x2], (mSH r tl, (G3, nk)))))) ?_ rfl
  refine sm_if2n (t := (ilt x2 (an : Int))) (pt := 20) rfl rfl rfl (fun _ => ?_) (fun _ => ?_)
  · refine sm_go 3 (s' := (13, ([lR a, lI p1, lI x2, lI (an : Int)], ([sI p1, sI x2, sR a], (mSH r tl, (G3, nk)))))) ?_ rfl
    refine sm_ast rfl ha fun G6 => ?_
    exact sm_go 2 (hagain5 () (x2 + 1) G6) rfl
  · exact sm_retU rfl rfl
def P_J7_fill_d0a16 (a an : Nat) (p1 : Int) (G : mG) : Option (mG) :=
loop2 LF (fun again5 (x2 : Int) (G3 : mG) =>
bif (ilt x2 (an : Int)) then
(ast G3 a an x2 p1).bind fun G6 =>
again5 (x2 + 1) G6
else
some G3) 0 G
set_option maxRecDepth 100000 in
theorem T_J7_fill_d0a16 (scr : mScr) (d : Nat) (r : List (Option Nat)) (tl : List mSh) (nk : Nat × Nat) (G : mG) (a an : Nat) (ha : (mSH r tl)[a]? = some (.inr (1, (an, []))))  (p1 : Int) : SimC scr (d + 1) 240 [sR a, sL p1] (mSH r tl, (G, nk)) (e1U r tl nk) (P_J7_fill_d0a16 a an p1 G) := by
  refine sm_callX (cs := mc_J7_fill_d0a16) (maxL := 5) (rk := 0) (o := 114) (hs := []) (d := d + 0) [lR a, lL p1, none, none, none] rfl rfl rfl rfl ?_
  unfold P_J7_fill_d0a16
  refine sm_go 3 (s' := (3, ([lR a, lL p1, none, lI 0, none], ([sR a], (mSH r tl, (G, nk)))))) ?_ rfl
  refine sm_al ha rfl ?_
  refine sm_go 1 (s' := (6, ([lR a, lL p1, none, lI 0, lI (an : Int)], ([], (mSH r tl, (G, nk)))))) ?_ rfl
  refine sm_loop2 (S := fun (g4 : Unit) (x2 : Int) (G3 : mG) => (6, ([lR a, lL p1, none, lI x2, lI (an : Int)], ([], (mSH r tl, (G3, nk)))))) ?_ LF () 0 G
  intro again5 hagain5 g4 x2 G3
  refine sm_go 2 (s' := (9, ([lR a, lL p1, none, lI x2, lI (an : Int)], ([sI (an : Int), sI x2], (mSH r tl, (G3, nk)))))) ?_ rfl
  refine sm_if2n (t := (ilt x2 (an : Int))) (pt := 22) rfl rfl rfl (fun _ => ?_) (fun _ => ?_)
  · refine sm_go 3 (s' := (15, ([lR a, lL p1, none, lI x2, lI (an : Int)], ([sL p1, sI x2, sR a], (mSH r tl, (G3, nk)))))) ?_ rfl
    refine sm_lst rfl ha fun G6 => ?_
    exact sm_go 2 (hagain5 () (x2 + 1) G6) rfl
  · exact sm_retU rfl rfl
def P_X7_copy (a an b bn : Nat) (G : mG) : Option (mG) :=
(acp G a an 0 b bn 0 (iMin (an : Int) (bn : Int))).bind fun G1 =>
some G1
set_option maxRecDepth 100000 in
theorem T_X7_copy (scr : mScr) (d : Nat) (r : List (Option Nat)) (tl : List mSh) (nk : Nat × Nat) (G : mG) (a an : Nat) (ha : (mSH r tl)[a]? = some (.inr (0, (an, [])))) (b bn : Nat) (hb : (mSH r tl)[b]? = some (.inr (0, (bn, []))))  : SimC scr (d + 1) 33 [sR a, sR b] (mSH r tl, (G, nk)) (e1U r tl nk) (P_X7_copy a an b bn G) := by
  refine sm_callX (cs := mc_X7_copy) (maxL := 2) (rk := 0) (o := 107) (hs := []) (d := d + 0) [lR a, lR b] rfl rfl rfl rfl ?_
  unfold P_X7_copy
  refine sm_go 5 (s' := (5, ([lR a, lR b], ([sR a, sI 0, sR b, sI 0, sR a], (mSH r tl, (G, nk)))))) ?_ rfl
  refine sm_al ha rfl ?_
  refine sm_go 1 (s' := (7, ([lR a, lR b], ([sR b, sI (an : Int), sI 0, sR b, sI 0, sR a], (mSH r tl, (G, nk)))))) ?_ rfl
  refine sm_al hb rfl ?_
  refine sm_go 1 (s' := (11, ([lR a, lR b], ([sI (iMin (an : Int) (bn : Int)), sI 0, sR b, sI 0, sR a], (mSH r tl, (G, nk)))))) ?_ rfl
  refine sm_acp rfl ha hb rfl fun G1 => ?_
  exact sm_retU rfl rfl
noncomputable def P_X10_needMachine (p1 : Int) (W : mW) : Option ((Unit ⊕ Nat) × mW) :=
letK (some (.inr 0, (W.1, (W.2.1, (W.2.2.1, (W.2.2.2.1 + 1, W.2.2.2.2 + 6)))))) fun k3 =>
bif (ilt p1 0) then
k3
else
bif (ilt p1 4) then
some (.inl (), W)
else
k3
set_option maxRecDepth 100000 in
theorem T_X10_needMachine (scr : mScr) (d : Nat) (W : mW)  (p1 : Int) : SimC scr (d + 1) 119 [sI p1] (mkM W) (e2U) (P_X10_needMachine p1 W) := by
  refine sm_callX (cs := mc_X10_needMachine) (maxL := 1) (rk := 0) (o := 110) (hs := []) (d := d + 0) [lI p1] rfl rfl rfl rfl ?_
  unfold P_X10_needMachine
  refine sm_letK0 (S := fun (g2 : Unit) => (9, ([lI p1], ([], (mSH W.1 W.2.1, (W.2.2.1, W.2.2.2)))))) ?_ ?_
  · intro g2
    exact sm_exc rfl rfl rfl rfl
  · intro k3 hk3
    refine sm_go 1 (s' := (1, ([lI p1], ([sI p1], (mSH W.1 W.2.1, (W.2.2.1, W.2.2.2)))))) ?_ rfl
    refine sm_if1 (t := (ilt p1 0)) (pt := 9) rfl rfl rfl (fun _ => ?_) (fun _ => ?_)
    · exact hk3 ()
    · refine sm_go 2 (s' := (6, ([lI p1], ([sI 4, sI p1], (mSH W.1 W.2.1, (W.2.2.1, W.2.2.2)))))) ?_ rfl
      refine sm_if2 (t := (ilt p1 4)) (pt := 20) rfl rfl rfl (fun _ => ?_) (fun _ => ?_)
      · exact sm_retU rfl rfl
      · exact hk3 ()
noncomputable def P_X10_needRange (p1 : Int) (p2 : Int) (p3 : Int) (W : mW) : Option ((Unit ⊕ Nat) × mW) :=
letK (some (.inr 1, (W.1, (W.2.1, (W.2.2.1, (W.2.2.2.1 + 1, W.2.2.2.2 + 6)))))) fun k5 =>
bif (ilt p1 p2) then
k5
else
bif (ilt p3 p1) then
k5
else
some (.inl (), W)
set_option maxRecDepth 100000 in
theorem T_X10_needRange (scr : mScr) (d : Nat) (W : mW)  (p1 : Int) (p2 : Int) (p3 : Int) : SimC scr (d + 1) 124 [sI p1, sI p2, sI p3] (mkM W) (e2U) (P_X10_needRange p1 p2 p3 W) := by
  refine sm_callX (cs := mc_X10_needRange) (maxL := 3) (rk := 0) (o := 110) (hs := []) (d := d + 0) [lI p1, lI p2, lI p3] rfl rfl rfl rfl ?_
  unfold P_X10_needRange
  refine sm_letK0 (S := fun (g4 : Unit) => (10, ([lI p1, lI p2, lI p3], ([], (mSH W.1 W.2.1, (W.2.2.1, W.2.2.2)))))) ?_ ?_
  · intro g4
    exact sm_exc rfl rfl rfl rfl
  · intro k5 hk5
    refine sm_go 2 (s' := (2, ([lI p1, lI p2, lI p3], ([sI p2, sI p1], (mSH W.1 W.2.1, (W.2.2.1, W.2.2.2)))))) ?_ rfl
    refine sm_if2 (t := (ilt p1 p2)) (pt := 10) rfl rfl rfl (fun _ => ?_) (fun _ => ?_)
    · exact hk5 ()
    · refine sm_go 2 (s' := (7, ([lI p1, lI p2, lI p3], ([sI p3, sI p1], (mSH W.1 W.2.1, (W.2.2.1, W.2.2.2)))))) ?_ rfl
      refine sm_if2n (t := (ilt p3 p1)) (pt := 21) rfl rfl rfl (fun _ => ?_) (fun _ => ?_)
      · exact hk5 ()
      · exact sm_retU rfl rfl
def P_X7_newClosure (p1 : Int) (p2 : Int) (p3 : Int) (G : mG) : Option (mG) :=
(ald G 9 4 p1).bind fun v4 =>
bif (ilt v4 4) then
(ast G 10 16 ((p1 * 4) + v4) p2).bind fun G5 =>
(ast G5 11 16 ((p1 * 4) + v4) p3).bind fun G6 =>
(ald G6 9 4 p1).bind fun v7 =>
(ast G6 9 4 p1 (v7 + 1)).bind fun G8 =>
some G8
else
some G
set_option maxRecDepth 100000 in
theorem T_X7_newClosure (scr : mScr) (d : Nat) (r : List (Option Nat)) (tl : List mSh) (nk : Nat × Nat) (G : mG)  (p1 : Int) (p2 : Int) (p3 : Int) : SimC scr (d + 1) 37 [sR 1, sI p1, sI p2, sI p3] (mSH r tl, (G, nk)) (e1U r tl nk) (P_X7_newClosure p1 p2 p3 G) := by
  refine sm_callX (cs := mc_X7_newClosure) (maxL := 5) (rk := 0) (o := 7) (hs := []) (d := d + 0) [lR 1, lI p1, lI p2, lI p3, none] rfl rfl rfl rfl ?_
  unfold P_X7_newClosure
  refine sm_go 3 (s' := (5, ([lR 1, lI p1, lI p2, lI p3, none], ([sI p1, sR 9], (mSH r tl, (G, nk)))))) ?_ rfl
  refine sm_ald rfl rfl fun v4 => ?_
  refine sm_go 3 (s' := (11, ([lR 1, lI p1, lI p2, lI p3, lI v4], ([sI 4, sI v4], (mSH r tl, (G, nk)))))) ?_ rfl
  refine sm_if2n (t := (ilt v4 4)) (pt := 48) rfl rfl rfl (fun _ => ?_) (fun _ => ?_)
  · refine sm_go 8 (s' := (25, ([lR 1, lI p1, lI p2, lI p3, lI v4], ([sI p2, sI ((p1 * 4) + v4), sR 10], (mSH r tl, (G, nk)))))) ?_ rfl
    refine sm_ast rfl rfl fun G5 => ?_
    refine sm_go 8 (s' := (37, ([lR 1, lI p1, lI p2, lI p3, lI v4], ([sI p3, sI ((p1 * 4) + v4), sR 11], (mSH r tl, (G5, nk)))))) ?_ rfl
    refine sm_ast rfl rfl fun G6 => ?_
    refine sm_go 4 (s' := (44, ([lR 1, lI p1, lI p2, lI p3, lI v4], ([sI p1, sR 9, sI p1, sR 9], (mSH r tl, (G6, nk)))))) ?_ rfl
    refine sm_ald rfl rfl fun v7 => ?_
    refine sm_go 2 (s' := (47, ([lR 1, lI p1, lI p2, lI p3, lI v4], ([sI (v7 + 1), sI p1, sR 9], (mSH r tl, (G6, nk)))))) ?_ rfl
    refine sm_ast rfl rfl fun G8 => ?_
    exact sm_retU rfl rfl
  · exact sm_retU rfl rfl
def P_X8_clear (t : Nat) (G : mG) : Option (mG) :=
(pst G t 1 0).bind fun G1 =>
(P_J7_fill_53178 (t+2) 6 0 G1).bind fun G2 =>
(P_J7_fill_53178 (t+3) 4 0 G2).bind fun G3 =>
some G3
set_option maxRecDepth 100000 in
theorem T_X8_clear_17 (scr : mScr) (d : Nat) (r : List (Option Nat)) (tl : List mSh) (nk : Nat × Nat) (G : mG)  : SimC scr (d + 2) 47 [sR 17] (mSH r tl, (G, nk)) (e1U r tl nk) (P_X8_clear 17 G) := by
  refine sm_callX (cs := mc_X8_clear) (maxL := 1) (rk := 0) (o := 8) (hs := []) (d := d + 1) [lR 17] rfl rfl rfl rfl ?_
  unfold P_X8_clear
  refine sm_go 2 (s' := (2, ([lR 17], ([sI 0, sR 17], (mSH r tl, (G, nk)))))) ?_ rfl
  refine sm_pst rfl rfl rfl fun G1 => ?_
  refine sm_go 3 (s' := (10, ([lR 17], ([sI 0, sR 19], (mSH r tl, (G1, nk)))))) ?_ rfl
  refine sm_callG (rest := []) (T_J7_fill_53178 scr d r tl nk G1 19 6 rfl 0) rfl (Or.inr (Or.inl rfl)) rfl rfl rfl rfl (fun _ => rfl) (fun G2 => (13, ([lR 17], ([], (mSH r tl, (G2, nk)))))) (fun _ => rfl) fun G2 => ?_
  refine sm_go 3 (s' := (18, ([lR 17], ([sI 0, sR 20], (mSH r tl, (G2, nk)))))) ?_ rfl
  refine sm_callG (rest := []) (T_J7_fill_53178 scr d r tl nk G2 20 4 rfl 0) rfl (Or.inr (Or.inl rfl)) rfl rfl rfl rfl (fun _ => rfl) (fun G3 => (21, ([lR 17], ([], (mSH r tl, (G3, nk)))))) (fun _ => rfl) fun G3 => ?_
  exact sm_retU rfl rfl
def P_X7_stepTotal (G : mG) : Option (Int) :=
loop2 LF (fun again4 (x1 : Int) (x2 : Int) =>
bif (ilt x2 (G 1 0)) then
(ald G 6 6 x2).bind fun v5 =>
again4 (x1 + v5) (x2 + 1)
else
some x1) 0 0
set_option maxRecDepth 100000 in
theorem T_X7_stepTotal (scr : mScr) (d : Nat) (r : List (Option Nat)) (tl : List mSh) (nk : Nat × Nat) (G : mG)  : SimC scr (d + 1) 40 [sR 1] (mSH r tl, (G, nk)) (e0I (mSH r tl, (G, nk))) (P_X7_stepTotal G) := by
  refine sm_callX (cs := mc_X7_stepTotal) (maxL := 3) (rk := 0) (o := 7) (hs := []) (d := d + 0) [lR 1, none, none] rfl rfl rfl rfl ?_
  unfold P_X7_stepTotal
  refine sm_go 4 (s' := (4, ([lR 1, lI 0, lI 0], ([], (mSH r tl, (G, nk)))))) ?_ rfl
  refine sm_loop2 (S := fun (g3 : Unit) (x1 : Int) (x2 : Int) => (4, ([lR 1, lI x1, lI x2], ([], (mSH r tl, (G, nk)))))) ?_ LF () 0 0
  intro again4 hagain4 g3 x1 x2
  refine sm_go 3 (s' := (9, ([lR 1, lI x1, lI x2], ([sI (G 1 0), sI x2], (mSH r tl, (G, nk)))))) ?_ rfl
  refine sm_if2n (t := (ilt x2 (G 1 0))) (pt := 27) rfl rfl rfl (fun _ => ?_) (fun _ => ?_)
  · refine sm_go 4 (s' := (18, ([lR 1, lI x1, lI x2], ([sI x2, sR 6, sI x1], (mSH r tl, (G, nk)))))) ?_ rfl
    refine sm_ald rfl rfl fun v5 => ?_
    exact sm_go 4 (hagain4 () (x1 + v5) (x2 + 1)) rfl
  · refine sm_go 1 (s' := (28, ([lR 1, lI x1, lI x2], ([sI x1], (mSH r tl, (G, nk)))))) ?_ rfl
    exact sm_retI rfl rfl rfl
def P_X8_nextStep (t : Nat) (p1 : Int) (G : mG) : Option (Int) :=
(ald G (t+2) 6 p1).bind fun v2 =>
some ((p1 * 5) + v2)
set_option maxRecDepth 100000 in
theorem T_X8_nextStep_17 (scr : mScr) (d : Nat) (r : List (Option Nat)) (tl : List mSh) (nk : Nat × Nat) (G : mG)  (p1 : Int) : SimC scr (d + 1) 50 [sR 17, sI p1] (mSH r tl, (G, nk)) (e0I (mSH r tl, (G, nk))) (P_X8_nextStep 17 p1 G) := by
  refine sm_callX (cs := mc_X8_nextStep) (maxL := 2) (rk := 0) (o := 8) (hs := []) (d := d + 0) [lR 17, lI p1] rfl rfl rfl rfl ?_
  unfold P_X8_nextStep
  refine sm_go 6 (s' := (8, ([lR 17, lI p1], ([sI p1, sR 19, sI (p1 * 5)], (mSH r tl, (G, nk)))))) ?_ rfl
  refine sm_ald rfl rfl fun v2 => ?_
  refine sm_go 1 (s' := (10, ([lR 17, lI p1], ([sI ((p1 * 5) + v2)], (mSH r tl, (G, nk)))))) ?_ rfl
  exact sm_retI rfl rfl rfl
def P_X8_hasLeft (t : Nat) (p1 : Int) (G : mG) : Option (Bool) :=
letK (some false) fun k3 =>
bif (ilt p1 0) then
k3
else
bif (ilt p1 (G 1 0)) then
(ald G (t+2) 6 p1).bind fun v4 =>
(ald G 6 6 p1).bind fun v5 =>
bif (ilt v4 v5) then
some true
else
k3
else
k3
set_option maxRecDepth 100000 in
theorem T_X8_hasLeft_17 (scr : mScr) (d : Nat) (r : List (Option Nat)) (tl : List mSh) (nk : Nat × Nat) (G : mG)  (p1 : Int) : SimC scr (d + 1) 48 [sR 17, sI p1] (mSH r tl, (G, nk)) (e0B (mSH r tl, (G, nk))) (P_X8_hasLeft 17 p1 G) := by
  refine sm_callX (cs := mc_X8_hasLeft) (maxL := 2) (rk := 1) (o := 8) (hs := []) (d := d + 0) [lR 17, lI p1] rfl rfl rfl rfl ?_
  unfold P_X8_hasLeft
  refine sm_letK0 (S := fun (g2 : Unit) => (37, ([lR 17, lI p1], ([], (mSH r tl, (G, nk)))))) ?_ ?_
  · intro g2
    refine sm_go 1 (s' := (38, ([lR 17, lI p1], ([sI 0], (mSH r tl, (G, nk)))))) ?_ rfl
    exact sm_retB1 (b := false) rfl rfl
  · intro k3 hk3
    refine sm_go 1 (s' := (1, ([lR 17, lI p1], ([sI p1], (mSH r tl, (G, nk)))))) ?_ rfl
    refine sm_if1 (t := (ilt p1 0)) (pt := 37) rfl rfl rfl (fun _ => ?_) (fun _ => ?_)
    · exact hk3 ()
    · refine sm_go 4 (s' := (12, ([lR 17, lI p1], ([sI (G 1 0), sI p1], (mSH r tl, (G, nk)))))) ?_ rfl
      refine sm_if2n (t := (ilt p1 (G 1 0))) (pt := 37) rfl rfl rfl (fun _ => ?_) (fun _ => ?_)
      · refine sm_go 3 (s' := (20, ([lR 17, lI p1], ([sI p1, sR 19], (mSH r tl, (G, nk)))))) ?_ rfl
        refine sm_ald rfl rfl fun v4 => ?_
        refine sm_go 4 (s' := (29, ([lR 17, lI p1], ([sI p1, sR 6, sI v4], (mSH r tl, (G, nk)))))) ?_ rfl
        refine sm_ald rfl rfl fun v5 => ?_
        refine sm_if2n (t := (ilt v4 v5)) (pt := 37) rfl rfl rfl (fun _ => ?_) (fun _ => ?_)
        · refine sm_go 2 (s' := (38, ([lR 17, lI p1], ([sI 1], (mSH r tl, (G, nk)))))) ?_ rfl
          exact sm_retB1 (b := true) rfl rfl
        · exact hk3 ()
      · exact hk3 ()
def P_X8_lastOn (t : Nat) (p1 : Int) (G : mG) : Option (Int) :=
(ald G (t+3) 4 p1).bind fun v2 =>
bif (ieq v2 0) then
some (-1)
else
(ald G (t+3) 4 p1).bind fun v3 =>
(ald G (t+4) 120 (((p1 * 30) + v3) - 1)).bind fun v4 =>
some v4
set_option maxRecDepth 100000 in
theorem T_X8_lastOn_17 (scr : mScr) (d : Nat) (r : List (Option Nat)) (tl : List mSh) (nk : Nat × Nat) (G : mG)  (p1 : Int) : SimC scr (d + 1) 52 [sR 17, sI p1] (mSH r tl, (G, nk)) (e0I (mSH r tl, (G, nk))) (P_X8_lastOn 17 p1 G) := by
  refine sm_callX (cs := mc_X8_lastOn) (maxL := 2) (rk := 0) (o := 8) (hs := []) (d := d + 0) [lR 17, lI p1] rfl rfl rfl rfl ?_
  unfold P_X8_lastOn
  refine sm_go 3 (s' := (5, ([lR 17, lI p1], ([sI p1, sR 20], (mSH r tl, (G, nk)))))) ?_ rfl
  refine sm_ald rfl rfl fun v2 => ?_
  refine sm_if1n (t := (ieq v2 0)) (pt := 13) rfl rfl rfl (fun _ => ?_) (fun _ => ?_)
  · refine sm_go 2 (s' := (31, ([lR 17, lI p1], ([sI (-1)], (mSH r tl, (G, nk)))))) ?_ rfl
    exact sm_retI rfl rfl rfl
  · refine sm_go 8 (s' := (26, ([lR 17, lI p1], ([sI p1, sR 20, sI (p1 * 30), sR 21], (mSH r tl, (G, nk)))))) ?_ rfl
    refine sm_ald rfl rfl fun v3 => ?_
    refine sm_go 3 (s' := (30, ([lR 17, lI p1], ([sI (((p1 * 30) + v3) - 1), sR 21], (mSH r tl, (G, nk)))))) ?_ rfl
    refine sm_ald rfl rfl fun v4 => ?_
    exact sm_retI rfl rfl rfl
def P_X8_endOfStep (t : Nat) (p1 : Int) (G : mG) : Option (Int) :=
(ald G (t+5) 30 p1).bind fun v2 =>
(ald G 8 30 p1).bind fun v3 =>
some (v2 + v3)
set_option maxRecDepth 100000 in
theorem T_X8_endOfStep_17 (scr : mScr) (d : Nat) (r : List (Option Nat)) (tl : List mSh) (nk : Nat × Nat) (G : mG)  (p1 : Int) : SimC scr (d + 1) 49 [sR 17, sI p1] (mSH r tl, (G, nk)) (e0I (mSH r tl, (G, nk))) (P_X8_endOfStep 17 p1 G) := by
  refine sm_callX (cs := mc_X8_endOfStep) (maxL := 2) (rk := 0) (o := 8) (hs := []) (d := d + 0) [lR 17, lI p1] rfl rfl rfl rfl ?_
  unfold P_X8_endOfStep
  refine sm_go 3 (s' := (5, ([lR 17, lI p1], ([sI p1, sR 22], (mSH r tl, (G, nk)))))) ?_ rfl
  refine sm_ald rfl rfl fun v2 => ?_
  refine sm_go 4 (s' := (14, ([lR 17, lI p1], ([sI p1, sR 8, sI v2], (mSH r tl, (G, nk)))))) ?_ rfl
  refine sm_ald rfl rfl fun v3 => ?_
  refine sm_go 1 (s' := (16, ([lR 17, lI p1], ([sI (v2 + v3)], (mSH r tl, (G, nk)))))) ?_ rfl
  exact sm_retI rfl rfl rfl
def P_X8_readyHour (t : Nat) (p1 : Int) (G : mG) : Option (Int) :=
(ald G (t+2) 6 p1).bind fun v2 =>
bif (ieq v2 0) then
(ald G 2 6 p1).bind fun v5 =>
some v5
else
(P_X8_nextStep t p1 G).bind fun v3 =>
(P_X8_endOfStep t (v3 - 1) G).bind fun v4 =>
some v4
set_option maxRecDepth 100000 in
theorem T_X8_readyHour_17 (scr : mScr) (d : Nat) (r : List (Option Nat)) (tl : List mSh) (nk : Nat × Nat) (G : mG)  (p1 : Int) : SimC scr (d + 2) 51 [sR 17, sI p1] (mSH r tl, (G, nk)) (e0I (mSH r tl, (G, nk))) (P_X8_readyHour 17 p1 G) := by
  refine sm_callX (cs := mc_X8_readyHour) (maxL := 2) (rk := 0) (o := 8) (hs := []) (d := d + 1) [lR 17, lI p1] rfl rfl rfl rfl ?_
  unfold P_X8_readyHour
  refine sm_go 3 (s' := (5, ([lR 17, lI p1], ([sI p1, sR 19], (mSH r tl, (G, nk)))))) ?_ rfl
  refine sm_ald rfl rfl fun v2 => ?_
  refine sm_if1n (t := (ieq v2 0)) (pt := 21) rfl rfl rfl (fun _ => ?_) (fun _ => ?_)
  · refine sm_go 4 (s' := (17, ([lR 17, lI p1], ([sI p1, sR 2], (mSH r tl, (G, nk)))))) ?_ rfl
    refine sm_ald rfl rfl fun v5 => ?_
    refine sm_go 1 (s' := (32, ([lR 17, lI p1], ([sI v5], (mSH r tl, (G, nk)))))) ?_ rfl
    exact sm_retI rfl rfl rfl
  · refine sm_go 3 (s' := (24, ([lR 17, lI p1], ([sI p1, sR 17, sR 17], (mSH r tl, (G, nk)))))) ?_ rfl
    refine sm_callG (rest := [sR 17]) (T_X8_nextStep_17 scr d r tl nk G p1) rfl (Or.inl rfl) rfl rfl rfl rfl (fun _ => rfl) (fun v3 => (27, ([lR 17, lI p1], ([sI v3, sR 17], (mSH r tl, (G, nk)))))) (fun _ => rfl) fun v3 => ?_
    refine sm_go 2 (s' := (29, ([lR 17, lI p1], ([sI (v3 - 1), sR 17], (mSH r tl, (G, nk)))))) ?_ rfl
    refine sm_callG (rest := []) (T_X8_endOfStep_17 scr d r tl nk G (v3 - 1)) rfl (Or.inl rfl) rfl rfl rfl rfl (fun _ => rfl) (fun v4 => (32, ([lR 17, lI p1], ([sI v4], (mSH r tl, (G, nk)))))) (fun _ => rfl) fun v4 => ?_
    exact sm_retI rfl rfl rfl
def P_X7_firstOpen (p1 : Int) (p2 : Int) (p3 : Int) (G : mG) : Option (Int) :=
loop2 LF (fun again7 (x4 : Int) (x5 : Int) =>
(ald G 9 4 p1).bind fun v8 =>
bif (ilt x5 v8) then
letK (fun (x9 : Int) =>
again7 x9 (x5 + 1)) fun k11 =>
loop2 LF (fun again15 (x12 : Int) (x13 : Int) =>
(ald G 9 4 p1).bind fun v16 =>
bif (ilt x13 v16) then
(ald G 11 16 ((p1 * 4) + x13)).bind fun v17 =>
letK (fun (x18 : Int) =>
again15 x18 (x13 + 1)) fun k20 =>
bif (ilt x12 v17) then
(ald G 10 16 ((p1 * 4) + x13)).bind fun v21 =>
bif (ilt v21 (x12 + p3)) then
(ald G 11 16 ((p1 * 4) + x13)).bind fun v22 =>
k20 v22
else
k20 x12
else
k20 x12
else
k11 x12) x4 0
else
some x4) p2 0
set_option maxRecDepth 100000 in
theorem T_X7_firstOpen (scr : mScr) (d : Nat) (r : List (Option Nat)) (tl : List mSh) (nk : Nat × Nat) (G : mG)  (p1 : Int) (p2 : Int) (p3 : Int) : SimC scr (d + 1) 45 [sR 1, sI p1, sI p2, sI p3] (mSH r tl, (G, nk)) (e0I (mSH r tl, (G, nk))) (P_X7_firstOpen p1 p2 p3 G) := by
  refine sm_callX (cs := mc_X7_firstOpen) (maxL := 8) (rk := 0) (o := 7) (hs := []) (d := d + 0) [lR 1, lI p1, lI p2, lI p3, none, none, none, none] rfl rfl rfl rfl ?_
  unfold P_X7_firstOpen
  refine sm_go 4 (s' := (6, ([lR 1, lI p1, lI p2, lI p3, lI p2, lI 0, none, none], ([], (mSH r tl, (G, nk)))))) ?_ rfl
  refine sm_loop2 (S := fun (g6 : Option mV × Option mV) (x4 : Int) (x5 : Int) => (6, ([lR 1, lI p1, lI p2, lI p3, lI x4, lI x5, g6.1, g6.2], ([], (mSH r tl, (G, nk)))))) ?_ LF (none, none) p2 0
  intro again7 hagain7 g6 x4 x5
  refine sm_go 4 (s' := (13, ([lR 1, lI p1, lI p2, lI p3, lI x4, lI x5, g6.1, g6.2], ([sI p1, sR 9, sI x5], (mSH r tl, (G, nk)))))) ?_ rfl
  refine sm_ald rfl rfl fun v8 => ?_
  refine sm_if2n (t := (ilt x5 v8)) (pt := 86) rfl rfl rfl (fun _ => ?_) (fun _ => ?_)
  · refine sm_go 2 (s' := (20, ([lR 1, lI p1, lI p2, lI p3, lI x4, lI x5, lI 0, g6.2], ([], (mSH r tl, (G, nk)))))) ?_ rfl
    refine sm_letK1 (S := fun (g10 : Option mV × Option mV) (x9 : Int) => (80, ([lR 1, lI p1, lI p2, lI p3, lI x9, lI x5, g10.1, g10.2], ([], (mSH r tl, (G, nk)))))) ?_ ?_
    · intro g10 x9
      exact sm_go 2 (hagain7 (g10.1, g10.2) x9 (x5 + 1)) rfl
    · intro k11 hk11
      refine sm_loop2 (S := fun (g14 : Option mV) (x12 : Int) (x13 : Int) => (20, ([lR 1, lI p1, lI p2, lI p3, lI x12, lI x5, lI x13, g14], ([], (mSH r tl, (G, nk)))))) ?_ LF (g6.2) x4 0
      intro again15 hagain15 g14 x12 x13
      refine sm_go 4 (s' := (27, ([lR 1, lI p1, lI p2, lI p3, lI x12, lI x5, lI x13, g14], ([sI p1, sR 9, sI x13], (mSH r tl, (G, nk)))))) ?_ rfl
      refine sm_ald rfl rfl fun v16 => ?_
      refine sm_if2n (t := (ilt x13 v16)) (pt := 80) rfl rfl rfl (fun _ => ?_) (fun _ => ?_)
      · refine sm_go 10 (s' := (47, ([lR 1, lI p1, lI p2, lI p3, lI x12, lI x5, lI x13, lI ((p1 * 4) + x13)], ([sI ((p1 * 4) + x13), sR 11, sI x12], (mSH r tl, (G, nk)))))) ?_ rfl
        refine sm_ald rfl rfl fun v17 => ?_
        refine sm_letK1 (S := fun (g19 : Unit) (x18 : Int) => (74, ([lR 1, lI p1, lI p2, lI p3, lI x18, lI x5, lI x13, lI ((p1 * 4) + x13)], ([], (mSH r tl, (G, nk)))))) ?_ ?_
        · intro g19 x18
          exact sm_go 2 (hagain15 (lI ((p1 * 4) + x13)) x18 (x13 + 1)) rfl
        · intro k20 hk20
          refine sm_if2n (t := (ilt x12 v17)) (pt := 74) rfl rfl rfl (fun _ => ?_) (fun _ => ?_)
          · refine sm_go 3 (s' := (57, ([lR 1, lI p1, lI p2, lI p3, lI x12, lI x5, lI x13, lI ((p1 * 4) + x13)], ([sI ((p1 * 4) + x13), sR 10], (mSH r tl, (G, nk)))))) ?_ rfl
            refine sm_ald rfl rfl fun v21 => ?_
            refine sm_go 3 (s' := (62, ([lR 1, lI p1, lI p2, lI p3, lI x12, lI x5, lI x13, lI ((p1 * 4) + x13)], ([sI (x12 + p3), sI v21], (mSH r tl, (G, nk)))))) ?_ rfl
            refine sm_if2n (t := (ilt v21 (x12 + p3))) (pt := 74) rfl rfl rfl (fun _ => ?_) (fun _ => ?_)
            · refine sm_go 3 (s' := (71, ([lR 1, lI p1, lI p2, lI p3, lI x12, lI x5, lI x13, lI ((p1 * 4) + x13)], ([sI ((p1 * 4) + x13), sR 11], (mSH r tl, (G, nk)))))) ?_ rfl
              refine sm_ald rfl rfl fun v22 => ?_
              exact sm_go 1 (hk20 () v22) rfl
            · exact hk20 () x12
          · exact hk20 () x12
      · exact hk11 (lI x13, g14) x12
  · refine sm_go 1 (s' := (88, ([lR 1, lI p1, lI p2, lI p3, lI x4, lI x5, g6.1, g6.2], ([sI x4], (mSH r tl, (G, nk)))))) ?_ rfl
    exact sm_retI rfl rfl rfl
def P_X8_needsTool (t : Nat) (p1 : Int) (p2 : Int) (G : mG) : Option (Bool) :=
(ald G 7 30 p2).bind fun v3 =>
(ald G 12 4 v3).bind fun v4 =>
letK (some false) fun k6 =>
bif (ieq v4 0) then
k6
else
(ald G (t+8) 30 p1).bind fun v7 =>
(ald G 8 30 p2).bind fun v8 =>
bif (ilt v4 (v7 + v8)) then
some true
else
k6
set_option maxRecDepth 100000 in
theorem T_X8_needsTool_17 (scr : mScr) (d : Nat) (r : List (Option Nat)) (tl : List mSh) (nk : Nat × Nat) (G : mG)  (p1 : Int) (p2 : Int) : SimC scr (d + 1) 53 [sR 17, sI p1, sI p2] (mSH r tl, (G, nk)) (e0B (mSH r tl, (G, nk))) (P_X8_needsTool 17 p1 p2 G) := by
  refine sm_callX (cs := mc_X8_needsTool) (maxL := 4) (rk := 1) (o := 8) (hs := []) (d := d + 0) [lR 17, lI p1, lI p2, none] rfl rfl rfl rfl ?_
  unfold P_X8_needsTool
  refine sm_go 7 (s' := (15, ([lR 17, lI p1, lI p2, none], ([sI p2, sR 7, sR 12], (mSH r tl, (G, nk)))))) ?_ rfl
  refine sm_ald rfl rfl fun v3 => ?_
  refine sm_ald rfl rfl fun v4 => ?_
  refine sm_letK0 (S := fun (g5 : Unit) => (46, ([lR 17, lI p1, lI p2, lI v4], ([], (mSH r tl, (G, nk)))))) ?_ ?_
  · intro g5
    refine sm_go 1 (s' := (47, ([lR 17, lI p1, lI p2, lI v4], ([sI 0], (mSH r tl, (G, nk)))))) ?_ rfl
    exact sm_retB1 (b := false) rfl rfl
  · intro k6 hk6
    refine sm_go 2 (s' := (19, ([lR 17, lI p1, lI p2, lI v4], ([sI v4], (mSH r tl, (G, nk)))))) ?_ rfl
    refine sm_if1 (t := (ieq v4 0)) (pt := 46) rfl rfl rfl (fun _ => ?_) (fun _ => ?_)
    · exact hk6 ()
    · refine sm_go 3 (s' := (27, ([lR 17, lI p1, lI p2, lI v4], ([sI p1, sR 25], (mSH r tl, (G, nk)))))) ?_ rfl
      refine sm_ald rfl rfl fun v7 => ?_
      refine sm_go 4 (s' := (36, ([lR 17, lI p1, lI p2, lI v4], ([sI p2, sR 8, sI v7], (mSH r tl, (G, nk)))))) ?_ rfl
      refine sm_ald rfl rfl fun v8 => ?_
      refine sm_go 2 (s' := (39, ([lR 17, lI p1, lI p2, lI v4], ([sI v4, sI (v7 + v8)], (mSH r tl, (G, nk)))))) ?_ rfl
      refine sm_if2n (t := (ilt v4 (v7 + v8))) (pt := 46) rfl rfl rfl (fun _ => ?_) (fun _ => ?_)
      · refine sm_go 2 (s' := (47, ([lR 17, lI p1, lI p2, lI v4], ([sI 1], (mSH r tl, (G, nk)))))) ?_ rfl
        exact sm_retB1 (b := true) rfl rfl
      · exact hk6 ()
def P_X8_hoursBetween (t : Nat) (p1 : Int) (p2 : Int) (G : mG) : Option (Int) :=
(ald G 5 6 (iDiv p1 5)).bind fun v3 =>
(ald G 5 6 (iDiv p2 5)).bind fun v4 =>
(ald G 14 16 ((v3 * 4) + v4)).bind fun v5 =>
(P_X8_needsTool t p1 p2 G).bind fun v6 =>
bif v6 then
(ald G 7 30 p2).bind fun v7 =>
(ald G 13 4 v7).bind fun v8 =>
some (v5 + v8)
else
some v5
set_option maxRecDepth 100000 in
theorem T_X8_hoursBetween_17 (scr : mScr) (d : Nat) (r : List (Option Nat)) (tl : List mSh) (nk : Nat × Nat) (G : mG)  (p1 : Int) (p2 : Int) : SimC scr (d + 2) 54 [sR 17, sI p1, sI p2] (mSH r tl, (G, nk)) (e0I (mSH r tl, (G, nk))) (P_X8_hoursBetween 17 p1 p2 G) := by
  refine sm_callX (cs := mc_X8_hoursBetween) (maxL := 4) (rk := 0) (o := 8) (hs := []) (d := d + 1) [lR 17, lI p1, lI p2, none] rfl rfl rfl rfl ?_
  unfold P_X8_hoursBetween
  refine sm_go 9 (s' := (17, ([lR 17, lI p1, lI p2, none], ([sI (iDiv p1 5), sR 5, sR 14], (mSH r tl, (G, nk)))))) ?_ rfl
  refine sm_ald rfl rfl fun v3 => ?_
  refine sm_go 8 (s' := (30, ([lR 17, lI p1, lI p2, none], ([sI (iDiv p2 5), sR 5, sI (v3 * 4), sR 14], (mSH r tl, (G, nk)))))) ?_ rfl
  refine sm_ald rfl rfl fun v4 => ?_
  refine sm_go 1 (s' := (32, ([lR 17, lI p1, lI p2, none], ([sI ((v3 * 4) + v4), sR 14], (mSH r tl, (G, nk)))))) ?_ rfl
  refine sm_ald rfl rfl fun v5 => ?_
  refine sm_go 4 (s' := (37, ([lR 17, lI p1, lI p2, lI v5], ([sI p2, sI p1, sR 17], (mSH r tl, (G, nk)))))) ?_ rfl
  refine sm_callG (rest := []) (T_X8_needsTool_17 scr d r tl nk G p1 p2) rfl (Or.inl rfl) rfl rfl rfl rfl (fun _ => rfl) (fun v6 => (40, ([lR 17, lI p1, lI p2, lI v5], ([sI (b2i v6)], (mSH r tl, (G, nk)))))) (fun _ => rfl) fun v6 => ?_
  refine sm_if1n (t := v6) (pt := 65) (mCmpB_eq v6) rfl rfl (fun _ => ?_) (fun _ => ?_)
  · refine sm_go 8 (s' := (59, ([lR 17, lI p1, lI p2, lI v5], ([sI p2, sR 7, sR 13, sI v5], (mSH r tl, (G, nk)))))) ?_ rfl
    refine sm_ald rfl rfl fun v7 => ?_
    refine sm_ald rfl rfl fun v8 => ?_
    refine sm_go 2 (s' := (66, ([lR 17, lI p1, lI p2, lI v5], ([sI (v5 + v8)], (mSH r tl, (G, nk)))))) ?_ rfl
    exact sm_retI rfl rfl rfl
  · refine sm_go 1 (s' := (66, ([lR 17, lI p1, lI p2, lI v5], ([sI v5], (mSH r tl, (G, nk)))))) ?_ rfl
    exact sm_retI rfl rfl rfl
def P_X8_firstHour (t : Nat) (p1 : Int) (p2 : Int) (G : mG) : Option (Int) :=
(P_X8_nextStep t p1 G).bind fun v3 =>
(ald G 7 30 v3).bind fun v4 =>
(P_X8_lastOn t v4 G).bind fun v5 =>
(P_X8_readyHour t p1 G).bind fun v6 =>
letK (fun (x7 : Int) =>
(ald G 8 30 v3).bind fun v9 =>
(P_X7_firstOpen v4 x7 v9 G).bind fun v10 =>
some v10) fun k11 =>
bif (ieq v5 (-1)) then
k11 (iMax v6 p2)
else
(P_X8_endOfStep t v5 G).bind fun v12 =>
(P_X8_hoursBetween t v5 v3 G).bind fun v13 =>
k11 (iMax (iMax v6 p2) (v12 + v13))
set_option maxRecDepth 100000 in
theorem T_X8_firstHour_17 (scr : mScr) (d : Nat) (r : List (Option Nat)) (tl : List mSh) (nk : Nat × Nat) (G : mG)  (p1 : Int) (p2 : Int) : SimC scr (d + 3) 55 [sR 17, sI p1, sI p2] (mSH r tl, (G, nk)) (e0I (mSH r tl, (G, nk))) (P_X8_firstHour 17 p1 p2 G) := by
  refine sm_callX (cs := mc_X8_firstHour) (maxL := 7) (rk := 0) (o := 8) (hs := []) (d := d + 2) [lR 17, lI p1, lI p2, none, none, none, none] rfl rfl rfl rfl ?_
  unfold P_X8_firstHour
  refine sm_go 2 (s' := (2, ([lR 17, lI p1, lI p2, none, none, none, none], ([sI p1, sR 17], (mSH r tl, (G, nk)))))) ?_ rfl
  refine sm_callG (rest := []) (T_X8_nextStep_17 scr (d + 1) r tl nk G p1) rfl (Or.inl rfl) rfl rfl rfl rfl (fun _ => rfl) (fun v3 => (5, ([lR 17, lI p1, lI p2, none, none, none, none], ([sI v3], (mSH r tl, (G, nk)))))) (fun _ => rfl) fun v3 => ?_
  refine sm_go 5 (s' := (14, ([lR 17, lI p1, lI p2, lI v3, none, none, none], ([sI v3, sR 7], (mSH r tl, (G, nk)))))) ?_ rfl
  refine sm_ald rfl rfl fun v4 => ?_
  refine sm_go 3 (s' := (20, ([lR 17, lI p1, lI p2, lI v3, lI v4, none, none], ([sI v4, sR 17], (mSH r tl, (G, nk)))))) ?_ rfl
  refine sm_callG (rest := []) (T_X8_lastOn_17 scr (d + 1) r tl nk G v4) rfl (Or.inl rfl) rfl rfl rfl rfl (fun _ => rfl) (fun v5 => (23, ([lR 17, lI p1, lI p2, lI v3, lI v4, none, none], ([sI v5], (mSH r tl, (G, nk)))))) (fun _ => rfl) fun v5 => ?_
  refine sm_go 3 (s' := (27, ([lR 17, lI p1, lI p2, lI v3, lI v4, lI v5, none], ([sI p1, sR 17], (mSH r tl, (G, nk)))))) ?_ rfl
  refine sm_callG (rest := []) (T_X8_readyHour_17 scr d r tl nk G p1) rfl (Or.inl rfl) rfl rfl rfl rfl (fun _ => rfl) (fun v6 => (30, ([lR 17, lI p1, lI p2, lI v3, lI v4, lI v5, none], ([sI v6], (mSH r tl, (G, nk)))))) (fun _ => rfl) fun v6 => ?_
  refine sm_letK1 (S := fun (g8 : Unit) (x7 : Int) => (63, ([lR 17, lI p1, lI p2, lI v3, lI v4, lI v5, lI x7], ([], (mSH r tl, (G, nk)))))) ?_ ?_
  · intro g8 x7
    refine sm_go 8 (s' := (79, ([lR 17, lI p1, lI p2, lI v3, lI v4, lI v5, lI x7], ([sI v3, sR 8, sI x7, sI v4, sR 1], (mSH r tl, (G, nk)))))) ?_ rfl
    refine sm_ald rfl rfl fun v9 => ?_
    refine sm_callG (rest := []) (T_X7_firstOpen scr (d + 1) r tl nk G v4 x7 v9) rfl (Or.inl rfl) rfl rfl rfl rfl (fun _ => rfl) (fun v10 => (83, ([lR 17, lI p1, lI p2, lI v3, lI v4, lI v5, lI x7], ([sI v10], (mSH r tl, (G, nk)))))) (fun _ => rfl) fun v10 => ?_
    exact sm_retI rfl rfl rfl
  · intro k11 hk11
    refine sm_go 5 (s' := (39, ([lR 17, lI p1, lI p2, lI v3, lI v4, lI v5, lI (iMax v6 p2)], ([sI (-1), sI v5], (mSH r tl, (G, nk)))))) ?_ rfl
    refine sm_if2 (t := (ieq v5 (-1))) (pt := 63) rfl rfl rfl (fun _ => ?_) (fun _ => ?_)
    · exact hk11 () (iMax v6 p2)
    · refine sm_go 3 (s' := (47, ([lR 17, lI p1, lI p2, lI v3, lI v4, lI v5, lI (iMax v6 p2)], ([sI v5, sR 17, sI (iMax v6 p2)], (mSH r tl, (G, nk)))))) ?_ rfl
      refine sm_callG (rest := [sI (iMax v6 p2)]) (T_X8_endOfStep_17 scr (d + 1) r tl nk G v5) rfl (Or.inl rfl) rfl rfl rfl rfl (fun _ => rfl) (fun v12 => (50, ([lR 17, lI p1, lI p2, lI v3, lI v4, lI v5, lI (iMax v6 p2)], ([sI v12, sI (iMax v6 p2)], (mSH r tl, (G, nk)))))) (fun _ => rfl) fun v12 => ?_
      refine sm_go 3 (s' := (54, ([lR 17, lI p1, lI p2, lI v3, lI v4, lI v5, lI (iMax v6 p2)], ([sI v3, sI v5, sR 17, sI v12, sI (iMax v6 p2)], (mSH r tl, (G, nk)))))) ?_ rfl
      refine sm_callG (rest := [sI v12, sI (iMax v6 p2)]) (T_X8_hoursBetween_17 scr d r tl nk G v5 v3) rfl (Or.inl rfl) rfl rfl rfl rfl (fun _ => rfl) (fun v13 => (57, ([lR 17, lI p1, lI p2, lI v3, lI v4, lI v5, lI (iMax v6 p2)], ([sI v13, sI v12, sI (iMax v6 p2)], (mSH r tl, (G, nk)))))) (fun _ => rfl) fun v13 => ?_
      exact sm_go 3 (hk11 () (iMax (iMax v6 p2) (v12 + v13))) rfl
set_option maxRecDepth 100000 in
theorem T_X8_clear_26 (scr : mScr) (d : Nat) (r : List (Option Nat)) (tl : List mSh) (nk : Nat × Nat) (G : mG)  : SimC scr (d + 2) 47 [sR 26] (mSH r tl, (G, nk)) (e1U r tl nk) (P_X8_clear 26 G) := by
  refine sm_callX (cs := mc_X8_clear) (maxL := 1) (rk := 0) (o := 8) (hs := []) (d := d + 1) [lR 26] rfl rfl rfl rfl ?_
  unfold P_X8_clear
  refine sm_go 2 (s' := (2, ([lR 26], ([sI 0, sR 26], (mSH r tl, (G, nk)))))) ?_ rfl
  refine sm_pst rfl rfl rfl fun G1 => ?_
  refine sm_go 3 (s' := (10, ([lR 26], ([sI 0, sR 28], (mSH r tl, (G1, nk)))))) ?_ rfl
  refine sm_callG (rest := []) (T_J7_fill_53178 scr d r tl nk G1 28 6 rfl 0) rfl (Or.inr (Or.inl rfl)) rfl rfl rfl rfl (fun _ => rfl) (fun G2 => (13, ([lR 26], ([], (mSH r tl, (G2, nk)))))) (fun _ => rfl) fun G2 => ?_
  refine sm_go 3 (s' := (18, ([lR 26], ([sI 0, sR 29], (mSH r tl, (G2, nk)))))) ?_ rfl
  refine sm_callG (rest := []) (T_J7_fill_53178 scr d r tl nk G2 29 4 rfl 0) rfl (Or.inr (Or.inl rfl)) rfl rfl rfl rfl (fun _ => rfl) (fun G3 => (21, ([lR 26], ([], (mSH r tl, (G3, nk)))))) (fun _ => rfl) fun G3 => ?_
  exact sm_retU rfl rfl
set_option maxRecDepth 100000 in
theorem T_X8_hasLeft_26 (scr : mScr) (d : Nat) (r : List (Option Nat)) (tl : List mSh) (nk : Nat × Nat) (G : mG)  (p1 : Int) : SimC scr (d + 1) 48 [sR 26, sI p1] (mSH r tl, (G, nk)) (e0B (mSH r tl, (G, nk))) (P_X8_hasLeft 26 p1 G) := by
  refine sm_callX (cs := mc_X8_hasLeft) (maxL := 2) (rk := 1) (o := 8) (hs := []) (d := d + 0) [lR 26, lI p1] rfl rfl rfl rfl ?_
  unfold P_X8_hasLeft
  refine sm_letK0 (S := fun (g2 : Unit) => (37, ([lR 26, lI p1], ([], (mSH r tl, (G, nk)))))) ?_ ?_
  · intro g2
    refine sm_go 1 (s' := (38, ([lR 26, lI p1], ([sI 0], (mSH r tl, (G, nk)))))) ?_ rfl
    exact sm_retB1 (b := false) rfl rfl
  · intro k3 hk3
    refine sm_go 1 (s' := (1, ([lR 26, lI p1], ([sI p1], (mSH r tl, (G, nk)))))) ?_ rfl
    refine sm_if1 (t := (ilt p1 0)) (pt := 37) rfl rfl rfl (fun _ => ?_) (fun _ => ?_)
    · exact hk3 ()
    · refine sm_go 4 (s' := (12, ([lR 26, lI p1], ([sI (G 1 0), sI p1], (mSH r tl, (G, nk)))))) ?_ rfl
      refine sm_if2n (t := (ilt p1 (G 1 0))) (pt := 37) rfl rfl rfl (fun _ => ?_) (fun _ => ?_)
      · refine sm_go 3 (s' := (20, ([lR 26, lI p1], ([sI p1, sR 28], (mSH r tl, (G, nk)))))) ?_ rfl
        refine sm_ald rfl rfl fun v4 => ?_
        refine sm_go 4 (s' := (29, ([lR 26, lI p1], ([sI p1, sR 6, sI v4], (mSH r tl, (G, nk)))))) ?_ rfl
        refine sm_ald rfl rfl fun v5 => ?_
        refine sm_if2n (t := (ilt v4 v5)) (pt := 37) rfl rfl rfl (fun _ => ?_) (fun _ => ?_)
        · refine sm_go 2 (s' := (38, ([lR 26, lI p1], ([sI 1], (mSH r tl, (G, nk)))))) ?_ rfl
          exact sm_retB1 (b := true) rfl rfl
        · exact hk3 ()
      · exact hk3 ()
set_option maxRecDepth 100000 in
theorem T_X8_nextStep_26 (scr : mScr) (d : Nat) (r : List (Option Nat)) (tl : List mSh) (nk : Nat × Nat) (G : mG)  (p1 : Int) : SimC scr (d + 1) 50 [sR 26, sI p1] (mSH r tl, (G, nk)) (e0I (mSH r tl, (G, nk))) (P_X8_nextStep 26 p1 G) := by
  refine sm_callX (cs := mc_X8_nextStep) (maxL := 2) (rk := 0) (o := 8) (hs := []) (d := d + 0) [lR 26, lI p1] rfl rfl rfl rfl ?_
  unfold P_X8_nextStep
  refine sm_go 6 (s' := (8, ([lR 26, lI p1], ([sI p1, sR 28, sI (p1 * 5)], (mSH r tl, (G, nk)))))) ?_ rfl
  refine sm_ald rfl rfl fun v2 => ?_
  refine sm_go 1 (s' := (10, ([lR 26, lI p1], ([sI ((p1 * 5) + v2)], (mSH r tl, (G, nk)))))) ?_ rfl
  exact sm_retI rfl rfl rfl
set_option maxRecDepth 100000 in
theorem T_X8_lastOn_26 (scr : mScr) (d : Nat) (r : List (Option Nat)) (tl : List mSh) (nk : Nat × Nat) (G : mG)  (p1 : Int) : SimC scr (d + 1) 52 [sR 26, sI p1] (mSH r tl, (G, nk)) (e0I (mSH r tl, (G, nk))) (P_X8_lastOn 26 p1 G) := by
  refine sm_callX (cs := mc_X8_lastOn) (maxL := 2) (rk := 0) (o := 8) (hs := []) (d := d + 0) [lR 26, lI p1] rfl rfl rfl rfl ?_
  unfold P_X8_lastOn
  refine sm_go 3 (s' := (5, ([lR 26, lI p1], ([sI p1, sR 29], (mSH r tl, (G, nk)))))) ?_ rfl
  refine sm_ald rfl rfl fun v2 => ?_
  refine sm_if1n (t := (ieq v2 0)) (pt := 13) rfl rfl rfl (fun _ => ?_) (fun _ => ?_)
  · refine sm_go 2 (s' := (31, ([lR 26, lI p1], ([sI (-1)], (mSH r tl, (G, nk)))))) ?_ rfl
    exact sm_retI rfl rfl rfl
  · refine sm_go 8 (s' := (26, ([lR 26, lI p1], ([sI p1, sR 29, sI (p1 * 30), sR 30], (mSH r tl, (G, nk)))))) ?_ rfl
    refine sm_ald rfl rfl fun v3 => ?_
    refine sm_go 3 (s' := (30, ([lR 26, lI p1], ([sI (((p1 * 30) + v3) - 1), sR 30], (mSH r tl, (G, nk)))))) ?_ rfl
    refine sm_ald rfl rfl fun v4 => ?_
    exact sm_retI rfl rfl rfl
set_option maxRecDepth 100000 in
theorem T_X8_endOfStep_26 (scr : mScr) (d : Nat) (r : List (Option Nat)) (tl : List mSh) (nk : Nat × Nat) (G : mG)  (p1 : Int) : SimC scr (d + 1) 49 [sR 26, sI p1] (mSH r tl, (G, nk)) (e0I (mSH r tl, (G, nk))) (P_X8_endOfStep 26 p1 G) := by
  refine sm_callX (cs := mc_X8_endOfStep) (maxL := 2) (rk := 0) (o := 8) (hs := []) (d := d + 0) [lR 26, lI p1] rfl rfl rfl rfl ?_
  unfold P_X8_endOfStep
  refine sm_go 3 (s' := (5, ([lR 26, lI p1], ([sI p1, sR 31], (mSH r tl, (G, nk)))))) ?_ rfl
  refine sm_ald rfl rfl fun v2 => ?_
  refine sm_go 4 (s' := (14, ([lR 26, lI p1], ([sI p1, sR 8, sI v2], (mSH r tl, (G, nk)))))) ?_ rfl
  refine sm_ald rfl rfl fun v3 => ?_
  refine sm_go 1 (s' := (16, ([lR 26, lI p1], ([sI (v2 + v3)], (mSH r tl, (G, nk)))))) ?_ rfl
  exact sm_retI rfl rfl rfl
set_option maxRecDepth 100000 in
theorem T_X8_readyHour_26 (scr : mScr) (d : Nat) (r : List (Option Nat)) (tl : List mSh) (nk : Nat × Nat) (G : mG)  (p1 : Int) : SimC scr (d + 2) 51 [sR 26, sI p1] (mSH r tl, (G, nk)) (e0I (mSH r tl, (G, nk))) (P_X8_readyHour 26 p1 G) := by
  refine sm_callX (cs := mc_X8_readyHour) (maxL := 2) (rk := 0) (o := 8) (hs := []) (d := d + 1) [lR 26, lI p1] rfl rfl rfl rfl ?_
  unfold P_X8_readyHour
  refine sm_go 3 (s' := (5, ([lR 26, lI p1], ([sI p1, sR 28], (mSH r tl, (G, nk)))))) ?_ rfl
  refine sm_ald rfl rfl fun v2 => ?_
  refine sm_if1n (t := (ieq v2 0)) (pt := 21) rfl rfl rfl (fun _ => ?_) (fun _ => ?_)
  · refine sm_go 4 (s' := (17, ([lR 26, lI p1], ([sI p1, sR 2], (mSH r tl, (G, nk)))))) ?_ rfl
    refine sm_ald rfl rfl fun v5 => ?_
    refine sm_go 1 (s' := (32, ([lR 26, lI p1], ([sI v5], (mSH r tl, (G, nk)))))) ?_ rfl
    exact sm_retI rfl rfl rfl
  · refine sm_go 3 (s' := (24, ([lR 26, lI p1], ([sI p1, sR 26, sR 26], (mSH r tl, (G, nk)))))) ?_ rfl
    refine sm_callG (rest := [sR 26]) (T_X8_nextStep_26 scr d r tl nk G p1) rfl (Or.inl rfl) rfl rfl rfl rfl (fun _ => rfl) (fun v3 => (27, ([lR 26, lI p1], ([sI v3, sR 26], (mSH r tl, (G, nk)))))) (fun _ => rfl) fun v3 => ?_
    refine sm_go 2 (s' := (29, ([lR 26, lI p1], ([sI (v3 - 1), sR 26], (mSH r tl, (G, nk)))))) ?_ rfl
    refine sm_callG (rest := []) (T_X8_endOfStep_26 scr d r tl nk G (v3 - 1)) rfl (Or.inl rfl) rfl rfl rfl rfl (fun _ => rfl) (fun v4 => (32, ([lR 26, lI p1], ([sI v4], (mSH r tl, (G, nk)))))) (fun _ => rfl) fun v4 => ?_
    exact sm_retI rfl rfl rfl
set_option maxRecDepth 100000 in
theorem T_X8_needsTool_26 (scr : mScr) (d : Nat) (r : List (Option Nat)) (tl : List mSh) (nk : Nat × Nat) (G : mG)  (p1 : Int) (p2 : Int) : SimC scr (d + 1) 53 [sR 26, sI p1, sI p2] (mSH r tl, (G, nk)) (e0B (mSH r tl, (G, nk))) (P_X8_needsTool 26 p1 p2 G) := by
  refine sm_callX (cs := mc_X8_needsTool) (maxL := 4) (rk := 1) (o := 8) (hs := []) (d := d + 0) [lR 26, lI p1, lI p2, none] rfl rfl rfl rfl ?_
  unfold P_X8_needsTool
  refine sm_go 7 (s' := (15, ([lR 26, lI p1, lI p2, none], ([sI p2, sR 7, sR 12], (mSH r tl, (G, nk)))))) ?_ rfl
  refine sm_ald rfl rfl fun v3 => ?_
  refine sm_ald rfl rfl fun v4 => ?_
  refine sm_letK0 (S := fun (g5 : Unit) => (46, ([lR 26, lI p1, lI p2, lI v4], ([], (mSH r tl, (G, nk)))))) ?_ ?_
  · intro g5
    refine sm_go 1 (s' := (47, ([lR 26, lI p1, lI p2, lI v4], ([sI 0], (mSH r tl, (G, nk)))))) ?_ rfl
    exact sm_retB1 (b := false) rfl rfl
  · intro k6 hk6
    refine sm_go 2 (s' := (19, ([lR 26, lI p1, lI p2, lI v4], ([sI v4], (mSH r tl, (G, nk)))))) ?_ rfl
    refine sm_if1 (t := (ieq v4 0)) (pt := 46) rfl rfl rfl (fun _ => ?_) (fun _ => ?_)
    · exact hk6 ()
    · refine sm_go 3 (s' := (27, ([lR 26, lI p1, lI p2, lI v4], ([sI p1, sR 34], (mSH r tl, (G, nk)))))) ?_ rfl
      refine sm_ald rfl rfl fun v7 => ?_
      refine sm_go 4 (s' := (36, ([lR 26, lI p1, lI p2, lI v4], ([sI p2, sR 8, sI v7], (mSH r tl, (G, nk)))))) ?_ rfl
      refine sm_ald rfl rfl fun v8 => ?_
      refine sm_go 2 (s' := (39, ([lR 26, lI p1, lI p2, lI v4], ([sI v4, sI (v7 + v8)], (mSH r tl, (G, nk)))))) ?_ rfl
      refine sm_if2n (t := (ilt v4 (v7 + v8))) (pt := 46) rfl rfl rfl (fun _ => ?_) (fun _ => ?_)
      · refine sm_go 2 (s' := (47, ([lR 26, lI p1, lI p2, lI v4], ([sI 1], (mSH r tl, (G, nk)))))) ?_ rfl
        exact sm_retB1 (b := true) rfl rfl
      · exact hk6 ()
set_option maxRecDepth 100000 in
theorem T_X8_hoursBetween_26 (scr : mScr) (d : Nat) (r : List (Option Nat)) (tl : List mSh) (nk : Nat × Nat) (G : mG)  (p1 : Int) (p2 : Int) : SimC scr (d + 2) 54 [sR 26, sI p1, sI p2] (mSH r tl, (G, nk)) (e0I (mSH r tl, (G, nk))) (P_X8_hoursBetween 26 p1 p2 G) := by
  refine sm_callX (cs := mc_X8_hoursBetween) (maxL := 4) (rk := 0) (o := 8) (hs := []) (d := d + 1) [lR 26, lI p1, lI p2, none] rfl rfl rfl rfl ?_
  unfold P_X8_hoursBetween
  refine sm_go 9 (s' := (17, ([lR 26, lI p1, lI p2, none], ([sI (iDiv p1 5), sR 5, sR 14], (mSH r tl, (G, nk)))))) ?_ rfl
  refine sm_ald rfl rfl fun v3 => ?_
  refine sm_go 8 (s' := (30, ([lR 26, lI p1, lI p2, none], ([sI (iDiv p2 5), sR 5, sI (v3 * 4), sR 14], (mSH r tl, (G, nk)))))) ?_ rfl
  refine sm_ald rfl rfl fun v4 => ?_
  refine sm_go 1 (s' := (32, ([lR 26, lI p1, lI p2, none], ([sI ((v3 * 4) + v4), sR 14], (mSH r tl, (G, nk)))))) ?_ rfl
  refine sm_ald rfl rfl fun v5 => ?_
  refine sm_go 4 (s' := (37, ([lR 26, lI p1, lI p2, lI v5], ([sI p2, sI p1, sR 26], (mSH r tl, (G, nk)))))) ?_ rfl
  refine sm_callG (rest := []) (T_X8_needsTool_26 scr d r tl nk G p1 p2) rfl (Or.inl rfl) rfl rfl rfl rfl (fun _ => rfl) (fun v6 => (40, ([lR 26, lI p1, lI p2, lI v5], ([sI (b2i v6)], (mSH r tl, (G, nk)))))) (fun _ => rfl) fun v6 => ?_
  refine sm_if1n (t := v6) (pt := 65) (mCmpB_eq v6) rfl rfl (fun _ => ?_) (fun _ => ?_)
  · refine sm_go 8 (s' := (59, ([lR 26, lI p1, lI p2, lI v5], ([sI p2, sR 7, sR 13, sI v5], (mSH r tl, (G, nk)))))) ?_ rfl
    refine sm_ald rfl rfl fun v7 => ?_
    refine sm_ald rfl rfl fun v8 => ?_
    refine sm_go 2 (s' := (66, ([lR 26, lI p1, lI p2, lI v5], ([sI (v5 + v8)], (mSH r tl, (G, nk)))))) ?_ rfl
    exact sm_retI rfl rfl rfl
  · refine sm_go 1 (s' := (66, ([lR 26, lI p1, lI p2, lI v5], ([sI v5], (mSH r tl, (G, nk)))))) ?_ rfl
    exact sm_retI rfl rfl rfl
set_option maxRecDepth 100000 in
theorem T_X8_firstHour_26 (scr : mScr) (d : Nat) (r : List (Option Nat)) (tl : List mSh) (nk : Nat × Nat) (G : mG)  (p1 : Int) (p2 : Int) : SimC scr (d + 3) 55 [sR 26, sI p1, sI p2] (mSH r tl, (G, nk)) (e0I (mSH r tl, (G, nk))) (P_X8_firstHour 26 p1 p2 G) := by
  refine sm_callX (cs := mc_X8_firstHour) (maxL := 7) (rk := 0) (o := 8) (hs := []) (d := d + 2) [lR 26, lI p1, lI p2, none, none, none, none] rfl rfl rfl rfl ?_
  unfold P_X8_firstHour
  refine sm_go 2 (s' := (2, ([lR 26, lI p1, lI p2, none, none, none, none], ([sI p1, sR 26], (mSH r tl, (G, nk)))))) ?_ rfl
  refine sm_callG (rest := []) (T_X8_nextStep_26 scr (d + 1) r tl nk G p1) rfl (Or.inl rfl) rfl rfl rfl rfl (fun _ => rfl) (fun v3 => (5, ([lR 26, lI p1, lI p2, none, none, none, none], ([sI v3], (mSH r tl, (G, nk)))))) (fun _ => rfl) fun v3 => ?_
  refine sm_go 5 (s' := (14, ([lR 26, lI p1, lI p2, lI v3, none, none, none], ([sI v3, sR 7], (mSH r tl, (G, nk)))))) ?_ rfl
  refine sm_ald rfl rfl fun v4 => ?_
  refine sm_go 3 (s' := (20, ([lR 26, lI p1, lI p2, lI v3, lI v4, none, none], ([sI v4, sR 26], (mSH r tl, (G, nk)))))) ?_ rfl
  refine sm_callG (rest := []) (T_X8_lastOn_26 scr (d + 1) r tl nk G v4) rfl (Or.inl rfl) rfl rfl rfl rfl (fun _ => rfl) (fun v5 => (23, ([lR 26, lI p1, lI p2, lI v3, lI v4, none, none], ([sI v5], (mSH r tl, (G, nk)))))) (fun _ => rfl) fun v5 => ?_
  refine sm_go 3 (s' := (27, ([lR 26, lI p1, lI p2, lI v3, lI v4, lI v5, none], ([sI p1, sR 26], (mSH r tl, (G, nk)))))) ?_ rfl
  refine sm_callG (rest := []) (T_X8_readyHour_26 scr d r tl nk G p1) rfl (Or.inl rfl) rfl rfl rfl rfl (fun _ => rfl) (fun v6 => (30, ([lR 26, lI p1, lI p2, lI v3, lI v4, lI v5, none], ([sI v6], (mSH r tl, (G, nk)))))) (fun _ => rfl) fun v6 => ?_
  refine sm_letK1 (S := fun (g8 : Unit) (x7 : Int) => (63, ([lR 26, lI p1, lI p2, lI v3, lI v4, lI v5, lI x7], ([], (mSH r tl, (G, nk)))))) ?_ ?_
  · intro g8 x7
    refine sm_go 8 (s' := (79, ([lR 26, lI p1, lI p2, lI v3, lI v4, lI v5, lI x7], ([sI v3, sR 8, sI x7, sI v4, sR 1], (mSH r tl, (G, nk)))))) ?_ rfl
    refine sm_ald rfl rfl fun v9 => ?_
    refine sm_callG (rest := []) (T_X7_firstOpen scr (d + 1) r tl nk G v4 x7 v9) rfl (Or.inl rfl) rfl rfl rfl rfl (fun _ => rfl) (fun v10 => (83, ([lR 26, lI p1, lI p2, lI v3, lI v4, lI v5, lI x7], ([sI v10], (mSH r tl, (G, nk)))))) (fun _ => rfl) fun v10 => ?_
    exact sm_retI rfl rfl rfl
  · intro k11 hk11
    refine sm_go 5 (s' := (39, ([lR 26, lI p1, lI p2, lI v3, lI v4, lI v5, lI (iMax v6 p2)], ([sI (-1), sI v5], (mSH r tl, (G, nk)))))) ?_ rfl
    refine sm_if2 (t := (ieq v5 (-1))) (pt := 63) rfl rfl rfl (fun _ => ?_) (fun _ => ?_)
    · exact hk11 () (iMax v6 p2)
    · refine sm_go 3 (s' := (47, ([lR 26, lI p1, lI p2, lI v3, lI v4, lI v5, lI (iMax v6 p2)], ([sI v5, sR 26, sI (iMax v6 p2)], (mSH r tl, (G, nk)))))) ?_ rfl
      refine sm_callG (rest := [sI (iMax v6 p2)]) (T_X8_endOfStep_26 scr (d + 1) r tl nk G v5) rfl (Or.inl rfl) rfl rfl rfl rfl (fun _ => rfl) (fun v12 => (50, ([lR 26, lI p1, lI p2, lI v3, lI v4, lI v5, lI (iMax v6 p2)], ([sI v12, sI (iMax v6 p2)], (mSH r tl, (G, nk)))))) (fun _ => rfl) fun v12 => ?_
      refine sm_go 3 (s' := (54, ([lR 26, lI p1, lI p2, lI v3, lI v4, lI v5, lI (iMax v6 p2)], ([sI v3, sI v5, sR 26, sI v12, sI (iMax v6 p2)], (mSH r tl, (G, nk)))))) ?_ rfl
      refine sm_callG (rest := [sI v12, sI (iMax v6 p2)]) (T_X8_hoursBetween_26 scr d r tl nk G v5 v3) rfl (Or.inl rfl) rfl rfl rfl rfl (fun _ => rfl) (fun v13 => (57, ([lR 26, lI p1, lI p2, lI v3, lI v4, lI v5, lI (iMax v6 p2)], ([sI v13, sI v12, sI (iMax v6 p2)], (mSH r tl, (G, nk)))))) (fun _ => rfl) fun v13 => ?_
      exact sm_go 3 (hk11 () (iMax (iMax v6 p2) (v12 + v13))) rfl
