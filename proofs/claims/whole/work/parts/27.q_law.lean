/-! ===== the law's loop as a function ===== -/
noncomputable def P_L_law (scr : mScr) (i0 : Int) (W : mW) : Option ((Bool ⊕ Nat) × mW) :=
loop2 LF (fun again4 (x1 : Int) (W2 : mW) =>
bif (ilt ((scr.2.1 : Int) - 5) x1) then
some (.inl true, W2)
else
(xld scr x1).bind fun v5 =>
letK (fun (W6 : mW) =>
again4 (x1 + 5) W6) fun k8 =>
bif decide (w32 (iAnd v5 63) = 0) then
(xld scr (x1 + 1)).bind fun v9 =>
(xld scr (x1 + 2)).bind fun v10 =>
(xld scr (x1 + 3)).bind fun v11 =>
notB (P_L_close v9 v10 v11 W2) fun v12 W13 =>
(xld scr (x1 + 1)).bind fun v14 =>
(xld scr (x1 + 2)).bind fun v15 =>
(xld scr (x1 + 3)).bind fun v16 =>
(P_X11_close v14 v15 v16 W13.2.2.1).bind fun z17 =>
(P_X11_thrown z17.2).bind fun v18 =>
bif (ieq v18 v12) then
letK (k8 (W13.1, (W13.2.1, (z17.2, W13.2.2.2)))) fun k20 =>
bif (ieq v12 0) then
(ald z17.2 74 1 0).bind fun v21 =>
bif (ieq (lcmpI v21 (w32 z17.1)) 0) then
k20
else
some (.inl false, (W13.1, (W13.2.1, (z17.2, W13.2.2.2))))
else
k20
else
some (.inl false, (W13.1, (W13.2.1, (z17.2, W13.2.2.2))))
else
bif decide (w32 (iAnd v5 63) = 1) then
(xld scr (x1 + 1)).bind fun v22 =>
(xld scr (x1 + 2)).bind fun v23 =>
(xld scr (x1 + 3)).bind fun v24 =>
notB (P_L_setTool v22 v23 v24 W2) fun v25 W26 =>
(xld scr (x1 + 1)).bind fun v27 =>
(xld scr (x1 + 2)).bind fun v28 =>
(xld scr (x1 + 3)).bind fun v29 =>
(P_X11_setTool v27 v28 v29 W26.2.2.1).bind fun z30 =>
(P_X11_thrown z30.2).bind fun v31 =>
bif (ieq v31 v25) then
letK (k8 (W26.1, (W26.2.1, (z30.2, W26.2.2.2)))) fun k33 =>
bif (ieq v25 0) then
(ald z30.2 74 1 0).bind fun v34 =>
bif (ieq (lcmpI v34 (w32 z30.1)) 0) then
k33
else
some (.inl false, (W26.1, (W26.2.1, (z30.2, W26.2.2.2))))
else
k33
else
some (.inl false, (W26.1, (W26.2.1, (z30.2, W26.2.2.2))))
else
bif decide (w32 (iAnd v5 63) = 2) then
(xld scr (x1 + 1)).bind fun v35 =>
(xld scr (x1 + 2)).bind fun v36 =>
(xld scr (x1 + 3)).bind fun v37 =>
notB (P_L_setSetup v35 v36 v37 W2) fun v38 W39 =>
(xld scr (x1 + 1)).bind fun v40 =>
(xld scr (x1 + 2)).bind fun v41 =>
(xld scr (x1 + 3)).bind fun v42 =>
(P_X11_setSetup v40 v41 v42 W39.2.2.1).bind fun z43 =>
(P_X11_thrown z43.2).bind fun v44 =>
bif (ieq v44 v38) then
letK (k8 (W39.1, (W39.2.1, (z43.2, W39.2.2.2)))) fun k46 =>
bif (ieq v38 0) then
(ald z43.2 74 1 0).bind fun v47 =>
bif (ieq (lcmpI v47 (w32 z43.1)) 0) then
k46
else
some (.inl false, (W39.1, (W39.2.1, (z43.2, W39.2.2.2))))
else
k46
else
some (.inl false, (W39.1, (W39.2.1, (z43.2, W39.2.2.2))))
else
bif decide (w32 (iAnd v5 63) = 3) then
(xld scr (x1 + 1)).bind fun v48 =>
(xld scr (x1 + 2)).bind fun v49 =>
(xld scr (x1 + 3)).bind fun v50 =>
(xld scr (x1 + 4)).bind fun v51 =>
notB (P_L_addJob v48 v49 v50 v51 W2) fun v52 W53 =>
(xld scr (x1 + 1)).bind fun v54 =>
(xld scr (x1 + 2)).bind fun v55 =>
(xld scr (x1 + 3)).bind fun v56 =>
(xld scr (x1 + 4)).bind fun v57 =>
(P_X11_addJob v54 v55 v56 v57 W53.2.2.1).bind fun z58 =>
(P_X11_thrown z58.2).bind fun v59 =>
bif (ieq v59 v52) then
letK (k8 (W53.1, (W53.2.1, (z58.2, W53.2.2.2)))) fun k61 =>
bif (ieq v52 0) then
(ald z58.2 74 1 0).bind fun v62 =>
bif (ieq (lcmpI v62 (w32 z58.1)) 0) then
k61
else
some (.inl false, (W53.1, (W53.2.1, (z58.2, W53.2.2.2))))
else
k61
else
some (.inl false, (W53.1, (W53.2.1, (z58.2, W53.2.2.2))))
else
bif decide (w32 (iAnd v5 63) = 4) then
(xld scr (x1 + 1)).bind fun v63 =>
(xld scr (x1 + 2)).bind fun v64 =>
(xld scr (x1 + 3)).bind fun v65 =>
notB (P_L_addStep v63 v64 v65 W2) fun v66 W67 =>
(xld scr (x1 + 1)).bind fun v68 =>
(xld scr (x1 + 2)).bind fun v69 =>
(xld scr (x1 + 3)).bind fun v70 =>
(P_X11_addStep v68 v69 v70 W67.2.2.1).bind fun z71 =>
(P_X11_thrown z71.2).bind fun v72 =>
bif (ieq v72 v66) then
letK (k8 (W67.1, (W67.2.1, (z71.2, W67.2.2.2)))) fun k74 =>
bif (ieq v66 0) then
(ald z71.2 74 1 0).bind fun v75 =>
bif (ieq (lcmpI v75 (w32 z71.1)) 0) then
k74
else
some (.inl false, (W67.1, (W67.2.1, (z71.2, W67.2.2.2))))
else
k74
else
some (.inl false, (W67.1, (W67.2.1, (z71.2, W67.2.2.2))))
else
bif decide (w32 (iAnd v5 63) = 5) then
(xld scr (x1 + 1)).bind fun v76 =>
notB (P_L_cut v76 W2) fun v77 W78 =>
(xld scr (x1 + 1)).bind fun v79 =>
(P_X11_cut v79 W78.2.2.1).bind fun z80 =>
(P_X11_thrown z80.2).bind fun v81 =>
bif (ieq v81 v77) then
letK (k8 (W78.1, (W78.2.1, (z80.2, W78.2.2.2)))) fun k83 =>
bif (ieq v77 0) then
(ald z80.2 74 1 0).bind fun v84 =>
bif (ieq (lcmpI v84 (w32 z80.1)) 0) then
k83
else
some (.inl false, (W78.1, (W78.2.1, (z80.2, W78.2.2.2))))
else
k83
else
some (.inl false, (W78.1, (W78.2.1, (z80.2, W78.2.2.2))))
else
bif decide (w32 (iAnd v5 63) = 6) then
(xld scr (x1 + 1)).bind fun v85 =>
notB (P_L_plan v85 W2) fun v86 W87 =>
(xld scr (x1 + 1)).bind fun v88 =>
(P_X11_plan v88 W87.2.2.1).bind fun z89 =>
(P_X11_thrown z89.2).bind fun v90 =>
bif (ieq v90 v86) then
letK (k8 (W87.1, (W87.2.1, (z89.2, W87.2.2.2)))) fun k92 =>
bif (ieq v86 0) then
(ald z89.2 74 1 0).bind fun v93 =>
bif (ieq (lcmpI v93 (w32 z89.1)) 0) then
k92
else
some (.inl false, (W87.1, (W87.2.1, (z89.2, W87.2.2.2))))
else
k92
else
some (.inl false, (W87.1, (W87.2.1, (z89.2, W87.2.2.2))))
else
bif decide (w32 (iAnd v5 63) = 7) then
(xld scr (x1 + 1)).bind fun v94 =>
(xld scr (x1 + 2)).bind fun v95 =>
notB (P_L_tell (lOr (lShl (w32 v94) 32) (lAnd (w32 v95) 4294967295)) W2) fun v96 W97 =>
(xld scr (x1 + 1)).bind fun v98 =>
(xld scr (x1 + 2)).bind fun v99 =>
(P_X11_tell (lOr (lShl (w32 v98) 32) (lAnd (w32 v99) 4294967295)) W97.2.2.1).bind fun z100 =>
(P_X11_thrown z100.2).bind fun v101 =>
bif (ieq v101 v96) then
letK (k8 (W97.1, (W97.2.1, (z100.2, W97.2.2.2)))) fun k103 =>
bif (ieq v96 0) then
(ald z100.2 74 1 0).bind fun v104 =>
bif (ieq (lcmpI v104 (w32 z100.1)) 0) then
k103
else
some (.inl false, (W97.1, (W97.2.1, (z100.2, W97.2.2.2))))
else
k103
else
some (.inl false, (W97.1, (W97.2.1, (z100.2, W97.2.2.2))))
else
bif decide (w32 (iAnd v5 63) = 8) then
(xld scr (x1 + 1)).bind fun v105 =>
notB (P_L_best v105 W2) fun v106 W107 =>
(xld scr (x1 + 1)).bind fun v108 =>
(P_X11_best v108 W107.2.2.1).bind fun z109 =>
(P_X11_thrown z109.2).bind fun v110 =>
bif (ieq v110 v106) then
letK (k8 (W107.1, (W107.2.1, (z109.2, W107.2.2.2)))) fun k112 =>
bif (ieq v106 0) then
(ald z109.2 74 1 0).bind fun v113 =>
bif (ieq (lcmpI v113 (w32 z109.1)) 0) then
k112
else
some (.inl false, (W107.1, (W107.2.1, (z109.2, W107.2.2.2))))
else
k112
else
some (.inl false, (W107.1, (W107.2.1, (z109.2, W107.2.2.2))))
else
bif decide (w32 (iAnd v5 63) = 9) then
(xld scr (x1 + 1)).bind fun v114 =>
(xld scr (x1 + 2)).bind fun v115 =>
notB (P_L_swap v114 v115 W2) fun v116 W117 =>
(xld scr (x1 + 1)).bind fun v118 =>
(xld scr (x1 + 2)).bind fun v119 =>
(P_X11_swap v118 v119 W117.2.2.1).bind fun z120 =>
(P_X11_thrown z120.2).bind fun v121 =>
bif (ieq v121 v116) then
letK (k8 (W117.1, (W117.2.1, (z120.2, W117.2.2.2)))) fun k123 =>
bif (ieq v116 0) then
(ald z120.2 74 1 0).bind fun v124 =>
bif (ieq (lcmpI v124 (w32 z120.1)) 0) then
k123
else
some (.inl false, (W117.1, (W117.2.1, (z120.2, W117.2.2.2))))
else
k123
else
some (.inl false, (W117.1, (W117.2.1, (z120.2, W117.2.2.2))))
else
bif decide (w32 (iAnd v5 63) = 10) then
(xld scr (x1 + 1)).bind fun v125 =>
(xld scr (x1 + 2)).bind fun v126 =>
notB (P_L_replan v125 v126 W2) fun v127 W128 =>
(xld scr (x1 + 1)).bind fun v129 =>
(xld scr (x1 + 2)).bind fun v130 =>
(P_X11_replan v129 v130 W128.2.2.1).bind fun z131 =>
(P_X11_thrown z131.2).bind fun v132 =>
bif (ieq v132 v127) then
letK (k8 (W128.1, (W128.2.1, (z131.2, W128.2.2.2)))) fun k134 =>
bif (ieq v127 0) then
(ald z131.2 74 1 0).bind fun v135 =>
bif (ieq (lcmpI v135 (w32 z131.1)) 0) then
k134
else
some (.inl false, (W128.1, (W128.2.1, (z131.2, W128.2.2.2))))
else
k134
else
some (.inl false, (W128.1, (W128.2.1, (z131.2, W128.2.2.2))))
else
bif decide (w32 (iAnd v5 63) = 11) then
(xld scr (x1 + 1)).bind fun v136 =>
notB (P_L_rush v136 W2) fun v137 W138 =>
(xld scr (x1 + 1)).bind fun v139 =>
(P_X11_rush v139 W138.2.2.1).bind fun z140 =>
(P_X11_thrown z140.2).bind fun v141 =>
bif (ieq v141 v137) then
letK (k8 (W138.1, (W138.2.1, (z140.2, W138.2.2.2)))) fun k143 =>
bif (ieq v137 0) then
(ald z140.2 74 1 0).bind fun v144 =>
bif (ieq (lcmpI v144 (w32 z140.1)) 0) then
k143
else
some (.inl false, (W138.1, (W138.2.1, (z140.2, W138.2.2.2))))
else
k143
else
some (.inl false, (W138.1, (W138.2.1, (z140.2, W138.2.2.2))))
else
bif decide (w32 (iAnd v5 63) = 12) then
(xld scr (x1 + 1)).bind fun v145 =>
(xld scr (x1 + 2)).bind fun v146 =>
notB (P_L_setWorker v145 v146 W2) fun v147 W148 =>
(xld scr (x1 + 1)).bind fun v149 =>
(xld scr (x1 + 2)).bind fun v150 =>
(P_X11_setWorker v149 v150 W148.2.2.1).bind fun z151 =>
(P_X11_thrown z151.2).bind fun v152 =>
bif (ieq v152 v147) then
letK (k8 (W148.1, (W148.2.1, (z151.2, W148.2.2.2)))) fun k154 =>
bif (ieq v147 0) then
(ald z151.2 74 1 0).bind fun v155 =>
bif (ieq (lcmpI v155 (w32 z151.1)) 0) then
k154
else
some (.inl false, (W148.1, (W148.2.1, (z151.2, W148.2.2.2))))
else
k154
else
some (.inl false, (W148.1, (W148.2.1, (z151.2, W148.2.2.2))))
else
bif decide (w32 (iAnd v5 63) = 13) then
thrB (P_X10_undo W2) fun v156 W157 =>
(P_X11_undo W157.2.2.1).bind fun z158 =>
bif (ieq v156 z158.1) then
k8 (W157.1, (W157.2.1, (z158.2, W157.2.2.2)))
else
some (.inl false, (W157.1, (W157.2.1, (z158.2, W157.2.2.2))))
else
bif decide (w32 (iAnd v5 63) = 14) then
(P_X10_jobs W2.2.2.1).bind fun v159 =>
(P_X11_jobs W2.2.2.1).bind fun z160 =>
bif (ieq v159 z160.1) then
k8 (W2.1, (W2.2.1, (z160.2, W2.2.2.2)))
else
some (.inl false, (W2.1, (W2.2.1, (z160.2, W2.2.2.2))))
else
bif decide (w32 (iAnd v5 63) = 15) then
(xld scr (x1 + 1)).bind fun v161 =>
(xld scr (x1 + 2)).bind fun v162 =>
notB (P_L_jobAt v161 v162 W2) fun v163 W164 =>
(xld scr (x1 + 1)).bind fun v165 =>
(xld scr (x1 + 2)).bind fun v166 =>
(P_X11_jobAt v165 v166 W164.2.2.1).bind fun z167 =>
(P_X11_thrown z167.2).bind fun v168 =>
bif (ieq v168 v163) then
letK (k8 (W164.1, (W164.2.1, (z167.2, W164.2.2.2)))) fun k170 =>
bif (ieq v163 0) then
(ald z167.2 74 1 0).bind fun v171 =>
bif (ieq (lcmpI v171 (w32 z167.1)) 0) then
k170
else
some (.inl false, (W164.1, (W164.2.1, (z167.2, W164.2.2.2))))
else
k170
else
some (.inl false, (W164.1, (W164.2.1, (z167.2, W164.2.2.2))))
else
bif decide (w32 (iAnd v5 63) = 16) then
(xld scr (x1 + 1)).bind fun v172 =>
(xld scr (x1 + 2)).bind fun v173 =>
(xld scr (x1 + 3)).bind fun v174 =>
notB (P_L_stepAt v172 v173 v174 W2) fun v175 W176 =>
(xld scr (x1 + 1)).bind fun v177 =>
(xld scr (x1 + 2)).bind fun v178 =>
(xld scr (x1 + 3)).bind fun v179 =>
(P_X11_stepAt v177 v178 v179 W176.2.2.1).bind fun z180 =>
(P_X11_thrown z180.2).bind fun v181 =>
bif (ieq v181 v175) then
letK (k8 (W176.1, (W176.2.1, (z180.2, W176.2.2.2)))) fun k183 =>
bif (ieq v175 0) then
(ald z180.2 74 1 0).bind fun v184 =>
bif (ieq (lcmpI v184 (w32 z180.1)) 0) then
k183
else
some (.inl false, (W176.1, (W176.2.1, (z180.2, W176.2.2.2))))
else
k183
else
some (.inl false, (W176.1, (W176.2.1, (z180.2, W176.2.2.2))))
else
bif decide (w32 (iAnd v5 63) = 17) then
(xld scr (x1 + 1)).bind fun v185 =>
(xld scr (x1 + 2)).bind fun v186 =>
notB (P_L_begin v185 v186 W2) fun v187 W188 =>
(xld scr (x1 + 1)).bind fun v189 =>
(xld scr (x1 + 2)).bind fun v190 =>
(P_X11_begin v189 v190 W188.2.2.1).bind fun z191 =>
(P_X11_thrown z191.2).bind fun v192 =>
bif (ieq v192 v187) then
letK (k8 (W188.1, (W188.2.1, (z191.2, W188.2.2.2)))) fun k194 =>
bif (ieq v187 0) then
(ald z191.2 74 1 0).bind fun v195 =>
bif (ieq (lcmpI v195 (w32 z191.1)) 0) then
k194
else
some (.inl false, (W188.1, (W188.2.1, (z191.2, W188.2.2.2))))
else
k194
else
some (.inl false, (W188.1, (W188.2.1, (z191.2, W188.2.2.2))))
else
bif decide (w32 (iAnd v5 63) = 18) then
(xld scr (x1 + 1)).bind fun v196 =>
notB (P_L_endOf v196 W2) fun v197 W198 =>
(xld scr (x1 + 1)).bind fun v199 =>
(P_X11_endOf v199 W198.2.2.1).bind fun z200 =>
(P_X11_thrown z200.2).bind fun v201 =>
bif (ieq v201 v197) then
letK (k8 (W198.1, (W198.2.1, (z200.2, W198.2.2.2)))) fun k203 =>
bif (ieq v197 0) then
(ald z200.2 74 1 0).bind fun v204 =>
bif (ieq (lcmpI v204 (w32 z200.1)) 0) then
k203
else
some (.inl false, (W198.1, (W198.2.1, (z200.2, W198.2.2.2))))
else
k203
else
some (.inl false, (W198.1, (W198.2.1, (z200.2, W198.2.2.2))))
else
bif decide (w32 (iAnd v5 63) = 19) then
(xld scr (x1 + 1)).bind fun v205 =>
notB (P_L_value v205 W2) fun v206 W207 =>
(xld scr (x1 + 1)).bind fun v208 =>
(P_X11_value v208 W207.2.2.1).bind fun z209 =>
(P_X11_thrown z209.2).bind fun v210 =>
bif (ieq v210 v206) then
letK (k8 (W207.1, (W207.2.1, (z209.2, W207.2.2.2)))) fun k212 =>
bif (ieq v206 0) then
(ald z209.2 74 1 0).bind fun v213 =>
bif (ieq (lcmpI v213 (w32 z209.1)) 0) then
k212
else
some (.inl false, (W207.1, (W207.2.1, (z209.2, W207.2.2.2))))
else
k212
else
some (.inl false, (W207.1, (W207.2.1, (z209.2, W207.2.2.2))))
else
bif decide (w32 (iAnd v5 63) = 20) then
(P_X10_bound W2.2.2.1).bind fun v214 =>
(P_X11_bound W2.2.2.1).bind fun z215 =>
bif (ieq v214 z215.1) then
k8 (W2.1, (W2.2.1, (z215.2, W2.2.2.2)))
else
some (.inl false, (W2.1, (W2.2.1, (z215.2, W2.2.2.2))))
else
bif decide (w32 (iAnd v5 63) = 21) then
(xld scr (x1 + 1)).bind fun v216 =>
(xld scr (x1 + 2)).bind fun v217 =>
notB (P_L_orderAt v216 v217 W2) fun v218 W219 =>
(xld scr (x1 + 1)).bind fun v220 =>
(xld scr (x1 + 2)).bind fun v221 =>
(P_X11_orderAt v220 v221 W219.2.2.1).bind fun z222 =>
(P_X11_thrown z222.2).bind fun v223 =>
bif (ieq v223 v218) then
letK (k8 (W219.1, (W219.2.1, (z222.2, W219.2.2.2)))) fun k225 =>
bif (ieq v218 0) then
(ald z222.2 74 1 0).bind fun v226 =>
bif (ieq (lcmpI v226 (w32 z222.1)) 0) then
k225
else
some (.inl false, (W219.1, (W219.2.1, (z222.2, W219.2.2.2))))
else
k225
else
some (.inl false, (W219.1, (W219.2.1, (z222.2, W219.2.2.2))))
else
bif decide (w32 (iAnd v5 63) = 22) then
(xld scr (x1 + 1)).bind fun v227 =>
(xld scr (x1 + 2)).bind fun v228 =>
notB (P_L_doneIn v227 v228 W2) fun v229 W230 =>
(xld scr (x1 + 1)).bind fun v231 =>
(xld scr (x1 + 2)).bind fun v232 =>
(P_X11_doneIn v231 v232 W230.2.2.1).bind fun z233 =>
(P_X11_thrown z233.2).bind fun v234 =>
bif (ieq v234 v229) then
letK (k8 (W230.1, (W230.2.1, (z233.2, W230.2.2.2)))) fun k236 =>
bif (ieq v229 0) then
(ald z233.2 74 1 0).bind fun v237 =>
bif (ieq (lcmpI v237 (w32 z233.1)) 0) then
k236
else
some (.inl false, (W230.1, (W230.2.1, (z233.2, W230.2.2.2))))
else
k236
else
some (.inl false, (W230.1, (W230.2.1, (z233.2, W230.2.2.2))))
else
bif decide (w32 (iAnd v5 63) = 23) then
notB (P_L_wayLength W2) fun v238 W239 =>
(P_X11_wayLength W239.2.2.1).bind fun z240 =>
(P_X11_thrown z240.2).bind fun v241 =>
bif (ieq v241 v238) then
letK (k8 (W239.1, (W239.2.1, (z240.2, W239.2.2.2)))) fun k243 =>
bif (ieq v238 0) then
(ald z240.2 74 1 0).bind fun v244 =>
bif (ieq (lcmpI v244 (w32 z240.1)) 0) then
k243
else
some (.inl false, (W239.1, (W239.2.1, (z240.2, W239.2.2.2))))
else
k243
else
some (.inl false, (W239.1, (W239.2.1, (z240.2, W239.2.2.2))))
else
bif decide (w32 (iAnd v5 63) = 24) then
(xld scr (x1 + 1)).bind fun v245 =>
notB (P_L_wayAt v245 W2) fun v246 W247 =>
(xld scr (x1 + 1)).bind fun v248 =>
(P_X11_wayAt v248 W247.2.2.1).bind fun z249 =>
(P_X11_thrown z249.2).bind fun v250 =>
bif (ieq v250 v246) then
letK (k8 (W247.1, (W247.2.1, (z249.2, W247.2.2.2)))) fun k252 =>
bif (ieq v246 0) then
(ald z249.2 74 1 0).bind fun v253 =>
bif (ieq (lcmpI v253 (w32 z249.1)) 0) then
k252
else
some (.inl false, (W247.1, (W247.2.1, (z249.2, W247.2.2.2))))
else
k252
else
some (.inl false, (W247.1, (W247.2.1, (z249.2, W247.2.2.2))))
else
bif decide (w32 (iAnd v5 63) = 25) then
notB (P_L_blocks W2) fun v254 W255 =>
(P_X11_blocks W255.2.2.1).bind fun z256 =>
(P_X11_thrown z256.2).bind fun v257 =>
bif (ieq v257 v254) then
letK (k8 (W255.1, (W255.2.1, (z256.2, W255.2.2.2)))) fun k259 =>
bif (ieq v254 0) then
(ald z256.2 74 1 0).bind fun v260 =>
bif (ieq (lcmpI v260 (w32 z256.1)) 0) then
k259
else
some (.inl false, (W255.1, (W255.2.1, (z256.2, W255.2.2.2))))
else
k259
else
some (.inl false, (W255.1, (W255.2.1, (z256.2, W255.2.2.2))))
else
bif decide (w32 (iAnd v5 63) = 26) then
notB (P_L_longestBlock W2) fun v261 W262 =>
(P_X11_longestBlock W262.2.2.1).bind fun z263 =>
(P_X11_thrown z263.2).bind fun v264 =>
bif (ieq v264 v261) then
letK (k8 (W262.1, (W262.2.1, (z263.2, W262.2.2.2)))) fun k266 =>
bif (ieq v261 0) then
(ald z263.2 74 1 0).bind fun v267 =>
bif (ieq (lcmpI v267 (w32 z263.1)) 0) then
k266
else
some (.inl false, (W262.1, (W262.2.1, (z263.2, W262.2.2.2))))
else
k266
else
some (.inl false, (W262.1, (W262.2.1, (z263.2, W262.2.2.2))))
else
bif decide (w32 (iAnd v5 63) = 27) then
(xld scr (x1 + 1)).bind fun v268 =>
(xld scr (x1 + 2)).bind fun v269 =>
notB (P_L_slack v268 v269 W2) fun v270 W271 =>
(xld scr (x1 + 1)).bind fun v272 =>
(xld scr (x1 + 2)).bind fun v273 =>
(P_X11_slack v272 v273 W271.2.2.1).bind fun z274 =>
(P_X11_thrown z274.2).bind fun v275 =>
bif (ieq v275 v270) then
letK (k8 (W271.1, (W271.2.1, (z274.2, W271.2.2.2)))) fun k277 =>
bif (ieq v270 0) then
(ald z274.2 74 1 0).bind fun v278 =>
bif (ieq (lcmpI v278 (w32 z274.1)) 0) then
k277
else
some (.inl false, (W271.1, (W271.2.1, (z274.2, W271.2.2.2))))
else
k277
else
some (.inl false, (W271.1, (W271.2.1, (z274.2, W271.2.2.2))))
else
bif decide (w32 (iAnd v5 63) = 28) then
(xld scr (x1 + 1)).bind fun v279 =>
(xld scr (x1 + 2)).bind fun v280 =>
notB (P_L_delay v279 v280 W2) fun v281 W282 =>
(xld scr (x1 + 1)).bind fun v283 =>
(xld scr (x1 + 2)).bind fun v284 =>
(P_X11_delay v283 v284 W282.2.2.1).bind fun z285 =>
(P_X11_thrown z285.2).bind fun v286 =>
bif (ieq v286 v281) then
letK (k8 (W282.1, (W282.2.1, (z285.2, W282.2.2.2)))) fun k288 =>
bif (ieq v281 0) then
(ald z285.2 74 1 0).bind fun v289 =>
bif (ieq (lcmpI v289 (w32 z285.1)) 0) then
k288
else
some (.inl false, (W282.1, (W282.2.1, (z285.2, W282.2.2.2))))
else
k288
else
some (.inl false, (W282.1, (W282.2.1, (z285.2, W282.2.2.2))))
else
bif decide (w32 (iAnd v5 63) = 29) then
(P_X10_leastSum W2.2.2.1).bind fun z290 =>
(P_X11_leastSum z290.2).bind fun z291 =>
bif (ieq z290.1 z291.1) then
k8 (W2.1, (W2.2.1, (z291.2, W2.2.2.2)))
else
some (.inl false, (W2.1, (W2.2.1, (z291.2, W2.2.2.2))))
else
bif decide (w32 (iAnd v5 63) = 30) then
(P_X10_leastLateness W2.2.2.1).bind fun z292 =>
(P_X11_leastLateness z292.2).bind fun z293 =>
bif (ieq z292.1 z293.1) then
k8 (W2.1, (W2.2.1, (z293.2, W2.2.2.2)))
else
some (.inl false, (W2.1, (W2.2.1, (z293.2, W2.2.2.2))))
else
bif decide (w32 (iAnd v5 63) = 31) then
(P_X10_fewestLate W2.2.2.1).bind fun z294 =>
(P_X11_fewestLate z294.2).bind fun z295 =>
bif (ieq z294.1 z295.1) then
k8 (W2.1, (W2.2.1, (z295.2, W2.2.2.2)))
else
some (.inl false, (W2.1, (W2.2.1, (z295.2, W2.2.2.2))))
else
bif decide (w32 (iAnd v5 63) = 32) then
(xld scr (x1 + 1)).bind fun v296 =>
notB (P_L_isDropped v296 W2) fun v297 W298 =>
(xld scr (x1 + 1)).bind fun v299 =>
(P_X11_isDropped v299 W298.2.2.1).bind fun z300 =>
(P_X11_thrown z300.2).bind fun v301 =>
bif (ieq v301 v297) then
letK (k8 (W298.1, (W298.2.1, (z300.2, W298.2.2.2)))) fun k303 =>
bif (ieq v297 0) then
(ald z300.2 74 1 0).bind fun v304 =>
letK (fun (x305 : Int) =>
bif (ieq (lcmpI v304 x305) 0) then
k303
else
some (.inl false, (W298.1, (W298.2.1, (z300.2, W298.2.2.2))))) fun k307 =>
bif z300.1 then
k307 1
else
k307 0
else
k303
else
some (.inl false, (W298.1, (W298.2.1, (z300.2, W298.2.2.2))))
else
bif decide (w32 (iAnd v5 63) = 33) then
(P_X10_leastEnd W2.2.2.1).bind fun z308 =>
(P_X11_leastEnd z308.2).bind fun z309 =>
bif (ieq z308.1 z309.1) then
k8 (W2.1, (W2.2.1, (z309.2, W2.2.2.2)))
else
some (.inl false, (W2.1, (W2.2.1, (z309.2, W2.2.2.2))))
else
bif decide (w32 (iAnd v5 63) = 34) then
(xld scr (x1 + 1)).bind fun v310 =>
notB (P_L_twoAt v310 W2) fun v311 W312 =>
(xld scr (x1 + 1)).bind fun v313 =>
(P_X11_twoAt v313 W312.2.2.1).bind fun z314 =>
(P_X11_thrown z314.2).bind fun v315 =>
bif (ieq v315 v311) then
letK (k8 (W312.1, (W312.2.1, (z314.2, W312.2.2.2)))) fun k317 =>
bif (ieq v311 0) then
(ald z314.2 74 1 0).bind fun v318 =>
bif (ieq (lcmpI v318 (w32 z314.1)) 0) then
k317
else
some (.inl false, (W312.1, (W312.2.1, (z314.2, W312.2.2.2))))
else
k317
else
some (.inl false, (W312.1, (W312.2.1, (z314.2, W312.2.2.2))))
else
bif decide (w32 (iAnd v5 63) = 35) then
(P_X10_leastSetup W2.2.2.1).bind fun z319 =>
(P_X11_leastSetup z319.2).bind fun z320 =>
bif (ieq z319.1 z320.1) then
k8 (W2.1, (W2.2.1, (z320.2, W2.2.2.2)))
else
some (.inl false, (W2.1, (W2.2.1, (z320.2, W2.2.2.2))))
else
bif decide (w32 (iAnd v5 63) = 36) then
(xld scr (x1 + 1)).bind fun v321 =>
notB (P_L_setupAt v321 W2) fun v322 W323 =>
(xld scr (x1 + 1)).bind fun v324 =>
(P_X11_setupAt v324 W323.2.2.1).bind fun z325 =>
(P_X11_thrown z325.2).bind fun v326 =>
bif (ieq v326 v322) then
letK (k8 (W323.1, (W323.2.1, (z325.2, W323.2.2.2)))) fun k328 =>
bif (ieq v322 0) then
(ald z325.2 74 1 0).bind fun v329 =>
bif (ieq (lcmpI v329 (w32 z325.1)) 0) then
k328
else
some (.inl false, (W323.1, (W323.2.1, (z325.2, W323.2.2.2))))
else
k328
else
some (.inl false, (W323.1, (W323.2.1, (z325.2, W323.2.2.2))))
else
bif decide (w32 (iAnd v5 63) = 37) then
(xld scr (x1 + 1)).bind fun v330 =>
notB (P_L_match v330 W2) fun v331 W332 =>
(xld scr (x1 + 1)).bind fun v333 =>
(P_X11_match v333 W332.2.2.1).bind fun z334 =>
(P_X11_thrown z334.2).bind fun v335 =>
bif (ieq v335 v331) then
letK (k8 (W332.1, (W332.2.1, (z334.2, W332.2.2.2)))) fun k337 =>
bif (ieq v331 0) then
(ald z334.2 74 1 0).bind fun v338 =>
bif (ieq (lcmpI v338 (w32 z334.1)) 0) then
k337
else
some (.inl false, (W332.1, (W332.2.1, (z334.2, W332.2.2.2))))
else
k337
else
some (.inl false, (W332.1, (W332.2.1, (z334.2, W332.2.2.2))))
else
bif decide (w32 (iAnd v5 63) = 38) then
(xld scr (x1 + 1)).bind fun v339 =>
(xld scr (x1 + 2)).bind fun v340 =>
notB (P_L_workerOf v339 v340 W2) fun v341 W342 =>
(xld scr (x1 + 1)).bind fun v343 =>
(xld scr (x1 + 2)).bind fun v344 =>
(P_X11_workerOf v343 v344 W342.2.2.1).bind fun z345 =>
(P_X11_thrown z345.2).bind fun v346 =>
bif (ieq v346 v341) then
letK (k8 (W342.1, (W342.2.1, (z345.2, W342.2.2.2)))) fun k348 =>
bif (ieq v341 0) then
(ald z345.2 74 1 0).bind fun v349 =>
bif (ieq (lcmpI v349 (w32 z345.1)) 0) then
k348
else
some (.inl false, (W342.1, (W342.2.1, (z345.2, W342.2.2.2))))
else
k348
else
some (.inl false, (W342.1, (W342.2.1, (z345.2, W342.2.2.2))))
else
bif decide (w32 (iAnd v5 63) = 39) then
(xld scr (x1 + 1)).bind fun v350 =>
(xld scr (x1 + 2)).bind fun v351 =>
(xld scr (x1 + 3)).bind fun v352 =>
notB (P_L_promise v350 v351 v352 W2) fun v353 W354 =>
(xld scr (x1 + 1)).bind fun v355 =>
(xld scr (x1 + 2)).bind fun v356 =>
(xld scr (x1 + 3)).bind fun v357 =>
(P_X11_promise v355 v356 v357 W354.2.2.1).bind fun z358 =>
(P_X11_thrown z358.2).bind fun v359 =>
bif (ieq v359 v353) then
letK (k8 (W354.1, (W354.2.1, (z358.2, W354.2.2.2)))) fun k361 =>
bif (ieq v353 0) then
(ald z358.2 74 1 0).bind fun v362 =>
bif (ieq (lcmpI v362 (w32 z358.1)) 0) then
k361
else
some (.inl false, (W354.1, (W354.2.1, (z358.2, W354.2.2.2))))
else
k361
else
some (.inl false, (W354.1, (W354.2.1, (z358.2, W354.2.2.2))))
else
bif decide (w32 (iAnd v5 63) = 40) then
(xld scr (x1 + 1)).bind fun v363 =>
(xld scr (x1 + 2)).bind fun v364 =>
notB (P_L_worked v363 v364 W2) fun v365 W366 =>
(xld scr (x1 + 1)).bind fun v367 =>
(xld scr (x1 + 2)).bind fun v368 =>
(P_X11_worked v367 v368 W366.2.2.1).bind fun z369 =>
(P_X11_thrown z369.2).bind fun v370 =>
bif (ieq v370 v365) then
letK (k8 (W366.1, (W366.2.1, (z369.2, W366.2.2.2)))) fun k372 =>
bif (ieq v365 0) then
(ald z369.2 74 1 0).bind fun v373 =>
bif (ieq (lcmpI v373 (w32 z369.1)) 0) then
k372
else
some (.inl false, (W366.1, (W366.2.1, (z369.2, W366.2.2.2))))
else
k372
else
some (.inl false, (W366.1, (W366.2.1, (z369.2, W366.2.2.2))))
else
bif decide (w32 (iAnd v5 63) = 41) then
notB (P_L_meanEnd W2) fun v374 W375 =>
(P_X11_meanEnd W375.2.2.1).bind fun z376 =>
(P_X11_thrown z376.2).bind fun v377 =>
bif (ieq v377 v374) then
letK (k8 (W375.1, (W375.2.1, (z376.2, W375.2.2.2)))) fun k379 =>
bif (ieq v374 0) then
(dld z376.2 75 1 0).bind fun v380 =>
bif (ieq (Op.cmpValue (FP.dcmp v380 z376.1) .l).toInt 0) then
k379
else
(dld z376.2 75 1 0).bind fun v381 =>
(dld z376.2 75 1 0).bind fun v382 =>
bif (ieq (Op.cmpValue (FP.dcmp v381 v382) .l).toInt 0) then
some (.inl false, (W375.1, (W375.2.1, (z376.2, W375.2.2.2))))
else
bif (ieq (Op.cmpValue (FP.dcmp z376.1 z376.1) .l).toInt 0) then
some (.inl false, (W375.1, (W375.2.1, (z376.2, W375.2.2.2))))
else
k379
else
k379
else
some (.inl false, (W375.1, (W375.2.1, (z376.2, W375.2.2.2))))
else
bif decide (w32 (iAnd v5 63) = 42) then
(xld scr (x1 + 1)).bind fun v383 =>
notB (P_L_use v383 W2) fun v384 W385 =>
(xld scr (x1 + 1)).bind fun v386 =>
(P_X11_use v386 W385.2.2.1).bind fun z387 =>
(P_X11_thrown z387.2).bind fun v388 =>
bif (ieq v388 v384) then
letK (k8 (W385.1, (W385.2.1, (z387.2, W385.2.2.2)))) fun k390 =>
bif (ieq v384 0) then
(dld z387.2 75 1 0).bind fun v391 =>
(ftd z387.1).bind fun v392 =>
bif (ieq (Op.cmpValue (FP.dcmp v391 v392) .l).toInt 0) then
k390
else
(dld z387.2 75 1 0).bind fun v393 =>
(dld z387.2 75 1 0).bind fun v394 =>
bif (ieq (Op.cmpValue (FP.dcmp v393 v394) .l).toInt 0) then
some (.inl false, (W385.1, (W385.2.1, (z387.2, W385.2.2.2))))
else
bif (ieq (Op.cmpValue (FP.fcmp z387.1 z387.1) .l).toInt 0) then
some (.inl false, (W385.1, (W385.2.1, (z387.2, W385.2.2.2))))
else
k390
else
k390
else
some (.inl false, (W385.1, (W385.2.1, (z387.2, W385.2.2.2))))
else
bif decide (w32 (iAnd v5 63) = 43) then
(P_X10_errors W2.2.2.1).bind fun z395 =>
(P_X11_errors z395.2).bind fun z396 =>
bif (ieq z395.1 z396.1) then
k8 (W2.1, (W2.2.1, (z396.2, W2.2.2.2)))
else
some (.inl false, (W2.1, (W2.2.1, (z396.2, W2.2.2.2))))
else
k8 W2) i0 W
set_option maxRecDepth 100000 in
theorem T_L_law (scr : mScr) (d : Nat) (W : mW) (i0 : Int) : Sim scr (d + 18) mc_L_law 1 [] e2B (28, ([lX scr.1, lR 0, lR 56, lR 74, lR 75, lI i0, none, none, none], ([], (mSH W.1 W.2.1, (W.2.2.1, W.2.2.2))))) (P_L_law scr i0 W) := by
  unfold P_L_law
  refine sm_loop2 (S := fun (g3 : Option mV × Option mV × Option mV) (x1 : Int) (W2 : mW) => (28, ([lX scr.1, lR 0, lR 56, lR 74, lR 75, lI x1, g3.1, g3.2.1, g3.2.2], ([], (mSH W2.1 W2.2.1, (W2.2.2.1, W2.2.2.2)))))) ?_ LF (none, none, none) i0 W
  intro again4 hagain4 g3 x1 W2
  refine sm_go 2 (s' := (31, ([lX scr.1, lR 0, lR 56, lR 74, lR 75, lI x1, g3.1, g3.2.1, g3.2.2], ([sX scr.1, sI x1], (mSH W2.1 W2.2.1, (W2.2.2.1, W2.2.2.2)))))) ?_ rfl
  refine sm_xal rfl ?_
  refine sm_go 2 (s' := (34, ([lX scr.1, lR 0, lR 56, lR 74, lR 75, lI x1, g3.1, g3.2.1, g3.2.2], ([sI ((scr.2.1 : Int) - 5), sI x1], (mSH W2.1 W2.2.1, (W2.2.2.1, W2.2.2.2)))))) ?_ rfl
  refine sm_if2 (t := (ilt ((scr.2.1 : Int) - 5) x1)) (pt := 2665) rfl rfl rfl (fun _ => ?_) (fun _ => ?_)
  · refine sm_go 1 (s' := (2666, ([lX scr.1, lR 0, lR 56, lR 74, lR 75, lI x1, g3.1, g3.2.1, g3.2.2], ([sI 1], (mSH W2.1 W2.2.1, (W2.2.2.1, W2.2.2.2)))))) ?_ rfl
    exact sm_retB1 (b := true) rfl rfl
  · refine sm_go 2 (s' := (40, ([lX scr.1, lR 0, lR 56, lR 74, lR 75, lI x1, g3.1, g3.2.1, g3.2.2], ([sI x1, sX scr.1], (mSH W2.1 W2.2.1, (W2.2.2.1, W2.2.2.2)))))) ?_ rfl
    refine sm_xld rfl fun v5 => ?_
    refine sm_letK1 (S := fun (g7 : Option mV × Option mV × Option mV) (W6 : mW) => (2659, ([lX scr.1, lR 0, lR 56, lR 74, lR 75, lI x1, g7.1, g7.2.1, g7.2.2], ([], (mSH W6.1 W6.2.1, (W6.2.2.1, W6.2.2.2)))))) ?_ ?_
    · intro g7 W6
      exact sm_go 2 (hagain4 (g7.1, g7.2.1, g7.2.2) (x1 + 5) W6) rfl
    · intro k8 hk8
      refine sm_go 2 (s' := (44, ([lX scr.1, lR 0, lR 56, lR 74, lR 75, lI x1, g3.1, g3.2.1, g3.2.2], ([sI (iAnd v5 63)], (mSH W2.1 W2.2.1, (W2.2.2.1, W2.2.2.2)))))) ?_ rfl
      refine sm_sw (fun hw0 => ?_) (fun hw0 => ?_)
      · refine sm_swC (pt := 236) hw0 rfl rfl ?_
        refine sm_go 5 (s' := (242, ([lX scr.1, lR 0, lR 56, lR 74, lR 75, lI x1, g3.1, g3.2.1, g3.2.2], ([sI (x1 + 1), sX scr.1, sR 0], (mSH W2.1 W2.2.1, (W2.2.2.1, W2.2.2.2)))))) ?_ rfl
        refine sm_xld rfl fun v9 => ?_
        refine sm_go 4 (s' := (248, ([lX scr.1, lR 0, lR 56, lR 74, lR 75, lI x1, g3.1, g3.2.1, g3.2.2], ([sI (x1 + 2), sX scr.1, sI v9, sR 0], (mSH W2.1 W2.2.1, (W2.2.2.1, W2.2.2.2)))))) ?_ rfl
        refine sm_xld rfl fun v10 => ?_
        refine sm_go 4 (s' := (254, ([lX scr.1, lR 0, lR 56, lR 74, lR 75, lI x1, g3.1, g3.2.1, g3.2.2], ([sI (x1 + 3), sX scr.1, sI v10, sI v9, sR 0], (mSH W2.1 W2.2.1, (W2.2.2.1, W2.2.2.2)))))) ?_ rfl
        refine sm_xld rfl fun v11 => ?_
        refine sm_go 1 (s' := (256, ([lX scr.1, lR 0, lR 56, lR 74, lR 75, lI x1, g3.1, g3.2.1, g3.2.2], ([sR 74, sI v11, sI v10, sI v9, sR 0], (mSH W2.1 W2.2.1, (W2.2.2.1, W2.2.2.2)))))) ?_ rfl
        refine sm_notB (rest := []) (T_L_close scr (d + 10) W2 v9 v10 v11) rfl (Or.inr (Or.inl rfl)) rfl rfl rfl rfl (fun _ _ => rfl) (fun v12 W13 => (259, ([lX scr.1, lR 0, lR 56, lR 74, lR 75, lI x1, g3.1, g3.2.1, g3.2.2], ([sI v12], (mSH W13.1 W13.2.1, (W13.2.2.1, W13.2.2.2)))))) (fun _ _ => rfl) fun v12 W13 => ?_
        refine sm_go 6 (s' := (267, ([lX scr.1, lR 0, lR 56, lR 74, lR 75, lI x1, lI v12, g3.2.1, g3.2.2], ([sI (x1 + 1), sX scr.1, sR 56], (mSH W13.1 W13.2.1, (W13.2.2.1, W13.2.2.2)))))) ?_ rfl
        refine sm_xld rfl fun v14 => ?_
        refine sm_go 4 (s' := (273, ([lX scr.1, lR 0, lR 56, lR 74, lR 75, lI x1, lI v12, g3.2.1, g3.2.2], ([sI (x1 + 2), sX scr.1, sI v14, sR 56], (mSH W13.1 W13.2.1, (W13.2.2.1, W13.2.2.2)))))) ?_ rfl
        refine sm_xld rfl fun v15 => ?_
        refine sm_go 4 (s' := (279, ([lX scr.1, lR 0, lR 56, lR 74, lR 75, lI x1, lI v12, g3.2.1, g3.2.2], ([sI (x1 + 3), sX scr.1, sI v15, sI v14, sR 56], (mSH W13.1 W13.2.1, (W13.2.2.1, W13.2.2.2)))))) ?_ rfl
        refine sm_xld rfl fun v16 => ?_
        refine sm_callG (rest := []) (T_X11_close scr (d + 16) W13.1 W13.2.1 W13.2.2.2 W13.2.2.1 v14 v15 v16) rfl (Or.inl rfl) rfl rfl rfl rfl (fun _ => rfl) (fun z17 => (283, ([lX scr.1, lR 0, lR 56, lR 74, lR 75, lI x1, lI v12, g3.2.1, g3.2.2], ([sI z17.1], (mSH W13.1 W13.2.1, (z17.2, W13.2.2.2)))))) (fun _ => rfl) fun z17 => ?_
        refine sm_go 2 (s' := (286, ([lX scr.1, lR 0, lR 56, lR 74, lR 75, lI x1, lI v12, lI z17.1, g3.2.2], ([sR 56], (mSH W13.1 W13.2.1, (z17.2, W13.2.2.2)))))) ?_ rfl
        refine sm_callG (rest := []) (T_X11_thrown scr (d + 17) W13.1 W13.2.1 W13.2.2.2 z17.2) rfl (Or.inl rfl) rfl rfl rfl rfl (fun _ => rfl) (fun v18 => (289, ([lX scr.1, lR 0, lR 56, lR 74, lR 75, lI x1, lI v12, lI z17.1, g3.2.2], ([sI v18], (mSH W13.1 W13.2.1, (z17.2, W13.2.2.2)))))) (fun _ => rfl) fun v18 => ?_
        refine sm_go 1 (s' := (291, ([lX scr.1, lR 0, lR 56, lR 74, lR 75, lI x1, lI v12, lI z17.1, g3.2.2], ([sI v12, sI v18], (mSH W13.1 W13.2.1, (z17.2, W13.2.2.2)))))) ?_ rfl
        refine sm_if2 (t := (ieq v18 v12)) (pt := 296) rfl rfl rfl (fun _ => ?_) (fun _ => ?_)
        · refine sm_letK0 (S := fun (g19 : Unit) => (313, ([lX scr.1, lR 0, lR 56, lR 74, lR 75, lI x1, lI v12, lI z17.1, g3.2.2], ([], (mSH W13.1 W13.2.1, (z17.2, W13.2.2.2)))))) ?_ ?_
          · intro g19
            exact sm_go 1 (hk8 (lI v12, lI z17.1, g3.2.2) (W13.1, (W13.2.1, (z17.2, W13.2.2.2)))) rfl
          · intro k20 hk20
            refine sm_go 1 (s' := (298, ([lX scr.1, lR 0, lR 56, lR 74, lR 75, lI x1, lI v12, lI z17.1, g3.2.2], ([sI v12], (mSH W13.1 W13.2.1, (z17.2, W13.2.2.2)))))) ?_ rfl
            refine sm_if1n (t := (ieq v12 0)) (pt := 313) rfl rfl rfl (fun _ => ?_) (fun _ => ?_)
            · refine sm_go 2 (s' := (303, ([lX scr.1, lR 0, lR 56, lR 74, lR 75, lI x1, lI v12, lI z17.1, g3.2.2], ([sI 0, sR 74], (mSH W13.1 W13.2.1, (z17.2, W13.2.2.2)))))) ?_ rfl
              refine sm_lld rfl rfl fun v21 => ?_
              refine sm_go 3 (s' := (308, ([lX scr.1, lR 0, lR 56, lR 74, lR 75, lI x1, lI v12, lI z17.1, g3.2.2], ([sI (lcmpI v21 (w32 z17.1))], (mSH W13.1 W13.2.1, (z17.2, W13.2.2.2)))))) ?_ rfl
              refine sm_if1 (t := (ieq (lcmpI v21 (w32 z17.1)) 0)) (pt := 313) rfl rfl rfl (fun _ => ?_) (fun _ => ?_)
              · exact hk20 ()
              · refine sm_go 1 (s' := (312, ([lX scr.1, lR 0, lR 56, lR 74, lR 75, lI x1, lI v12, lI z17.1, g3.2.2], ([sI 0], (mSH W13.1 W13.2.1, (z17.2, W13.2.2.2)))))) ?_ rfl
                exact sm_retB1 (b := false) rfl rfl
            · exact hk20 ()
        · refine sm_go 1 (s' := (295, ([lX scr.1, lR 0, lR 56, lR 74, lR 75, lI x1, lI v12, lI z17.1, g3.2.2], ([sI 0], (mSH W13.1 W13.2.1, (z17.2, W13.2.2.2)))))) ?_ rfl
          exact sm_retB1 (b := false) rfl rfl
      refine sm_sw (fun hw1 => ?_) (fun hw1 => ?_)
      · refine sm_swC (pt := 316) hw1 rfl rfl ?_
        refine sm_go 5 (s' := (322, ([lX scr.1, lR 0, lR 56, lR 74, lR 75, lI x1, g3.1, g3.2.1, g3.2.2], ([sI (x1 + 1), sX scr.1, sR 0], (mSH W2.1 W2.2.1, (W2.2.2.1, W2.2.2.2)))))) ?_ rfl
        refine sm_xld rfl fun v22 => ?_
        refine sm_go 4 (s' := (328, ([lX scr.1, lR 0, lR 56, lR 74, lR 75, lI x1, g3.1, g3.2.1, g3.2.2], ([sI (x1 + 2), sX scr.1, sI v22, sR 0], (mSH W2.1 W2.2.1, (W2.2.2.1, W2.2.2.2)))))) ?_ rfl
        refine sm_xld rfl fun v23 => ?_
        refine sm_go 4 (s' := (334, ([lX scr.1, lR 0, lR 56, lR 74, lR 75, lI x1, g3.1, g3.2.1, g3.2.2], ([sI (x1 + 3), sX scr.1, sI v23, sI v22, sR 0], (mSH W2.1 W2.2.1, (W2.2.2.1, W2.2.2.2)))))) ?_ rfl
        refine sm_xld rfl fun v24 => ?_
        refine sm_go 1 (s' := (336, ([lX scr.1, lR 0, lR 56, lR 74, lR 75, lI x1, g3.1, g3.2.1, g3.2.2], ([sR 74, sI v24, sI v23, sI v22, sR 0], (mSH W2.1 W2.2.1, (W2.2.2.1, W2.2.2.2)))))) ?_ rfl
        refine sm_notB (rest := []) (T_L_setTool scr (d + 10) W2 v22 v23 v24) rfl (Or.inr (Or.inl rfl)) rfl rfl rfl rfl (fun _ _ => rfl) (fun v25 W26 => (339, ([lX scr.1, lR 0, lR 56, lR 74, lR 75, lI x1, g3.1, g3.2.1, g3.2.2], ([sI v25], (mSH W26.1 W26.2.1, (W26.2.2.1, W26.2.2.2)))))) (fun _ _ => rfl) fun v25 W26 => ?_
        refine sm_go 6 (s' := (347, ([lX scr.1, lR 0, lR 56, lR 74, lR 75, lI x1, lI v25, g3.2.1, g3.2.2], ([sI (x1 + 1), sX scr.1, sR 56], (mSH W26.1 W26.2.1, (W26.2.2.1, W26.2.2.2)))))) ?_ rfl
        refine sm_xld rfl fun v27 => ?_
        refine sm_go 4 (s' := (353, ([lX scr.1, lR 0, lR 56, lR 74, lR 75, lI x1, lI v25, g3.2.1, g3.2.2], ([sI (x1 + 2), sX scr.1, sI v27, sR 56], (mSH W26.1 W26.2.1, (W26.2.2.1, W26.2.2.2)))))) ?_ rfl
        refine sm_xld rfl fun v28 => ?_
        refine sm_go 4 (s' := (359, ([lX scr.1, lR 0, lR 56, lR 74, lR 75, lI x1, lI v25, g3.2.1, g3.2.2], ([sI (x1 + 3), sX scr.1, sI v28, sI v27, sR 56], (mSH W26.1 W26.2.1, (W26.2.2.1, W26.2.2.2)))))) ?_ rfl
        refine sm_xld rfl fun v29 => ?_
        refine sm_callG (rest := []) (T_X11_setTool scr (d + 16) W26.1 W26.2.1 W26.2.2.2 W26.2.2.1 v27 v28 v29) rfl (Or.inl rfl) rfl rfl rfl rfl (fun _ => rfl) (fun z30 => (363, ([lX scr.1, lR 0, lR 56, lR 74, lR 75, lI x1, lI v25, g3.2.1, g3.2.2], ([sI z30.1], (mSH W26.1 W26.2.1, (z30.2, W26.2.2.2)))))) (fun _ => rfl) fun z30 => ?_
        refine sm_go 2 (s' := (366, ([lX scr.1, lR 0, lR 56, lR 74, lR 75, lI x1, lI v25, lI z30.1, g3.2.2], ([sR 56], (mSH W26.1 W26.2.1, (z30.2, W26.2.2.2)))))) ?_ rfl
        refine sm_callG (rest := []) (T_X11_thrown scr (d + 17) W26.1 W26.2.1 W26.2.2.2 z30.2) rfl (Or.inl rfl) rfl rfl rfl rfl (fun _ => rfl) (fun v31 => (369, ([lX scr.1, lR 0, lR 56, lR 74, lR 75, lI x1, lI v25, lI z30.1, g3.2.2], ([sI v31], (mSH W26.1 W26.2.1, (z30.2, W26.2.2.2)))))) (fun _ => rfl) fun v31 => ?_
        refine sm_go 1 (s' := (371, ([lX scr.1, lR 0, lR 56, lR 74, lR 75, lI x1, lI v25, lI z30.1, g3.2.2], ([sI v25, sI v31], (mSH W26.1 W26.2.1, (z30.2, W26.2.2.2)))))) ?_ rfl
        refine sm_if2 (t := (ieq v31 v25)) (pt := 376) rfl rfl rfl (fun _ => ?_) (fun _ => ?_)
        · refine sm_letK0 (S := fun (g32 : Unit) => (393, ([lX scr.1, lR 0, lR 56, lR 74, lR 75, lI x1, lI v25, lI z30.1, g3.2.2], ([], (mSH W26.1 W26.2.1, (z30.2, W26.2.2.2)))))) ?_ ?_
          · intro g32
            exact sm_go 1 (hk8 (lI v25, lI z30.1, g3.2.2) (W26.1, (W26.2.1, (z30.2, W26.2.2.2)))) rfl
          · intro k33 hk33
            refine sm_go 1 (s' := (378, ([lX scr.1, lR 0, lR 56, lR 74, lR 75, lI x1, lI v25, lI z30.1, g3.2.2], ([sI v25], (mSH W26.1 W26.2.1, (z30.2, W26.2.2.2)))))) ?_ rfl
            refine sm_if1n (t := (ieq v25 0)) (pt := 393) rfl rfl rfl (fun _ => ?_) (fun _ => ?_)
            · refine sm_go 2 (s' := (383, ([lX scr.1, lR 0, lR 56, lR 74, lR 75, lI x1, lI v25, lI z30.1, g3.2.2], ([sI 0, sR 74], (mSH W26.1 W26.2.1, (z30.2, W26.2.2.2)))))) ?_ rfl
              refine sm_lld rfl rfl fun v34 => ?_
              refine sm_go 3 (s' := (388, ([lX scr.1, lR 0, lR 56, lR 74, lR 75, lI x1, lI v25, lI z30.1, g3.2.2], ([sI (lcmpI v34 (w32 z30.1))], (mSH W26.1 W26.2.1, (z30.2, W26.2.2.2)))))) ?_ rfl
              refine sm_if1 (t := (ieq (lcmpI v34 (w32 z30.1)) 0)) (pt := 393) rfl rfl rfl (fun _ => ?_) (fun _ => ?_)
              · exact hk33 ()
              · refine sm_go 1 (s' := (392, ([lX scr.1, lR 0, lR 56, lR 74, lR 75, lI x1, lI v25, lI z30.1, g3.2.2], ([sI 0], (mSH W26.1 W26.2.1, (z30.2, W26.2.2.2)))))) ?_ rfl
                exact sm_retB1 (b := false) rfl rfl
            · exact hk33 ()
        · refine sm_go 1 (s' := (375, ([lX scr.1, lR 0, lR 56, lR 74, lR 75, lI x1, lI v25, lI z30.1, g3.2.2], ([sI 0], (mSH W26.1 W26.2.1, (z30.2, W26.2.2.2)))))) ?_ rfl
          exact sm_retB1 (b := false) rfl rfl
      refine sm_sw (fun hw2 => ?_) (fun hw2 => ?_)
      · refine sm_swC (pt := 396) hw2 rfl rfl ?_
        refine sm_go 5 (s' := (402, ([lX scr.1, lR 0, lR 56, lR 74, lR 75, lI x1, g3.1, g3.2.1, g3.2.2], ([sI (x1 + 1), sX scr.1, sR 0], (mSH W2.1 W2.2.1, (W2.2.2.1, W2.2.2.2)))))) ?_ rfl
        refine sm_xld rfl fun v35 => ?_
        refine sm_go 4 (s' := (408, ([lX scr.1, lR 0, lR 56, lR 74, lR 75, lI x1, g3.1, g3.2.1, g3.2.2], ([sI (x1 + 2), sX scr.1, sI v35, sR 0], (mSH W2.1 W2.2.1, (W2.2.2.1, W2.2.2.2)))))) ?_ rfl
        refine sm_xld rfl fun v36 => ?_
        refine sm_go 4 (s' := (414, ([lX scr.1, lR 0, lR 56, lR 74, lR 75, lI x1, g3.1, g3.2.1, g3.2.2], ([sI (x1 + 3), sX scr.1, sI v36, sI v35, sR 0], (mSH W2.1 W2.2.1, (W2.2.2.1, W2.2.2.2)))))) ?_ rfl
        refine sm_xld rfl fun v37 => ?_
        refine sm_go 1 (s' := (416, ([lX scr.1, lR 0, lR 56, lR 74, lR 75, lI x1, g3.1, g3.2.1, g3.2.2], ([sR 74, sI v37, sI v36, sI v35, sR 0], (mSH W2.1 W2.2.1, (W2.2.2.1, W2.2.2.2)))))) ?_ rfl
        refine sm_notB (rest := []) (T_L_setSetup scr (d + 9) W2 v35 v36 v37) rfl (Or.inr (Or.inl rfl)) rfl rfl rfl rfl (fun _ _ => rfl) (fun v38 W39 => (419, ([lX scr.1, lR 0, lR 56, lR 74, lR 75, lI x1, g3.1, g3.2.1, g3.2.2], ([sI v38], (mSH W39.1 W39.2.1, (W39.2.2.1, W39.2.2.2)))))) (fun _ _ => rfl) fun v38 W39 => ?_
        refine sm_go 6 (s' := (427, ([lX scr.1, lR 0, lR 56, lR 74, lR 75, lI x1, lI v38, g3.2.1, g3.2.2], ([sI (x1 + 1), sX scr.1, sR 56], (mSH W39.1 W39.2.1, (W39.2.2.1, W39.2.2.2)))))) ?_ rfl
        refine sm_xld rfl fun v40 => ?_
        refine sm_go 4 (s' := (433, ([lX scr.1, lR 0, lR 56, lR 74, lR 75, lI x1, lI v38, g3.2.1, g3.2.2], ([sI (x1 + 2), sX scr.1, sI v40, sR 56], (mSH W39.1 W39.2.1, (W39.2.2.1, W39.2.2.2)))))) ?_ rfl
        refine sm_xld rfl fun v41 => ?_
        refine sm_go 4 (s' := (439, ([lX scr.1, lR 0, lR 56, lR 74, lR 75, lI x1, lI v38, g3.2.1, g3.2.2], ([sI (x1 + 3), sX scr.1, sI v41, sI v40, sR 56], (mSH W39.1 W39.2.1, (W39.2.2.1, W39.2.2.2)))))) ?_ rfl
        refine sm_xld rfl fun v42 => ?_
        refine sm_callG (rest := []) (T_X11_setSetup scr (d + 16) W39.1 W39.2.1 W39.2.2.2 W39.2.2.1 v40 v41 v42) rfl (Or.inl rfl) rfl rfl rfl rfl (fun _ => rfl) (fun z43 => (443, ([lX scr.1, lR 0, lR 56, lR 74, lR 75, lI x1, lI v38, g3.2.1, g3.2.2], ([sI z43.1], (mSH W39.1 W39.2.1, (z43.2, W39.2.2.2)))))) (fun _ => rfl) fun z43 => ?_
        refine sm_go 2 (s' := (446, ([lX scr.1, lR 0, lR 56, lR 74, lR 75, lI x1, lI v38, lI z43.1, g3.2.2], ([sR 56], (mSH W39.1 W39.2.1, (z43.2, W39.2.2.2)))))) ?_ rfl
        refine sm_callG (rest := []) (T_X11_thrown scr (d + 17) W39.1 W39.2.1 W39.2.2.2 z43.2) rfl (Or.inl rfl) rfl rfl rfl rfl (fun _ => rfl) (fun v44 => (449, ([lX scr.1, lR 0, lR 56, lR 74, lR 75, lI x1, lI v38, lI z43.1, g3.2.2], ([sI v44], (mSH W39.1 W39.2.1, (z43.2, W39.2.2.2)))))) (fun _ => rfl) fun v44 => ?_
        refine sm_go 1 (s' := (451, ([lX scr.1, lR 0, lR 56, lR 74, lR 75, lI x1, lI v38, lI z43.1, g3.2.2], ([sI v38, sI v44], (mSH W39.1 W39.2.1, (z43.2, W39.2.2.2)))))) ?_ rfl
        refine sm_if2 (t := (ieq v44 v38)) (pt := 456) rfl rfl rfl (fun _ => ?_) (fun _ => ?_)
        · refine sm_letK0 (S := fun (g45 : Unit) => (473, ([lX scr.1, lR 0, lR 56, lR 74, lR 75, lI x1, lI v38, lI z43.1, g3.2.2], ([], (mSH W39.1 W39.2.1, (z43.2, W39.2.2.2)))))) ?_ ?_
          · intro g45
            exact sm_go 1 (hk8 (lI v38, lI z43.1, g3.2.2) (W39.1, (W39.2.1, (z43.2, W39.2.2.2)))) rfl
          · intro k46 hk46
            refine sm_go 1 (s' := (458, ([lX scr.1, lR 0, lR 56, lR 74, lR 75, lI x1, lI v38, lI z43.1, g3.2.2], ([sI v38], (mSH W39.1 W39.2.1, (z43.2, W39.2.2.2)))))) ?_ rfl
            refine sm_if1n (t := (ieq v38 0)) (pt := 473) rfl rfl rfl (fun _ => ?_) (fun _ => ?_)
            · refine sm_go 2 (s' := (463, ([lX scr.1, lR 0, lR 56, lR 74, lR 75, lI x1, lI v38, lI z43.1, g3.2.2], ([sI 0, sR 74], (mSH W39.1 W39.2.1, (z43.2, W39.2.2.2)))))) ?_ rfl
              refine sm_lld rfl rfl fun v47 => ?_
              refine sm_go 3 (s' := (468, ([lX scr.1, lR 0, lR 56, lR 74, lR 75, lI x1, lI v38, lI z43.1, g3.2.2], ([sI (lcmpI v47 (w32 z43.1))], (mSH W39.1 W39.2.1, (z43.2, W39.2.2.2)))))) ?_ rfl
              refine sm_if1 (t := (ieq (lcmpI v47 (w32 z43.1)) 0)) (pt := 473) rfl rfl rfl (fun _ => ?_) (fun _ => ?_)
              · exact hk46 ()
              · refine sm_go 1 (s' := (472, ([lX scr.1, lR 0, lR 56, lR 74, lR 75, lI x1, lI v38, lI z43.1, g3.2.2], ([sI 0], (mSH W39.1 W39.2.1, (z43.2, W39.2.2.2)))))) ?_ rfl
                exact sm_retB1 (b := false) rfl rfl
            · exact hk46 ()
        · refine sm_go 1 (s' := (455, ([lX scr.1, lR 0, lR 56, lR 74, lR 75, lI x1, lI v38, lI z43.1, g3.2.2], ([sI 0], (mSH W39.1 W39.2.1, (z43.2, W39.2.2.2)))))) ?_ rfl
          exact sm_retB1 (b := false) rfl rfl
      refine sm_sw (fun hw3 => ?_) (fun hw3 => ?_)
      · refine sm_swC (pt := 476) hw3 rfl rfl ?_
        refine sm_go 5 (s' := (482, ([lX scr.1, lR 0, lR 56, lR 74, lR 75, lI x1, g3.1, g3.2.1, g3.2.2], ([sI (x1 + 1), sX scr.1, sR 0], (mSH W2.1 W2.2.1, (W2.2.2.1, W2.2.2.2)))))) ?_ rfl
        refine sm_xld rfl fun v48 => ?_
        refine sm_go 4 (s' := (488, ([lX scr.1, lR 0, lR 56, lR 74, lR 75, lI x1, g3.1, g3.2.1, g3.2.2], ([sI (x1 + 2), sX scr.1, sI v48, sR 0], (mSH W2.1 W2.2.1, (W2.2.2.1, W2.2.2.2)))))) ?_ rfl
        refine sm_xld rfl fun v49 => ?_
        refine sm_go 4 (s' := (494, ([lX scr.1, lR 0, lR 56, lR 74, lR 75, lI x1, g3.1, g3.2.1, g3.2.2], ([sI (x1 + 3), sX scr.1, sI v49, sI v48, sR 0], (mSH W2.1 W2.2.1, (W2.2.2.1, W2.2.2.2)))))) ?_ rfl
        refine sm_xld rfl fun v50 => ?_
        refine sm_go 4 (s' := (500, ([lX scr.1, lR 0, lR 56, lR 74, lR 75, lI x1, g3.1, g3.2.1, g3.2.2], ([sI (x1 + 4), sX scr.1, sI v50, sI v49, sI v48, sR 0], (mSH W2.1 W2.2.1, (W2.2.2.1, W2.2.2.2)))))) ?_ rfl
        refine sm_xld rfl fun v51 => ?_
        refine sm_go 1 (s' := (502, ([lX scr.1, lR 0, lR 56, lR 74, lR 75, lI x1, g3.1, g3.2.1, g3.2.2], ([sR 74, sI v51, sI v50, sI v49, sI v48, sR 0], (mSH W2.1 W2.2.1, (W2.2.2.1, W2.2.2.2)))))) ?_ rfl
        refine sm_notB (rest := []) (T_L_addJob scr (d + 9) W2 v48 v49 v50 v51) rfl (Or.inr (Or.inl rfl)) rfl rfl rfl rfl (fun _ _ => rfl) (fun v52 W53 => (505, ([lX scr.1, lR 0, lR 56, lR 74, lR 75, lI x1, g3.1, g3.2.1, g3.2.2], ([sI v52], (mSH W53.1 W53.2.1, (W53.2.2.1, W53.2.2.2)))))) (fun _ _ => rfl) fun v52 W53 => ?_
        refine sm_go 6 (s' := (513, ([lX scr.1, lR 0, lR 56, lR 74, lR 75, lI x1, lI v52, g3.2.1, g3.2.2], ([sI (x1 + 1), sX scr.1, sR 56], (mSH W53.1 W53.2.1, (W53.2.2.1, W53.2.2.2)))))) ?_ rfl
        refine sm_xld rfl fun v54 => ?_
        refine sm_go 4 (s' := (519, ([lX scr.1, lR 0, lR 56, lR 74, lR 75, lI x1, lI v52, g3.2.1, g3.2.2], ([sI (x1 + 2), sX scr.1, sI v54, sR 56], (mSH W53.1 W53.2.1, (W53.2.2.1, W53.2.2.2)))))) ?_ rfl
        refine sm_xld rfl fun v55 => ?_
        refine sm_go 4 (s' := (525, ([lX scr.1, lR 0, lR 56, lR 74, lR 75, lI x1, lI v52, g3.2.1, g3.2.2], ([sI (x1 + 3), sX scr.1, sI v55, sI v54, sR 56], (mSH W53.1 W53.2.1, (W53.2.2.1, W53.2.2.2)))))) ?_ rfl
        refine sm_xld rfl fun v56 => ?_
        refine sm_go 4 (s' := (531, ([lX scr.1, lR 0, lR 56, lR 74, lR 75, lI x1, lI v52, g3.2.1, g3.2.2], ([sI (x1 + 4), sX scr.1, sI v56, sI v55, sI v54, sR 56], (mSH W53.1 W53.2.1, (W53.2.2.1, W53.2.2.2)))))) ?_ rfl
        refine sm_xld rfl fun v57 => ?_
        refine sm_callG (rest := []) (T_X11_addJob scr (d + 16) W53.1 W53.2.1 W53.2.2.2 W53.2.2.1 v54 v55 v56 v57) rfl (Or.inl rfl) rfl rfl rfl rfl (fun _ => rfl) (fun z58 => (535, ([lX scr.1, lR 0, lR 56, lR 74, lR 75, lI x1, lI v52, g3.2.1, g3.2.2], ([sI z58.1], (mSH W53.1 W53.2.1, (z58.2, W53.2.2.2)))))) (fun _ => rfl) fun z58 => ?_
        refine sm_go 2 (s' := (538, ([lX scr.1, lR 0, lR 56, lR 74, lR 75, lI x1, lI v52, lI z58.1, g3.2.2], ([sR 56], (mSH W53.1 W53.2.1, (z58.2, W53.2.2.2)))))) ?_ rfl
        refine sm_callG (rest := []) (T_X11_thrown scr (d + 17) W53.1 W53.2.1 W53.2.2.2 z58.2) rfl (Or.inl rfl) rfl rfl rfl rfl (fun _ => rfl) (fun v59 => (541, ([lX scr.1, lR 0, lR 56, lR 74, lR 75, lI x1, lI v52, lI z58.1, g3.2.2], ([sI v59], (mSH W53.1 W53.2.1, (z58.2, W53.2.2.2)))))) (fun _ => rfl) fun v59 => ?_
        refine sm_go 1 (s' := (543, ([lX scr.1, lR 0, lR 56, lR 74, lR 75, lI x1, lI v52, lI z58.1, g3.2.2], ([sI v52, sI v59], (mSH W53.1 W53.2.1, (z58.2, W53.2.2.2)))))) ?_ rfl
        refine sm_if2 (t := (ieq v59 v52)) (pt := 548) rfl rfl rfl (fun _ => ?_) (fun _ => ?_)
        · refine sm_letK0 (S := fun (g60 : Unit) => (565, ([lX scr.1, lR 0, lR 56, lR 74, lR 75, lI x1, lI v52, lI z58.1, g3.2.2], ([], (mSH W53.1 W53.2.1, (z58.2, W53.2.2.2)))))) ?_ ?_
          · intro g60
            exact sm_go 1 (hk8 (lI v52, lI z58.1, g3.2.2) (W53.1, (W53.2.1, (z58.2, W53.2.2.2)))) rfl
          · intro k61 hk61
            refine sm_go 1 (s' := (550, ([lX scr.1, lR 0, lR 56, lR 74, lR 75, lI x1, lI v52, lI z58.1, g3.2.2], ([sI v52], (mSH W53.1 W53.2.1, (z58.2, W53.2.2.2)))))) ?_ rfl
            refine sm_if1n (t := (ieq v52 0)) (pt := 565) rfl rfl rfl (fun _ => ?_) (fun _ => ?_)
            · refine sm_go 2 (s' := (555, ([lX scr.1, lR 0, lR 56, lR 74, lR 75, lI x1, lI v52, lI z58.1, g3.2.2], ([sI 0, sR 74], (mSH W53.1 W53.2.1, (z58.2, W53.2.2.2)))))) ?_ rfl
              refine sm_lld rfl rfl fun v62 => ?_
              refine sm_go 3 (s' := (560, ([lX scr.1, lR 0, lR 56, lR 74, lR 75, lI x1, lI v52, lI z58.1, g3.2.2], ([sI (lcmpI v62 (w32 z58.1))], (mSH W53.1 W53.2.1, (z58.2, W53.2.2.2)))))) ?_ rfl
              refine sm_if1 (t := (ieq (lcmpI v62 (w32 z58.1)) 0)) (pt := 565) rfl rfl rfl (fun _ => ?_) (fun _ => ?_)
              · exact hk61 ()
              · refine sm_go 1 (s' := (564, ([lX scr.1, lR 0, lR 56, lR 74, lR 75, lI x1, lI v52, lI z58.1, g3.2.2], ([sI 0], (mSH W53.1 W53.2.1, (z58.2, W53.2.2.2)))))) ?_ rfl
                exact sm_retB1 (b := false) rfl rfl
            · exact hk61 ()
        · refine sm_go 1 (s' := (547, ([lX scr.1, lR 0, lR 56, lR 74, lR 75, lI x1, lI v52, lI z58.1, g3.2.2], ([sI 0], (mSH W53.1 W53.2.1, (z58.2, W53.2.2.2)))))) ?_ rfl
          exact sm_retB1 (b := false) rfl rfl
      refine sm_sw (fun hw4 => ?_) (fun hw4 => ?_)
      · refine sm_swC (pt := 568) hw4 rfl rfl ?_
        refine sm_go 5 (s' := (574, ([lX scr.1, lR 0, lR 56, lR 74, lR 75, lI x1, g3.1, g3.2.1, g3.2.2], ([sI (x1 + 1), sX scr.1, sR 0], (mSH W2.1 W2.2.1, (W2.2.2.1, W2.2.2.2)))))) ?_ rfl
        refine sm_xld rfl fun v63 => ?_
        refine sm_go 4 (s' := (580, ([lX scr.1, lR 0, lR 56, lR 74, lR 75, lI x1, g3.1, g3.2.1, g3.2.2], ([sI (x1 + 2), sX scr.1, sI v63, sR 0], (mSH W2.1 W2.2.1, (W2.2.2.1, W2.2.2.2)))))) ?_ rfl
        refine sm_xld rfl fun v64 => ?_
        refine sm_go 4 (s' := (586, ([lX scr.1, lR 0, lR 56, lR 74, lR 75, lI x1, g3.1, g3.2.1, g3.2.2], ([sI (x1 + 3), sX scr.1, sI v64, sI v63, sR 0], (mSH W2.1 W2.2.1, (W2.2.2.1, W2.2.2.2)))))) ?_ rfl
        refine sm_xld rfl fun v65 => ?_
        refine sm_go 1 (s' := (588, ([lX scr.1, lR 0, lR 56, lR 74, lR 75, lI x1, g3.1, g3.2.1, g3.2.2], ([sR 74, sI v65, sI v64, sI v63, sR 0], (mSH W2.1 W2.2.1, (W2.2.2.1, W2.2.2.2)))))) ?_ rfl
        refine sm_notB (rest := []) (T_L_addStep scr (d + 9) W2 v63 v64 v65) rfl (Or.inr (Or.inl rfl)) rfl rfl rfl rfl (fun _ _ => rfl) (fun v66 W67 => (591, ([lX scr.1, lR 0, lR 56, lR 74, lR 75, lI x1, g3.1, g3.2.1, g3.2.2], ([sI v66], (mSH W67.1 W67.2.1, (W67.2.2.1, W67.2.2.2)))))) (fun _ _ => rfl) fun v66 W67 => ?_
        refine sm_go 6 (s' := (599, ([lX scr.1, lR 0, lR 56, lR 74, lR 75, lI x1, lI v66, g3.2.1, g3.2.2], ([sI (x1 + 1), sX scr.1, sR 56], (mSH W67.1 W67.2.1, (W67.2.2.1, W67.2.2.2)))))) ?_ rfl
        refine sm_xld rfl fun v68 => ?_
        refine sm_go 4 (s' := (605, ([lX scr.1, lR 0, lR 56, lR 74, lR 75, lI x1, lI v66, g3.2.1, g3.2.2], ([sI (x1 + 2), sX scr.1, sI v68, sR 56], (mSH W67.1 W67.2.1, (W67.2.2.1, W67.2.2.2)))))) ?_ rfl
        refine sm_xld rfl fun v69 => ?_
        refine sm_go 4 (s' := (611, ([lX scr.1, lR 0, lR 56, lR 74, lR 75, lI x1, lI v66, g3.2.1, g3.2.2], ([sI (x1 + 3), sX scr.1, sI v69, sI v68, sR 56], (mSH W67.1 W67.2.1, (W67.2.2.1, W67.2.2.2)))))) ?_ rfl
        refine sm_xld rfl fun v70 => ?_
        refine sm_callG (rest := []) (T_X11_addStep scr (d + 15) W67.1 W67.2.1 W67.2.2.2 W67.2.2.1 v68 v69 v70) rfl (Or.inl rfl) rfl rfl rfl rfl (fun _ => rfl) (fun z71 => (615, ([lX scr.1, lR 0, lR 56, lR 74, lR 75, lI x1, lI v66, g3.2.1, g3.2.2], ([sI z71.1], (mSH W67.1 W67.2.1, (z71.2, W67.2.2.2)))))) (fun _ => rfl) fun z71 => ?_
        refine sm_go 2 (s' := (618, ([lX scr.1, lR 0, lR 56, lR 74, lR 75, lI x1, lI v66, lI z71.1, g3.2.2], ([sR 56], (mSH W67.1 W67.2.1, (z71.2, W67.2.2.2)))))) ?_ rfl
        refine sm_callG (rest := []) (T_X11_thrown scr (d + 17) W67.1 W67.2.1 W67.2.2.2 z71.2) rfl (Or.inl rfl) rfl rfl rfl rfl (fun _ => rfl) (fun v72 => (621, ([lX scr.1, lR 0, lR 56, lR 74, lR 75, lI x1, lI v66, lI z71.1, g3.2.2], ([sI v72], (mSH W67.1 W67.2.1, (z71.2, W67.2.2.2)))))) (fun _ => rfl) fun v72 => ?_
        refine sm_go 1 (s' := (623, ([lX scr.1, lR 0, lR 56, lR 74, lR 75, lI x1, lI v66, lI z71.1, g3.2.2], ([sI v66, sI v72], (mSH W67.1 W67.2.1, (z71.2, W67.2.2.2)))))) ?_ rfl
        refine sm_if2 (t := (ieq v72 v66)) (pt := 628) rfl rfl rfl (fun _ => ?_) (fun _ => ?_)
        · refine sm_letK0 (S := fun (g73 : Unit) => (645, ([lX scr.1, lR 0, lR 56, lR 74, lR 75, lI x1, lI v66, lI z71.1, g3.2.2], ([], (mSH W67.1 W67.2.1, (z71.2, W67.2.2.2)))))) ?_ ?_
          · intro g73
            exact sm_go 1 (hk8 (lI v66, lI z71.1, g3.2.2) (W67.1, (W67.2.1, (z71.2, W67.2.2.2)))) rfl
          · intro k74 hk74
            refine sm_go 1 (s' := (630, ([lX scr.1, lR 0, lR 56, lR 74, lR 75, lI x1, lI v66, lI z71.1, g3.2.2], ([sI v66], (mSH W67.1 W67.2.1, (z71.2, W67.2.2.2)))))) ?_ rfl
            refine sm_if1n (t := (ieq v66 0)) (pt := 645) rfl rfl rfl (fun _ => ?_) (fun _ => ?_)
            · refine sm_go 2 (s' := (635, ([lX scr.1, lR 0, lR 56, lR 74, lR 75, lI x1, lI v66, lI z71.1, g3.2.2], ([sI 0, sR 74], (mSH W67.1 W67.2.1, (z71.2, W67.2.2.2)))))) ?_ rfl
              refine sm_lld rfl rfl fun v75 => ?_
              refine sm_go 3 (s' := (640, ([lX scr.1, lR 0, lR 56, lR 74, lR 75, lI x1, lI v66, lI z71.1, g3.2.2], ([sI (lcmpI v75 (w32 z71.1))], (mSH W67.1 W67.2.1, (z71.2, W67.2.2.2)))))) ?_ rfl
              refine sm_if1 (t := (ieq (lcmpI v75 (w32 z71.1)) 0)) (pt := 645) rfl rfl rfl (fun _ => ?_) (fun _ => ?_)
              · exact hk74 ()
              · refine sm_go 1 (s' := (644, ([lX scr.1, lR 0, lR 56, lR 74, lR 75, lI x1, lI v66, lI z71.1, g3.2.2], ([sI 0], (mSH W67.1 W67.2.1, (z71.2, W67.2.2.2)))))) ?_ rfl
                exact sm_retB1 (b := false) rfl rfl
            · exact hk74 ()
        · refine sm_go 1 (s' := (627, ([lX scr.1, lR 0, lR 56, lR 74, lR 75, lI x1, lI v66, lI z71.1, g3.2.2], ([sI 0], (mSH W67.1 W67.2.1, (z71.2, W67.2.2.2)))))) ?_ rfl
          exact sm_retB1 (b := false) rfl rfl
      refine sm_sw (fun hw5 => ?_) (fun hw5 => ?_)
      · refine sm_swC (pt := 648) hw5 rfl rfl ?_
        refine sm_go 5 (s' := (654, ([lX scr.1, lR 0, lR 56, lR 74, lR 75, lI x1, g3.1, g3.2.1, g3.2.2], ([sI (x1 + 1), sX scr.1, sR 0], (mSH W2.1 W2.2.1, (W2.2.2.1, W2.2.2.2)))))) ?_ rfl
        refine sm_xld rfl fun v76 => ?_
        refine sm_go 1 (s' := (656, ([lX scr.1, lR 0, lR 56, lR 74, lR 75, lI x1, g3.1, g3.2.1, g3.2.2], ([sR 74, sI v76, sR 0], (mSH W2.1 W2.2.1, (W2.2.2.1, W2.2.2.2)))))) ?_ rfl
        refine sm_notB (rest := []) (T_L_cut scr (d + 9) W2 v76) rfl (Or.inr (Or.inl rfl)) rfl rfl rfl rfl (fun _ _ => rfl) (fun v77 W78 => (659, ([lX scr.1, lR 0, lR 56, lR 74, lR 75, lI x1, g3.1, g3.2.1, g3.2.2], ([sI v77], (mSH W78.1 W78.2.1, (W78.2.2.1, W78.2.2.2)))))) (fun _ _ => rfl) fun v77 W78 => ?_
        refine sm_go 6 (s' := (667, ([lX scr.1, lR 0, lR 56, lR 74, lR 75, lI x1, lI v77, g3.2.1, g3.2.2], ([sI (x1 + 1), sX scr.1, sR 56], (mSH W78.1 W78.2.1, (W78.2.2.1, W78.2.2.2)))))) ?_ rfl
        refine sm_xld rfl fun v79 => ?_
        refine sm_callG (rest := []) (T_X11_cut scr (d + 15) W78.1 W78.2.1 W78.2.2.2 W78.2.2.1 v79) rfl (Or.inl rfl) rfl rfl rfl rfl (fun _ => rfl) (fun z80 => (671, ([lX scr.1, lR 0, lR 56, lR 74, lR 75, lI x1, lI v77, g3.2.1, g3.2.2], ([sI z80.1], (mSH W78.1 W78.2.1, (z80.2, W78.2.2.2)))))) (fun _ => rfl) fun z80 => ?_
        refine sm_go 2 (s' := (674, ([lX scr.1, lR 0, lR 56, lR 74, lR 75, lI x1, lI v77, lI z80.1, g3.2.2], ([sR 56], (mSH W78.1 W78.2.1, (z80.2, W78.2.2.2)))))) ?_ rfl
        refine sm_callG (rest := []) (T_X11_thrown scr (d + 17) W78.1 W78.2.1 W78.2.2.2 z80.2) rfl (Or.inl rfl) rfl rfl rfl rfl (fun _ => rfl) (fun v81 => (677, ([lX scr.1, lR 0, lR 56, lR 74, lR 75, lI x1, lI v77, lI z80.1, g3.2.2], ([sI v81], (mSH W78.1 W78.2.1, (z80.2, W78.2.2.2)))))) (fun _ => rfl) fun v81 => ?_
        refine sm_go 1 (s' := (679, ([lX scr.1, lR 0, lR 56, lR 74, lR 75, lI x1, lI v77, lI z80.1, g3.2.2], ([sI v77, sI v81], (mSH W78.1 W78.2.1, (z80.2, W78.2.2.2)))))) ?_ rfl
        refine sm_if2 (t := (ieq v81 v77)) (pt := 684) rfl rfl rfl (fun _ => ?_) (fun _ => ?_)
        · refine sm_letK0 (S := fun (g82 : Unit) => (701, ([lX scr.1, lR 0, lR 56, lR 74, lR 75, lI x1, lI v77, lI z80.1, g3.2.2], ([], (mSH W78.1 W78.2.1, (z80.2, W78.2.2.2)))))) ?_ ?_
          · intro g82
            exact sm_go 1 (hk8 (lI v77, lI z80.1, g3.2.2) (W78.1, (W78.2.1, (z80.2, W78.2.2.2)))) rfl
          · intro k83 hk83
            refine sm_go 1 (s' := (686, ([lX scr.1, lR 0, lR 56, lR 74, lR 75, lI x1, lI v77, lI z80.1, g3.2.2], ([sI v77], (mSH W78.1 W78.2.1, (z80.2, W78.2.2.2)))))) ?_ rfl
            refine sm_if1n (t := (ieq v77 0)) (pt := 701) rfl rfl rfl (fun _ => ?_) (fun _ => ?_)
            · refine sm_go 2 (s' := (691, ([lX scr.1, lR 0, lR 56, lR 74, lR 75, lI x1, lI v77, lI z80.1, g3.2.2], ([sI 0, sR 74], (mSH W78.1 W78.2.1, (z80.2, W78.2.2.2)))))) ?_ rfl
              refine sm_lld rfl rfl fun v84 => ?_
              refine sm_go 3 (s' := (696, ([lX scr.1, lR 0, lR 56, lR 74, lR 75, lI x1, lI v77, lI z80.1, g3.2.2], ([sI (lcmpI v84 (w32 z80.1))], (mSH W78.1 W78.2.1, (z80.2, W78.2.2.2)))))) ?_ rfl
              refine sm_if1 (t := (ieq (lcmpI v84 (w32 z80.1)) 0)) (pt := 701) rfl rfl rfl (fun _ => ?_) (fun _ => ?_)
              · exact hk83 ()
              · refine sm_go 1 (s' := (700, ([lX scr.1, lR 0, lR 56, lR 74, lR 75, lI x1, lI v77, lI z80.1, g3.2.2], ([sI 0], (mSH W78.1 W78.2.1, (z80.2, W78.2.2.2)))))) ?_ rfl
                exact sm_retB1 (b := false) rfl rfl
            · exact hk83 ()
        · refine sm_go 1 (s' := (683, ([lX scr.1, lR 0, lR 56, lR 74, lR 75, lI x1, lI v77, lI z80.1, g3.2.2], ([sI 0], (mSH W78.1 W78.2.1, (z80.2, W78.2.2.2)))))) ?_ rfl
          exact sm_retB1 (b := false) rfl rfl
      refine sm_sw (fun hw6 => ?_) (fun hw6 => ?_)
      · refine sm_swC (pt := 704) hw6 rfl rfl ?_
        refine sm_go 5 (s' := (710, ([lX scr.1, lR 0, lR 56, lR 74, lR 75, lI x1, g3.1, g3.2.1, g3.2.2], ([sI (x1 + 1), sX scr.1, sR 0], (mSH W2.1 W2.2.1, (W2.2.2.1, W2.2.2.2)))))) ?_ rfl
        refine sm_xld rfl fun v85 => ?_
        refine sm_go 1 (s' := (712, ([lX scr.1, lR 0, lR 56, lR 74, lR 75, lI x1, g3.1, g3.2.1, g3.2.2], ([sR 74, sI v85, sR 0], (mSH W2.1 W2.2.1, (W2.2.2.1, W2.2.2.2)))))) ?_ rfl
        refine sm_notB (rest := []) (T_L_plan scr (d + 9) W2 v85) rfl (Or.inr (Or.inl rfl)) rfl rfl rfl rfl (fun _ _ => rfl) (fun v86 W87 => (715, ([lX scr.1, lR 0, lR 56, lR 74, lR 75, lI x1, g3.1, g3.2.1, g3.2.2], ([sI v86], (mSH W87.1 W87.2.1, (W87.2.2.1, W87.2.2.2)))))) (fun _ _ => rfl) fun v86 W87 => ?_
        refine sm_go 6 (s' := (723, ([lX scr.1, lR 0, lR 56, lR 74, lR 75, lI x1, lI v86, g3.2.1, g3.2.2], ([sI (x1 + 1), sX scr.1, sR 56], (mSH W87.1 W87.2.1, (W87.2.2.1, W87.2.2.2)))))) ?_ rfl
        refine sm_xld rfl fun v88 => ?_
        refine sm_callG (rest := []) (T_X11_plan scr (d + 11) W87.1 W87.2.1 W87.2.2.2 W87.2.2.1 v88) rfl (Or.inl rfl) rfl rfl rfl rfl (fun _ => rfl) (fun z89 => (727, ([lX scr.1, lR 0, lR 56, lR 74, lR 75, lI x1, lI v86, g3.2.1, g3.2.2], ([sI z89.1], (mSH W87.1 W87.2.1, (z89.2, W87.2.2.2)))))) (fun _ => rfl) fun z89 => ?_
        refine sm_go 2 (s' := (730, ([lX scr.1, lR 0, lR 56, lR 74, lR 75, lI x1, lI v86, lI z89.1, g3.2.2], ([sR 56], (mSH W87.1 W87.2.1, (z89.2, W87.2.2.2)))))) ?_ rfl
        refine sm_callG (rest := []) (T_X11_thrown scr (d + 17) W87.1 W87.2.1 W87.2.2.2 z89.2) rfl (Or.inl rfl) rfl rfl rfl rfl (fun _ => rfl) (fun v90 => (733, ([lX scr.1, lR 0, lR 56, lR 74, lR 75, lI x1, lI v86, lI z89.1, g3.2.2], ([sI v90], (mSH W87.1 W87.2.1, (z89.2, W87.2.2.2)))))) (fun _ => rfl) fun v90 => ?_
        refine sm_go 1 (s' := (735, ([lX scr.1, lR 0, lR 56, lR 74, lR 75, lI x1, lI v86, lI z89.1, g3.2.2], ([sI v86, sI v90], (mSH W87.1 W87.2.1, (z89.2, W87.2.2.2)))))) ?_ rfl
        refine sm_if2 (t := (ieq v90 v86)) (pt := 740) rfl rfl rfl (fun _ => ?_) (fun _ => ?_)
        · refine sm_letK0 (S := fun (g91 : Unit) => (757, ([lX scr.1, lR 0, lR 56, lR 74, lR 75, lI x1, lI v86, lI z89.1, g3.2.2], ([], (mSH W87.1 W87.2.1, (z89.2, W87.2.2.2)))))) ?_ ?_
          · intro g91
            exact sm_go 1 (hk8 (lI v86, lI z89.1, g3.2.2) (W87.1, (W87.2.1, (z89.2, W87.2.2.2)))) rfl
          · intro k92 hk92
            refine sm_go 1 (s' := (742, ([lX scr.1, lR 0, lR 56, lR 74, lR 75, lI x1, lI v86, lI z89.1, g3.2.2], ([sI v86], (mSH W87.1 W87.2.1, (z89.2, W87.2.2.2)))))) ?_ rfl
            refine sm_if1n (t := (ieq v86 0)) (pt := 757) rfl rfl rfl (fun _ => ?_) (fun _ => ?_)
            · refine sm_go 2 (s' := (747, ([lX scr.1, lR 0, lR 56, lR 74, lR 75, lI x1, lI v86, lI z89.1, g3.2.2], ([sI 0, sR 74], (mSH W87.1 W87.2.1, (z89.2, W87.2.2.2)))))) ?_ rfl
              refine sm_lld rfl rfl fun v93 => ?_
              refine sm_go 3 (s' := (752, ([lX scr.1, lR 0, lR 56, lR 74, lR 75, lI x1, lI v86, lI z89.1, g3.2.2], ([sI (lcmpI v93 (w32 z89.1))], (mSH W87.1 W87.2.1, (z89.2, W87.2.2.2)))))) ?_ rfl
              refine sm_if1 (t := (ieq (lcmpI v93 (w32 z89.1)) 0)) (pt := 757) rfl rfl rfl (fun _ => ?_) (fun _ => ?_)
              · exact hk92 ()
              · refine sm_go 1 (s' := (756, ([lX scr.1, lR 0, lR 56, lR 74, lR 75, lI x1, lI v86, lI z89.1, g3.2.2], ([sI 0], (mSH W87.1 W87.2.1, (z89.2, W87.2.2.2)))))) ?_ rfl
                exact sm_retB1 (b := false) rfl rfl
            · exact hk92 ()
        · refine sm_go 1 (s' := (739, ([lX scr.1, lR 0, lR 56, lR 74, lR 75, lI x1, lI v86, lI z89.1, g3.2.2], ([sI 0], (mSH W87.1 W87.2.1, (z89.2, W87.2.2.2)))))) ?_ rfl
          exact sm_retB1 (b := false) rfl rfl
      refine sm_sw (fun hw7 => ?_) (fun hw7 => ?_)
      · refine sm_swC (pt := 760) hw7 rfl rfl ?_
        refine sm_go 5 (s' := (766, ([lX scr.1, lR 0, lR 56, lR 74, lR 75, lI x1, g3.1, g3.2.1, g3.2.2], ([sI (x1 + 1), sX scr.1, sR 0], (mSH W2.1 W2.2.1, (W2.2.2.1, W2.2.2.2)))))) ?_ rfl
        refine sm_xld rfl fun v94 => ?_
        refine sm_go 7 (s' := (776, ([lX scr.1, lR 0, lR 56, lR 74, lR 75, lI x1, g3.1, g3.2.1, g3.2.2], ([sI (x1 + 2), sX scr.1, sL (lShl (w32 v94) 32), sR 0], (mSH W2.1 W2.2.1, (W2.2.2.1, W2.2.2.2)))))) ?_ rfl
        refine sm_xld rfl fun v95 => ?_
        refine sm_go 5 (s' := (784, ([lX scr.1, lR 0, lR 56, lR 74, lR 75, lI x1, g3.1, g3.2.1, g3.2.2], ([sR 74, sL (lOr (lShl (w32 v94) 32) (lAnd (w32 v95) 4294967295)), sR 0], (mSH W2.1 W2.2.1, (W2.2.2.1, W2.2.2.2)))))) ?_ rfl
        refine sm_notB (rest := []) (T_L_tell scr (d + 9) W2 (lOr (lShl (w32 v94) 32) (lAnd (w32 v95) 4294967295))) rfl (Or.inr (Or.inl rfl)) rfl rfl rfl rfl (fun _ _ => rfl) (fun v96 W97 => (787, ([lX scr.1, lR 0, lR 56, lR 74, lR 75, lI x1, g3.1, g3.2.1, g3.2.2], ([sI v96], (mSH W97.1 W97.2.1, (W97.2.2.1, W97.2.2.2)))))) (fun _ _ => rfl) fun v96 W97 => ?_
        refine sm_go 6 (s' := (795, ([lX scr.1, lR 0, lR 56, lR 74, lR 75, lI x1, lI v96, g3.2.1, g3.2.2], ([sI (x1 + 1), sX scr.1, sR 56], (mSH W97.1 W97.2.1, (W97.2.2.1, W97.2.2.2)))))) ?_ rfl
        refine sm_xld rfl fun v98 => ?_
        refine sm_go 7 (s' := (805, ([lX scr.1, lR 0, lR 56, lR 74, lR 75, lI x1, lI v96, g3.2.1, g3.2.2], ([sI (x1 + 2), sX scr.1, sL (lShl (w32 v98) 32), sR 56], (mSH W97.1 W97.2.1, (W97.2.2.1, W97.2.2.2)))))) ?_ rfl
        refine sm_xld rfl fun v99 => ?_
        refine sm_go 4 (s' := (812, ([lX scr.1, lR 0, lR 56, lR 74, lR 75, lI x1, lI v96, g3.2.1, g3.2.2], ([sL (lOr (lShl (w32 v98) 32) (lAnd (w32 v99) 4294967295)), sR 56], (mSH W97.1 W97.2.1, (W97.2.2.1, W97.2.2.2)))))) ?_ rfl
        refine sm_callG (rest := []) (T_X11_tell scr (d + 11) W97.1 W97.2.1 W97.2.2.2 W97.2.2.1 (lOr (lShl (w32 v98) 32) (lAnd (w32 v99) 4294967295))) rfl (Or.inl rfl) rfl rfl rfl rfl (fun _ => rfl) (fun z100 => (815, ([lX scr.1, lR 0, lR 56, lR 74, lR 75, lI x1, lI v96, g3.2.1, g3.2.2], ([sI z100.1], (mSH W97.1 W97.2.1, (z100.2, W97.2.2.2)))))) (fun _ => rfl) fun z100 => ?_
        refine sm_go 2 (s' := (818, ([lX scr.1, lR 0, lR 56, lR 74, lR 75, lI x1, lI v96, lI z100.1, g3.2.2], ([sR 56], (mSH W97.1 W97.2.1, (z100.2, W97.2.2.2)))))) ?_ rfl
        refine sm_callG (rest := []) (T_X11_thrown scr (d + 17) W97.1 W97.2.1 W97.2.2.2 z100.2) rfl (Or.inl rfl) rfl rfl rfl rfl (fun _ => rfl) (fun v101 => (821, ([lX scr.1, lR 0, lR 56, lR 74, lR 75, lI x1, lI v96, lI z100.1, g3.2.2], ([sI v101], (mSH W97.1 W97.2.1, (z100.2, W97.2.2.2)))))) (fun _ => rfl) fun v101 => ?_
        refine sm_go 1 (s' := (823, ([lX scr.1, lR 0, lR 56, lR 74, lR 75, lI x1, lI v96, lI z100.1, g3.2.2], ([sI v96, sI v101], (mSH W97.1 W97.2.1, (z100.2, W97.2.2.2)))))) ?_ rfl
        refine sm_if2 (t := (ieq v101 v96)) (pt := 828) rfl rfl rfl (fun _ => ?_) (fun _ => ?_)
        · refine sm_letK0 (S := fun (g102 : Unit) => (845, ([lX scr.1, lR 0, lR 56, lR 74, lR 75, lI x1, lI v96, lI z100.1, g3.2.2], ([], (mSH W97.1 W97.2.1, (z100.2, W97.2.2.2)))))) ?_ ?_
          · intro g102
            exact sm_go 1 (hk8 (lI v96, lI z100.1, g3.2.2) (W97.1, (W97.2.1, (z100.2, W97.2.2.2)))) rfl
          · intro k103 hk103
            refine sm_go 1 (s' := (830, ([lX scr.1, lR 0, lR 56, lR 74, lR 75, lI x1, lI v96, lI z100.1, g3.2.2], ([sI v96], (mSH W97.1 W97.2.1, (z100.2, W97.2.2.2)))))) ?_ rfl
            refine sm_if1n (t := (ieq v96 0)) (pt := 845) rfl rfl rfl (fun _ => ?_) (fun _ => ?_)
            · refine sm_go 2 (s' := (835, ([lX scr.1, lR 0, lR 56, lR 74, lR 75, lI x1, lI v96, lI z100.1, g3.2.2], ([sI 0, sR 74], (mSH W97.1 W97.2.1, (z100.2, W97.2.2.2)))))) ?_ rfl
              refine sm_lld rfl rfl fun v104 => ?_
              refine sm_go 3 (s' := (840, ([lX scr.1, lR 0, lR 56, lR 74, lR 75, lI x1, lI v96, lI z100.1, g3.2.2], ([sI (lcmpI v104 (w32 z100.1))], (mSH W97.1 W97.2.1, (z100.2, W97.2.2.2)))))) ?_ rfl
              refine sm_if1 (t := (ieq (lcmpI v104 (w32 z100.1)) 0)) (pt := 845) rfl rfl rfl (fun _ => ?_) (fun _ => ?_)
              · exact hk103 ()
              · refine sm_go 1 (s' := (844, ([lX scr.1, lR 0, lR 56, lR 74, lR 75, lI x1, lI v96, lI z100.1, g3.2.2], ([sI 0], (mSH W97.1 W97.2.1, (z100.2, W97.2.2.2)))))) ?_ rfl
                exact sm_retB1 (b := false) rfl rfl
            · exact hk103 ()
        · refine sm_go 1 (s' := (827, ([lX scr.1, lR 0, lR 56, lR 74, lR 75, lI x1, lI v96, lI z100.1, g3.2.2], ([sI 0], (mSH W97.1 W97.2.1, (z100.2, W97.2.2.2)))))) ?_ rfl
          exact sm_retB1 (b := false) rfl rfl
      refine sm_sw (fun hw8 => ?_) (fun hw8 => ?_)
      · refine sm_swC (pt := 848) hw8 rfl rfl ?_
        refine sm_go 5 (s' := (854, ([lX scr.1, lR 0, lR 56, lR 74, lR 75, lI x1, g3.1, g3.2.1, g3.2.2], ([sI (x1 + 1), sX scr.1, sR 0], (mSH W2.1 W2.2.1, (W2.2.2.1, W2.2.2.2)))))) ?_ rfl
        refine sm_xld rfl fun v105 => ?_
        refine sm_go 1 (s' := (856, ([lX scr.1, lR 0, lR 56, lR 74, lR 75, lI x1, g3.1, g3.2.1, g3.2.2], ([sR 74, sI v105, sR 0], (mSH W2.1 W2.2.1, (W2.2.2.1, W2.2.2.2)))))) ?_ rfl
        refine sm_notB (rest := []) (T_L_best scr d W2 v105) rfl (Or.inr (Or.inl rfl)) rfl rfl rfl rfl (fun _ _ => rfl) (fun v106 W107 => (859, ([lX scr.1, lR 0, lR 56, lR 74, lR 75, lI x1, g3.1, g3.2.1, g3.2.2], ([sI v106], (mSH W107.1 W107.2.1, (W107.2.2.1, W107.2.2.2)))))) (fun _ _ => rfl) fun v106 W107 => ?_
        refine sm_go 6 (s' := (867, ([lX scr.1, lR 0, lR 56, lR 74, lR 75, lI x1, lI v106, g3.2.1, g3.2.2], ([sI (x1 + 1), sX scr.1, sR 56], (mSH W107.1 W107.2.1, (W107.2.2.1, W107.2.2.2)))))) ?_ rfl
        refine sm_xld rfl fun v108 => ?_
        refine sm_callG (rest := []) (T_X11_best scr (d + 11) W107.1 W107.2.1 W107.2.2.2 W107.2.2.1 v108) rfl (Or.inl rfl) rfl rfl rfl rfl (fun _ => rfl) (fun z109 => (871, ([lX scr.1, lR 0, lR 56, lR 74, lR 75, lI x1, lI v106, g3.2.1, g3.2.2], ([sI z109.1], (mSH W107.1 W107.2.1, (z109.2, W107.2.2.2)))))) (fun _ => rfl) fun z109 => ?_
        refine sm_go 2 (s' := (874, ([lX scr.1, lR 0, lR 56, lR 74, lR 75, lI x1, lI v106, lI z109.1, g3.2.2], ([sR 56], (mSH W107.1 W107.2.1, (z109.2, W107.2.2.2)))))) ?_ rfl
        refine sm_callG (rest := []) (T_X11_thrown scr (d + 17) W107.1 W107.2.1 W107.2.2.2 z109.2) rfl (Or.inl rfl) rfl rfl rfl rfl (fun _ => rfl) (fun v110 => (877, ([lX scr.1, lR 0, lR 56, lR 74, lR 75, lI x1, lI v106, lI z109.1, g3.2.2], ([sI v110], (mSH W107.1 W107.2.1, (z109.2, W107.2.2.2)))))) (fun _ => rfl) fun v110 => ?_
        refine sm_go 1 (s' := (879, ([lX scr.1, lR 0, lR 56, lR 74, lR 75, lI x1, lI v106, lI z109.1, g3.2.2], ([sI v106, sI v110], (mSH W107.1 W107.2.1, (z109.2, W107.2.2.2)))))) ?_ rfl
        refine sm_if2 (t := (ieq v110 v106)) (pt := 884) rfl rfl rfl (fun _ => ?_) (fun _ => ?_)
        · refine sm_letK0 (S := fun (g111 : Unit) => (901, ([lX scr.1, lR 0, lR 56, lR 74, lR 75, lI x1, lI v106, lI z109.1, g3.2.2], ([], (mSH W107.1 W107.2.1, (z109.2, W107.2.2.2)))))) ?_ ?_
          · intro g111
            exact sm_go 1 (hk8 (lI v106, lI z109.1, g3.2.2) (W107.1, (W107.2.1, (z109.2, W107.2.2.2)))) rfl
          · intro k112 hk112
            refine sm_go 1 (s' := (886, ([lX scr.1, lR 0, lR 56, lR 74, lR 75, lI x1, lI v106, lI z109.1, g3.2.2], ([sI v106], (mSH W107.1 W107.2.1, (z109.2, W107.2.2.2)))))) ?_ rfl
            refine sm_if1n (t := (ieq v106 0)) (pt := 901) rfl rfl rfl (fun _ => ?_) (fun _ => ?_)
            · refine sm_go 2 (s' := (891, ([lX scr.1, lR 0, lR 56, lR 74, lR 75, lI x1, lI v106, lI z109.1, g3.2.2], ([sI 0, sR 74], (mSH W107.1 W107.2.1, (z109.2, W107.2.2.2)))))) ?_ rfl
              refine sm_lld rfl rfl fun v113 => ?_
              refine sm_go 3 (s' := (896, ([lX scr.1, lR 0, lR 56, lR 74, lR 75, lI x1, lI v106, lI z109.1, g3.2.2], ([sI (lcmpI v113 (w32 z109.1))], (mSH W107.1 W107.2.1, (z109.2, W107.2.2.2)))))) ?_ rfl
              refine sm_if1 (t := (ieq (lcmpI v113 (w32 z109.1)) 0)) (pt := 901) rfl rfl rfl (fun _ => ?_) (fun _ => ?_)
              · exact hk112 ()
              · refine sm_go 1 (s' := (900, ([lX scr.1, lR 0, lR 56, lR 74, lR 75, lI x1, lI v106, lI z109.1, g3.2.2], ([sI 0], (mSH W107.1 W107.2.1, (z109.2, W107.2.2.2)))))) ?_ rfl
                exact sm_retB1 (b := false) rfl rfl
            · exact hk112 ()
        · refine sm_go 1 (s' := (883, ([lX scr.1, lR 0, lR 56, lR 74, lR 75, lI x1, lI v106, lI z109.1, g3.2.2], ([sI 0], (mSH W107.1 W107.2.1, (z109.2, W107.2.2.2)))))) ?_ rfl
          exact sm_retB1 (b := false) rfl rfl
      refine sm_sw (fun hw9 => ?_) (fun hw9 => ?_)
      · refine sm_swC (pt := 904) hw9 rfl rfl ?_
        refine sm_go 5 (s' := (910, ([lX scr.1, lR 0, lR 56, lR 74, lR 75, lI x1, g3.1, g3.2.1, g3.2.2], ([sI (x1 + 1), sX scr.1, sR 0], (mSH W2.1 W2.2.1, (W2.2.2.1, W2.2.2.2)))))) ?_ rfl
        refine sm_xld rfl fun v114 => ?_
        refine sm_go 4 (s' := (916, ([lX scr.1, lR 0, lR 56, lR 74, lR 75, lI x1, g3.1, g3.2.1, g3.2.2], ([sI (x1 + 2), sX scr.1, sI v114, sR 0], (mSH W2.1 W2.2.1, (W2.2.2.1, W2.2.2.2)))))) ?_ rfl
        refine sm_xld rfl fun v115 => ?_
        refine sm_go 1 (s' := (918, ([lX scr.1, lR 0, lR 56, lR 74, lR 75, lI x1, g3.1, g3.2.1, g3.2.2], ([sR 74, sI v115, sI v114, sR 0], (mSH W2.1 W2.2.1, (W2.2.2.1, W2.2.2.2)))))) ?_ rfl
        refine sm_notB (rest := []) (T_L_swap scr (d + 9) W2 v114 v115) rfl (Or.inr (Or.inl rfl)) rfl rfl rfl rfl (fun _ _ => rfl) (fun v116 W117 => (921, ([lX scr.1, lR 0, lR 56, lR 74, lR 75, lI x1, g3.1, g3.2.1, g3.2.2], ([sI v116], (mSH W117.1 W117.2.1, (W117.2.2.1, W117.2.2.2)))))) (fun _ _ => rfl) fun v116 W117 => ?_
        refine sm_go 6 (s' := (929, ([lX scr.1, lR 0, lR 56, lR 74, lR 75, lI x1, lI v116, g3.2.1, g3.2.2], ([sI (x1 + 1), sX scr.1, sR 56], (mSH W117.1 W117.2.1, (W117.2.2.1, W117.2.2.2)))))) ?_ rfl
        refine sm_xld rfl fun v118 => ?_
        refine sm_go 4 (s' := (935, ([lX scr.1, lR 0, lR 56, lR 74, lR 75, lI x1, lI v116, g3.2.1, g3.2.2], ([sI (x1 + 2), sX scr.1, sI v118, sR 56], (mSH W117.1 W117.2.1, (W117.2.2.1, W117.2.2.2)))))) ?_ rfl
        refine sm_xld rfl fun v119 => ?_
        refine sm_callG (rest := []) (T_X11_swap scr (d + 12) W117.1 W117.2.1 W117.2.2.2 W117.2.2.1 v118 v119) rfl (Or.inl rfl) rfl rfl rfl rfl (fun _ => rfl) (fun z120 => (939, ([lX scr.1, lR 0, lR 56, lR 74, lR 75, lI x1, lI v116, g3.2.1, g3.2.2], ([sI z120.1], (mSH W117.1 W117.2.1, (z120.2, W117.2.2.2)))))) (fun _ => rfl) fun z120 => ?_
        refine sm_go 2 (s' := (942, ([lX scr.1, lR 0, lR 56, lR 74, lR 75, lI x1, lI v116, lI z120.1, g3.2.2], ([sR 56], (mSH W117.1 W117.2.1, (z120.2, W117.2.2.2)))))) ?_ rfl
        refine sm_callG (rest := []) (T_X11_thrown scr (d + 17) W117.1 W117.2.1 W117.2.2.2 z120.2) rfl (Or.inl rfl) rfl rfl rfl rfl (fun _ => rfl) (fun v121 => (945, ([lX scr.1, lR 0, lR 56, lR 74, lR 75, lI x1, lI v116, lI z120.1, g3.2.2], ([sI v121], (mSH W117.1 W117.2.1, (z120.2, W117.2.2.2)))))) (fun _ => rfl) fun v121 => ?_
        refine sm_go 1 (s' := (947, ([lX scr.1, lR 0, lR 56, lR 74, lR 75, lI x1, lI v116, lI z120.1, g3.2.2], ([sI v116, sI v121], (mSH W117.1 W117.2.1, (z120.2, W117.2.2.2)))))) ?_ rfl
        refine sm_if2 (t := (ieq v121 v116)) (pt := 952) rfl rfl rfl (fun _ => ?_) (fun _ => ?_)
        · refine sm_letK0 (S := fun (g122 : Unit) => (969, ([lX scr.1, lR 0, lR 56, lR 74, lR 75, lI x1, lI v116, lI z120.1, g3.2.2], ([], (mSH W117.1 W117.2.1, (z120.2, W117.2.2.2)))))) ?_ ?_
          · intro g122
            exact sm_go 1 (hk8 (lI v116, lI z120.1, g3.2.2) (W117.1, (W117.2.1, (z120.2, W117.2.2.2)))) rfl
          · intro k123 hk123
            refine sm_go 1 (s' := (954, ([lX scr.1, lR 0, lR 56, lR 74, lR 75, lI x1, lI v116, lI z120.1, g3.2.2], ([sI v116], (mSH W117.1 W117.2.1, (z120.2, W117.2.2.2)))))) ?_ rfl
            refine sm_if1n (t := (ieq v116 0)) (pt := 969) rfl rfl rfl (fun _ => ?_) (fun _ => ?_)
            · refine sm_go 2 (s' := (959, ([lX scr.1, lR 0, lR 56, lR 74, lR 75, lI x1, lI v116, lI z120.1, g3.2.2], ([sI 0, sR 74], (mSH W117.1 W117.2.1, (z120.2, W117.2.2.2)))))) ?_ rfl
              refine sm_lld rfl rfl fun v124 => ?_
              refine sm_go 3 (s' := (964, ([lX scr.1, lR 0, lR 56, lR 74, lR 75, lI x1, lI v116, lI z120.1, g3.2.2], ([sI (lcmpI v124 (w32 z120.1))], (mSH W117.1 W117.2.1, (z120.2, W117.2.2.2)))))) ?_ rfl
              refine sm_if1 (t := (ieq (lcmpI v124 (w32 z120.1)) 0)) (pt := 969) rfl rfl rfl (fun _ => ?_) (fun _ => ?_)
              · exact hk123 ()
              · refine sm_go 1 (s' := (968, ([lX scr.1, lR 0, lR 56, lR 74, lR 75, lI x1, lI v116, lI z120.1, g3.2.2], ([sI 0], (mSH W117.1 W117.2.1, (z120.2, W117.2.2.2)))))) ?_ rfl
                exact sm_retB1 (b := false) rfl rfl
            · exact hk123 ()
        · refine sm_go 1 (s' := (951, ([lX scr.1, lR 0, lR 56, lR 74, lR 75, lI x1, lI v116, lI z120.1, g3.2.2], ([sI 0], (mSH W117.1 W117.2.1, (z120.2, W117.2.2.2)))))) ?_ rfl
          exact sm_retB1 (b := false) rfl rfl
      refine sm_sw (fun hw10 => ?_) (fun hw10 => ?_)
      · refine sm_swC (pt := 972) hw10 rfl rfl ?_
        refine sm_go 5 (s' := (978, ([lX scr.1, lR 0, lR 56, lR 74, lR 75, lI x1, g3.1, g3.2.1, g3.2.2], ([sI (x1 + 1), sX scr.1, sR 0], (mSH W2.1 W2.2.1, (W2.2.2.1, W2.2.2.2)))))) ?_ rfl
        refine sm_xld rfl fun v125 => ?_
        refine sm_go 4 (s' := (984, ([lX scr.1, lR 0, lR 56, lR 74, lR 75, lI x1, g3.1, g3.2.1, g3.2.2], ([sI (x1 + 2), sX scr.1, sI v125, sR 0], (mSH W2.1 W2.2.1, (W2.2.2.1, W2.2.2.2)))))) ?_ rfl
        refine sm_xld rfl fun v126 => ?_
        refine sm_go 1 (s' := (986, ([lX scr.1, lR 0, lR 56, lR 74, lR 75, lI x1, g3.1, g3.2.1, g3.2.2], ([sR 74, sI v126, sI v125, sR 0], (mSH W2.1 W2.2.1, (W2.2.2.1, W2.2.2.2)))))) ?_ rfl
        refine sm_notB (rest := []) (T_L_replan scr (d + 9) W2 v125 v126) rfl (Or.inr (Or.inl rfl)) rfl rfl rfl rfl (fun _ _ => rfl) (fun v127 W128 => (989, ([lX scr.1, lR 0, lR 56, lR 74, lR 75, lI x1, g3.1, g3.2.1, g3.2.2], ([sI v127], (mSH W128.1 W128.2.1, (W128.2.2.1, W128.2.2.2)))))) (fun _ _ => rfl) fun v127 W128 => ?_
        refine sm_go 6 (s' := (997, ([lX scr.1, lR 0, lR 56, lR 74, lR 75, lI x1, lI v127, g3.2.1, g3.2.2], ([sI (x1 + 1), sX scr.1, sR 56], (mSH W128.1 W128.2.1, (W128.2.2.1, W128.2.2.2)))))) ?_ rfl
        refine sm_xld rfl fun v129 => ?_
        refine sm_go 4 (s' := (1003, ([lX scr.1, lR 0, lR 56, lR 74, lR 75, lI x1, lI v127, g3.2.1, g3.2.2], ([sI (x1 + 2), sX scr.1, sI v129, sR 56], (mSH W128.1 W128.2.1, (W128.2.2.1, W128.2.2.2)))))) ?_ rfl
        refine sm_xld rfl fun v130 => ?_
        refine sm_callG (rest := []) (T_X11_replan scr (d + 11) W128.1 W128.2.1 W128.2.2.2 W128.2.2.1 v129 v130) rfl (Or.inl rfl) rfl rfl rfl rfl (fun _ => rfl) (fun z131 => (1007, ([lX scr.1, lR 0, lR 56, lR 74, lR 75, lI x1, lI v127, g3.2.1, g3.2.2], ([sI z131.1], (mSH W128.1 W128.2.1, (z131.2, W128.2.2.2)))))) (fun _ => rfl) fun z131 => ?_
        refine sm_go 2 (s' := (1010, ([lX scr.1, lR 0, lR 56, lR 74, lR 75, lI x1, lI v127, lI z131.1, g3.2.2], ([sR 56], (mSH W128.1 W128.2.1, (z131.2, W128.2.2.2)))))) ?_ rfl
        refine sm_callG (rest := []) (T_X11_thrown scr (d + 17) W128.1 W128.2.1 W128.2.2.2 z131.2) rfl (Or.inl rfl) rfl rfl rfl rfl (fun _ => rfl) (fun v132 => (1013, ([lX scr.1, lR 0, lR 56, lR 74, lR 75, lI x1, lI v127, lI z131.1, g3.2.2], ([sI v132], (mSH W128.1 W128.2.1, (z131.2, W128.2.2.2)))))) (fun _ => rfl) fun v132 => ?_
        refine sm_go 1 (s' := (1015, ([lX scr.1, lR 0, lR 56, lR 74, lR 75, lI x1, lI v127, lI z131.1, g3.2.2], ([sI v127, sI v132], (mSH W128.1 W128.2.1, (z131.2, W128.2.2.2)))))) ?_ rfl
        refine sm_if2 (t := (ieq v132 v127)) (pt := 1020) rfl rfl rfl (fun _ => ?_) (fun _ => ?_)
        · refine sm_letK0 (S := fun (g133 : Unit) => (1037, ([lX scr.1, lR 0, lR 56, lR 74, lR 75, lI x1, lI v127, lI z131.1, g3.2.2], ([], (mSH W128.1 W128.2.1, (z131.2, W128.2.2.2)))))) ?_ ?_
          · intro g133
            exact sm_go 1 (hk8 (lI v127, lI z131.1, g3.2.2) (W128.1, (W128.2.1, (z131.2, W128.2.2.2)))) rfl
          · intro k134 hk134
            refine sm_go 1 (s' := (1022, ([lX scr.1, lR 0, lR 56, lR 74, lR 75, lI x1, lI v127, lI z131.1, g3.2.2], ([sI v127], (mSH W128.1 W128.2.1, (z131.2, W128.2.2.2)))))) ?_ rfl
            refine sm_if1n (t := (ieq v127 0)) (pt := 1037) rfl rfl rfl (fun _ => ?_) (fun _ => ?_)
            · refine sm_go 2 (s' := (1027, ([lX scr.1, lR 0, lR 56, lR 74, lR 75, lI x1, lI v127, lI z131.1, g3.2.2], ([sI 0, sR 74], (mSH W128.1 W128.2.1, (z131.2, W128.2.2.2)))))) ?_ rfl
              refine sm_lld rfl rfl fun v135 => ?_
              refine sm_go 3 (s' := (1032, ([lX scr.1, lR 0, lR 56, lR 74, lR 75, lI x1, lI v127, lI z131.1, g3.2.2], ([sI (lcmpI v135 (w32 z131.1))], (mSH W128.1 W128.2.1, (z131.2, W128.2.2.2)))))) ?_ rfl
              refine sm_if1 (t := (ieq (lcmpI v135 (w32 z131.1)) 0)) (pt := 1037) rfl rfl rfl (fun _ => ?_) (fun _ => ?_)
              · exact hk134 ()
              · refine sm_go 1 (s' := (1036, ([lX scr.1, lR 0, lR 56, lR 74, lR 75, lI x1, lI v127, lI z131.1, g3.2.2], ([sI 0], (mSH W128.1 W128.2.1, (z131.2, W128.2.2.2)))))) ?_ rfl
                exact sm_retB1 (b := false) rfl rfl
            · exact hk134 ()
        · refine sm_go 1 (s' := (1019, ([lX scr.1, lR 0, lR 56, lR 74, lR 75, lI x1, lI v127, lI z131.1, g3.2.2], ([sI 0], (mSH W128.1 W128.2.1, (z131.2, W128.2.2.2)))))) ?_ rfl
          exact sm_retB1 (b := false) rfl rfl
      refine sm_sw (fun hw11 => ?_) (fun hw11 => ?_)
      · refine sm_swC (pt := 1040) hw11 rfl rfl ?_
        refine sm_go 5 (s' := (1046, ([lX scr.1, lR 0, lR 56, lR 74, lR 75, lI x1, g3.1, g3.2.1, g3.2.2], ([sI (x1 + 1), sX scr.1, sR 0], (mSH W2.1 W2.2.1, (W2.2.2.1, W2.2.2.2)))))) ?_ rfl
        refine sm_xld rfl fun v136 => ?_
        refine sm_go 1 (s' := (1048, ([lX scr.1, lR 0, lR 56, lR 74, lR 75, lI x1, g3.1, g3.2.1, g3.2.2], ([sR 74, sI v136, sR 0], (mSH W2.1 W2.2.1, (W2.2.2.1, W2.2.2.2)))))) ?_ rfl
        refine sm_notB (rest := []) (T_L_rush scr (d + 9) W2 v136) rfl (Or.inr (Or.inl rfl)) rfl rfl rfl rfl (fun _ _ => rfl) (fun v137 W138 => (1051, ([lX scr.1, lR 0, lR 56, lR 74, lR 75, lI x1, g3.1, g3.2.1, g3.2.2], ([sI v137], (mSH W138.1 W138.2.1, (W138.2.2.1, W138.2.2.2)))))) (fun _ _ => rfl) fun v137 W138 => ?_
        refine sm_go 6 (s' := (1059, ([lX scr.1, lR 0, lR 56, lR 74, lR 75, lI x1, lI v137, g3.2.1, g3.2.2], ([sI (x1 + 1), sX scr.1, sR 56], (mSH W138.1 W138.2.1, (W138.2.2.1, W138.2.2.2)))))) ?_ rfl
        refine sm_xld rfl fun v139 => ?_
        refine sm_callG (rest := []) (T_X11_rush scr (d + 11) W138.1 W138.2.1 W138.2.2.2 W138.2.2.1 v139) rfl (Or.inl rfl) rfl rfl rfl rfl (fun _ => rfl) (fun z140 => (1063, ([lX scr.1, lR 0, lR 56, lR 74, lR 75, lI x1, lI v137, g3.2.1, g3.2.2], ([sI z140.1], (mSH W138.1 W138.2.1, (z140.2, W138.2.2.2)))))) (fun _ => rfl) fun z140 => ?_
        refine sm_go 2 (s' := (1066, ([lX scr.1, lR 0, lR 56, lR 74, lR 75, lI x1, lI v137, lI z140.1, g3.2.2], ([sR 56], (mSH W138.1 W138.2.1, (z140.2, W138.2.2.2)))))) ?_ rfl
        refine sm_callG (rest := []) (T_X11_thrown scr (d + 17) W138.1 W138.2.1 W138.2.2.2 z140.2) rfl (Or.inl rfl) rfl rfl rfl rfl (fun _ => rfl) (fun v141 => (1069, ([lX scr.1, lR 0, lR 56, lR 74, lR 75, lI x1, lI v137, lI z140.1, g3.2.2], ([sI v141], (mSH W138.1 W138.2.1, (z140.2, W138.2.2.2)))))) (fun _ => rfl) fun v141 => ?_
        refine sm_go 1 (s' := (1071, ([lX scr.1, lR 0, lR 56, lR 74, lR 75, lI x1, lI v137, lI z140.1, g3.2.2], ([sI v137, sI v141], (mSH W138.1 W138.2.1, (z140.2, W138.2.2.2)))))) ?_ rfl
        refine sm_if2 (t := (ieq v141 v137)) (pt := 1076) rfl rfl rfl (fun _ => ?_) (fun _ => ?_)
        · refine sm_letK0 (S := fun (g142 : Unit) => (1093, ([lX scr.1, lR 0, lR 56, lR 74, lR 75, lI x1, lI v137, lI z140.1, g3.2.2], ([], (mSH W138.1 W138.2.1, (z140.2, W138.2.2.2)))))) ?_ ?_
          · intro g142
            exact sm_go 1 (hk8 (lI v137, lI z140.1, g3.2.2) (W138.1, (W138.2.1, (z140.2, W138.2.2.2)))) rfl
          · intro k143 hk143
            refine sm_go 1 (s' := (1078, ([lX scr.1, lR 0, lR 56, lR 74, lR 75, lI x1, lI v137, lI z140.1, g3.2.2], ([sI v137], (mSH W138.1 W138.2.1, (z140.2, W138.2.2.2)))))) ?_ rfl
            refine sm_if1n (t := (ieq v137 0)) (pt := 1093) rfl rfl rfl (fun _ => ?_) (fun _ => ?_)
            · refine sm_go 2 (s' := (1083, ([lX scr.1, lR 0, lR 56, lR 74, lR 75, lI x1, lI v137, lI z140.1, g3.2.2], ([sI 0, sR 74], (mSH W138.1 W138.2.1, (z140.2, W138.2.2.2)))))) ?_ rfl
              refine sm_lld rfl rfl fun v144 => ?_
              refine sm_go 3 (s' := (1088, ([lX scr.1, lR 0, lR 56, lR 74, lR 75, lI x1, lI v137, lI z140.1, g3.2.2], ([sI (lcmpI v144 (w32 z140.1))], (mSH W138.1 W138.2.1, (z140.2, W138.2.2.2)))))) ?_ rfl
              refine sm_if1 (t := (ieq (lcmpI v144 (w32 z140.1)) 0)) (pt := 1093) rfl rfl rfl (fun _ => ?_) (fun _ => ?_)
              · exact hk143 ()
              · refine sm_go 1 (s' := (1092, ([lX scr.1, lR 0, lR 56, lR 74, lR 75, lI x1, lI v137, lI z140.1, g3.2.2], ([sI 0], (mSH W138.1 W138.2.1, (z140.2, W138.2.2.2)))))) ?_ rfl
                exact sm_retB1 (b := false) rfl rfl
            · exact hk143 ()
        · refine sm_go 1 (s' := (1075, ([lX scr.1, lR 0, lR 56, lR 74, lR 75, lI x1, lI v137, lI z140.1, g3.2.2], ([sI 0], (mSH W138.1 W138.2.1, (z140.2, W138.2.2.2)))))) ?_ rfl
          exact sm_retB1 (b := false) rfl rfl
      refine sm_sw (fun hw12 => ?_) (fun hw12 => ?_)
      · refine sm_swC (pt := 1096) hw12 rfl rfl ?_
        refine sm_go 5 (s' := (1102, ([lX scr.1, lR 0, lR 56, lR 74, lR 75, lI x1, g3.1, g3.2.1, g3.2.2], ([sI (x1 + 1), sX scr.1, sR 0], (mSH W2.1 W2.2.1, (W2.2.2.1, W2.2.2.2)))))) ?_ rfl
        refine sm_xld rfl fun v145 => ?_
        refine sm_go 4 (s' := (1108, ([lX scr.1, lR 0, lR 56, lR 74, lR 75, lI x1, g3.1, g3.2.1, g3.2.2], ([sI (x1 + 2), sX scr.1, sI v145, sR 0], (mSH W2.1 W2.2.1, (W2.2.2.1, W2.2.2.2)))))) ?_ rfl
        refine sm_xld rfl fun v146 => ?_
        refine sm_go 1 (s' := (1110, ([lX scr.1, lR 0, lR 56, lR 74, lR 75, lI x1, g3.1, g3.2.1, g3.2.2], ([sR 74, sI v146, sI v145, sR 0], (mSH W2.1 W2.2.1, (W2.2.2.1, W2.2.2.2)))))) ?_ rfl
        refine sm_notB (rest := []) (T_L_setWorker scr (d + 13) W2 v145 v146) rfl (Or.inr (Or.inl rfl)) rfl rfl rfl rfl (fun _ _ => rfl) (fun v147 W148 => (1113, ([lX scr.1, lR 0, lR 56, lR 74, lR 75, lI x1, g3.1, g3.2.1, g3.2.2], ([sI v147], (mSH W148.1 W148.2.1, (W148.2.2.1, W148.2.2.2)))))) (fun _ _ => rfl) fun v147 W148 => ?_
        refine sm_go 6 (s' := (1121, ([lX scr.1, lR 0, lR 56, lR 74, lR 75, lI x1, lI v147, g3.2.1, g3.2.2], ([sI (x1 + 1), sX scr.1, sR 56], (mSH W148.1 W148.2.1, (W148.2.2.1, W148.2.2.2)))))) ?_ rfl
        refine sm_xld rfl fun v149 => ?_
        refine sm_go 4 (s' := (1127, ([lX scr.1, lR 0, lR 56, lR 74, lR 75, lI x1, lI v147, g3.2.1, g3.2.2], ([sI (x1 + 2), sX scr.1, sI v149, sR 56], (mSH W148.1 W148.2.1, (W148.2.2.1, W148.2.2.2)))))) ?_ rfl
        refine sm_xld rfl fun v150 => ?_
        refine sm_callG (rest := []) (T_X11_setWorker scr (d + 16) W148.1 W148.2.1 W148.2.2.2 W148.2.2.1 v149 v150) rfl (Or.inl rfl) rfl rfl rfl rfl (fun _ => rfl) (fun z151 => (1131, ([lX scr.1, lR 0, lR 56, lR 74, lR 75, lI x1, lI v147, g3.2.1, g3.2.2], ([sI z151.1], (mSH W148.1 W148.2.1, (z151.2, W148.2.2.2)))))) (fun _ => rfl) fun z151 => ?_
        refine sm_go 2 (s' := (1134, ([lX scr.1, lR 0, lR 56, lR 74, lR 75, lI x1, lI v147, lI z151.1, g3.2.2], ([sR 56], (mSH W148.1 W148.2.1, (z151.2, W148.2.2.2)))))) ?_ rfl
        refine sm_callG (rest := []) (T_X11_thrown scr (d + 17) W148.1 W148.2.1 W148.2.2.2 z151.2) rfl (Or.inl rfl) rfl rfl rfl rfl (fun _ => rfl) (fun v152 => (1137, ([lX scr.1, lR 0, lR 56, lR 74, lR 75, lI x1, lI v147, lI z151.1, g3.2.2], ([sI v152], (mSH W148.1 W148.2.1, (z151.2, W148.2.2.2)))))) (fun _ => rfl) fun v152 => ?_
        refine sm_go 1 (s' := (1139, ([lX scr.1, lR 0, lR 56, lR 74, lR 75, lI x1, lI v147, lI z151.1, g3.2.2], ([sI v147, sI v152], (mSH W148.1 W148.2.1, (z151.2, W148.2.2.2)))))) ?_ rfl
        refine sm_if2 (t := (ieq v152 v147)) (pt := 1144) rfl rfl rfl (fun _ => ?_) (fun _ => ?_)
        · refine sm_letK0 (S := fun (g153 : Unit) => (1161, ([lX scr.1, lR 0, lR 56, lR 74, lR 75, lI x1, lI v147, lI z151.1, g3.2.2], ([], (mSH W148.1 W148.2.1, (z151.2, W148.2.2.2)))))) ?_ ?_
          · intro g153
            exact sm_go 1 (hk8 (lI v147, lI z151.1, g3.2.2) (W148.1, (W148.2.1, (z151.2, W148.2.2.2)))) rfl
          · intro k154 hk154
            refine sm_go 1 (s' := (1146, ([lX scr.1, lR 0, lR 56, lR 74, lR 75, lI x1, lI v147, lI z151.1, g3.2.2], ([sI v147], (mSH W148.1 W148.2.1, (z151.2, W148.2.2.2)))))) ?_ rfl
            refine sm_if1n (t := (ieq v147 0)) (pt := 1161) rfl rfl rfl (fun _ => ?_) (fun _ => ?_)
            · refine sm_go 2 (s' := (1151, ([lX scr.1, lR 0, lR 56, lR 74, lR 75, lI x1, lI v147, lI z151.1, g3.2.2], ([sI 0, sR 74], (mSH W148.1 W148.2.1, (z151.2, W148.2.2.2)))))) ?_ rfl
              refine sm_lld rfl rfl fun v155 => ?_
              refine sm_go 3 (s' := (1156, ([lX scr.1, lR 0, lR 56, lR 74, lR 75, lI x1, lI v147, lI z151.1, g3.2.2], ([sI (lcmpI v155 (w32 z151.1))], (mSH W148.1 W148.2.1, (z151.2, W148.2.2.2)))))) ?_ rfl
              refine sm_if1 (t := (ieq (lcmpI v155 (w32 z151.1)) 0)) (pt := 1161) rfl rfl rfl (fun _ => ?_) (fun _ => ?_)
              · exact hk154 ()
              · refine sm_go 1 (s' := (1160, ([lX scr.1, lR 0, lR 56, lR 74, lR 75, lI x1, lI v147, lI z151.1, g3.2.2], ([sI 0], (mSH W148.1 W148.2.1, (z151.2, W148.2.2.2)))))) ?_ rfl
                exact sm_retB1 (b := false) rfl rfl
            · exact hk154 ()
        · refine sm_go 1 (s' := (1143, ([lX scr.1, lR 0, lR 56, lR 74, lR 75, lI x1, lI v147, lI z151.1, g3.2.2], ([sI 0], (mSH W148.1 W148.2.1, (z151.2, W148.2.2.2)))))) ?_ rfl
          exact sm_retB1 (b := false) rfl rfl
      refine sm_sw (fun hw13 => ?_) (fun hw13 => ?_)
      · refine sm_swC (pt := 1164) hw13 rfl rfl ?_
        refine sm_go 1 (s' := (1165, ([lX scr.1, lR 0, lR 56, lR 74, lR 75, lI x1, g3.1, g3.2.1, g3.2.2], ([sR 0], (mSH W2.1 W2.2.1, (W2.2.2.1, W2.2.2.2)))))) ?_ rfl
        refine sm_thr (rest := []) (T_X10_undo scr (d + 11) W2) rfl (Or.inl rfl) rfl rfl rfl rfl (fun _ _ => rfl) (fun _ _ => rfl) (fun v156 W157 => (1168, ([lX scr.1, lR 0, lR 56, lR 74, lR 75, lI x1, g3.1, g3.2.1, g3.2.2], ([sI v156], (mSH W157.1 W157.2.1, (W157.2.2.1, W157.2.2.2)))))) (fun _ _ => rfl) fun v156 W157 => ?_
        refine sm_go 1 (s' := (1169, ([lX scr.1, lR 0, lR 56, lR 74, lR 75, lI x1, g3.1, g3.2.1, g3.2.2], ([sR 56, sI v156], (mSH W157.1 W157.2.1, (W157.2.2.1, W157.2.2.2)))))) ?_ rfl
        refine sm_callG (rest := [sI v156]) (T_X11_undo scr (d + 17) W157.1 W157.2.1 W157.2.2.2 W157.2.2.1) rfl (Or.inl rfl) rfl rfl rfl rfl (fun _ => rfl) (fun z158 => (1172, ([lX scr.1, lR 0, lR 56, lR 74, lR 75, lI x1, g3.1, g3.2.1, g3.2.2], ([sI z158.1, sI v156], (mSH W157.1 W157.2.1, (z158.2, W157.2.2.2)))))) (fun _ => rfl) fun z158 => ?_
        refine sm_if2 (t := (ieq v156 z158.1)) (pt := 2659) rfl rfl rfl (fun _ => ?_) (fun _ => ?_)
        · exact hk8 (g3.1, g3.2.1, g3.2.2) (W157.1, (W157.2.1, (z158.2, W157.2.2.2)))
        · refine sm_go 1 (s' := (1176, ([lX scr.1, lR 0, lR 56, lR 74, lR 75, lI x1, g3.1, g3.2.1, g3.2.2], ([sI 0], (mSH W157.1 W157.2.1, (z158.2, W157.2.2.2)))))) ?_ rfl
          exact sm_retB1 (b := false) rfl rfl
      refine sm_sw (fun hw14 => ?_) (fun hw14 => ?_)
      · refine sm_swC (pt := 1177) hw14 rfl rfl ?_
        refine sm_go 1 (s' := (1178, ([lX scr.1, lR 0, lR 56, lR 74, lR 75, lI x1, g3.1, g3.2.1, g3.2.2], ([sR 0], (mSH W2.1 W2.2.1, (W2.2.2.1, W2.2.2.2)))))) ?_ rfl
        refine sm_callG (rest := []) (T_X10_jobs scr (d + 17) W2.1 W2.2.1 W2.2.2.2 W2.2.2.1) rfl (Or.inl rfl) rfl rfl rfl rfl (fun _ => rfl) (fun v159 => (1181, ([lX scr.1, lR 0, lR 56, lR 74, lR 75, lI x1, g3.1, g3.2.1, g3.2.2], ([sI v159], (mSH W2.1 W2.2.1, (W2.2.2.1, W2.2.2.2)))))) (fun _ => rfl) fun v159 => ?_
        refine sm_go 1 (s' := (1182, ([lX scr.1, lR 0, lR 56, lR 74, lR 75, lI x1, g3.1, g3.2.1, g3.2.2], ([sR 56, sI v159], (mSH W2.1 W2.2.1, (W2.2.2.1, W2.2.2.2)))))) ?_ rfl
        refine sm_callG (rest := [sI v159]) (T_X11_jobs scr (d + 17) W2.1 W2.2.1 W2.2.2.2 W2.2.2.1) rfl (Or.inl rfl) rfl rfl rfl rfl (fun _ => rfl) (fun z160 => (1185, ([lX scr.1, lR 0, lR 56, lR 74, lR 75, lI x1, g3.1, g3.2.1, g3.2.2], ([sI z160.1, sI v159], (mSH W2.1 W2.2.1, (z160.2, W2.2.2.2)))))) (fun _ => rfl) fun z160 => ?_
        refine sm_if2 (t := (ieq v159 z160.1)) (pt := 2659) rfl rfl rfl (fun _ => ?_) (fun _ => ?_)
        · exact hk8 (g3.1, g3.2.1, g3.2.2) (W2.1, (W2.2.1, (z160.2, W2.2.2.2)))
        · refine sm_go 1 (s' := (1189, ([lX scr.1, lR 0, lR 56, lR 74, lR 75, lI x1, g3.1, g3.2.1, g3.2.2], ([sI 0], (mSH W2.1 W2.2.1, (z160.2, W2.2.2.2)))))) ?_ rfl
          exact sm_retB1 (b := false) rfl rfl
      refine sm_sw (fun hw15 => ?_) (fun hw15 => ?_)
      · refine sm_swC (pt := 1190) hw15 rfl rfl ?_
        refine sm_go 5 (s' := (1196, ([lX scr.1, lR 0, lR 56, lR 74, lR 75, lI x1, g3.1, g3.2.1, g3.2.2], ([sI (x1 + 1), sX scr.1, sR 0], (mSH W2.1 W2.2.1, (W2.2.2.1, W2.2.2.2)))))) ?_ rfl
        refine sm_xld rfl fun v161 => ?_
        refine sm_go 4 (s' := (1202, ([lX scr.1, lR 0, lR 56, lR 74, lR 75, lI x1, g3.1, g3.2.1, g3.2.2], ([sI (x1 + 2), sX scr.1, sI v161, sR 0], (mSH W2.1 W2.2.1, (W2.2.2.1, W2.2.2.2)))))) ?_ rfl
        refine sm_xld rfl fun v162 => ?_
        refine sm_go 1 (s' := (1204, ([lX scr.1, lR 0, lR 56, lR 74, lR 75, lI x1, g3.1, g3.2.1, g3.2.2], ([sR 74, sI v162, sI v161, sR 0], (mSH W2.1 W2.2.1, (W2.2.2.1, W2.2.2.2)))))) ?_ rfl
        refine sm_notB (rest := []) (T_L_jobAt scr (d + 15) W2 v161 v162) rfl (Or.inr (Or.inl rfl)) rfl rfl rfl rfl (fun _ _ => rfl) (fun v163 W164 => (1207, ([lX scr.1, lR 0, lR 56, lR 74, lR 75, lI x1, g3.1, g3.2.1, g3.2.2], ([sI v163], (mSH W164.1 W164.2.1, (W164.2.2.1, W164.2.2.2)))))) (fun _ _ => rfl) fun v163 W164 => ?_
        refine sm_go 6 (s' := (1215, ([lX scr.1, lR 0, lR 56, lR 74, lR 75, lI x1, lI v163, g3.2.1, g3.2.2], ([sI (x1 + 1), sX scr.1, sR 56], (mSH W164.1 W164.2.1, (W164.2.2.1, W164.2.2.2)))))) ?_ rfl
        refine sm_xld rfl fun v165 => ?_
        refine sm_go 4 (s' := (1221, ([lX scr.1, lR 0, lR 56, lR 74, lR 75, lI x1, lI v163, g3.2.1, g3.2.2], ([sI (x1 + 2), sX scr.1, sI v165, sR 56], (mSH W164.1 W164.2.1, (W164.2.2.1, W164.2.2.2)))))) ?_ rfl
        refine sm_xld rfl fun v166 => ?_
        refine sm_callG (rest := []) (T_X11_jobAt scr (d + 13) W164.1 W164.2.1 W164.2.2.2 W164.2.2.1 v165 v166) rfl (Or.inl rfl) rfl rfl rfl rfl (fun _ => rfl) (fun z167 => (1225, ([lX scr.1, lR 0, lR 56, lR 74, lR 75, lI x1, lI v163, g3.2.1, g3.2.2], ([sI z167.1], (mSH W164.1 W164.2.1, (z167.2, W164.2.2.2)))))) (fun _ => rfl) fun z167 => ?_
        refine sm_go 2 (s' := (1228, ([lX scr.1, lR 0, lR 56, lR 74, lR 75, lI x1, lI v163, lI z167.1, g3.2.2], ([sR 56], (mSH W164.1 W164.2.1, (z167.2, W164.2.2.2)))))) ?_ rfl
        refine sm_callG (rest := []) (T_X11_thrown scr (d + 17) W164.1 W164.2.1 W164.2.2.2 z167.2) rfl (Or.inl rfl) rfl rfl rfl rfl (fun _ => rfl) (fun v168 => (1231, ([lX scr.1, lR 0, lR 56, lR 74, lR 75, lI x1, lI v163, lI z167.1, g3.2.2], ([sI v168], (mSH W164.1 W164.2.1, (z167.2, W164.2.2.2)))))) (fun _ => rfl) fun v168 => ?_
        refine sm_go 1 (s' := (1233, ([lX scr.1, lR 0, lR 56, lR 74, lR 75, lI x1, lI v163, lI z167.1, g3.2.2], ([sI v163, sI v168], (mSH W164.1 W164.2.1, (z167.2, W164.2.2.2)))))) ?_ rfl
        refine sm_if2 (t := (ieq v168 v163)) (pt := 1238) rfl rfl rfl (fun _ => ?_) (fun _ => ?_)
        · refine sm_letK0 (S := fun (g169 : Unit) => (1255, ([lX scr.1, lR 0, lR 56, lR 74, lR 75, lI x1, lI v163, lI z167.1, g3.2.2], ([], (mSH W164.1 W164.2.1, (z167.2, W164.2.2.2)))))) ?_ ?_
          · intro g169
            exact sm_go 1 (hk8 (lI v163, lI z167.1, g3.2.2) (W164.1, (W164.2.1, (z167.2, W164.2.2.2)))) rfl
          · intro k170 hk170
            refine sm_go 1 (s' := (1240, ([lX scr.1, lR 0, lR 56, lR 74, lR 75, lI x1, lI v163, lI z167.1, g3.2.2], ([sI v163], (mSH W164.1 W164.2.1, (z167.2, W164.2.2.2)))))) ?_ rfl
            refine sm_if1n (t := (ieq v163 0)) (pt := 1255) rfl rfl rfl (fun _ => ?_) (fun _ => ?_)
            · refine sm_go 2 (s' := (1245, ([lX scr.1, lR 0, lR 56, lR 74, lR 75, lI x1, lI v163, lI z167.1, g3.2.2], ([sI 0, sR 74], (mSH W164.1 W164.2.1, (z167.2, W164.2.2.2)))))) ?_ rfl
              refine sm_lld rfl rfl fun v171 => ?_
              refine sm_go 3 (s' := (1250, ([lX scr.1, lR 0, lR 56, lR 74, lR 75, lI x1, lI v163, lI z167.1, g3.2.2], ([sI (lcmpI v171 (w32 z167.1))], (mSH W164.1 W164.2.1, (z167.2, W164.2.2.2)))))) ?_ rfl
              refine sm_if1 (t := (ieq (lcmpI v171 (w32 z167.1)) 0)) (pt := 1255) rfl rfl rfl (fun _ => ?_) (fun _ => ?_)
              · exact hk170 ()
              · refine sm_go 1 (s' := (1254, ([lX scr.1, lR 0, lR 56, lR 74, lR 75, lI x1, lI v163, lI z167.1, g3.2.2], ([sI 0], (mSH W164.1 W164.2.1, (z167.2, W164.2.2.2)))))) ?_ rfl
                exact sm_retB1 (b := false) rfl rfl
            · exact hk170 ()
        · refine sm_go 1 (s' := (1237, ([lX scr.1, lR 0, lR 56, lR 74, lR 75, lI x1, lI v163, lI z167.1, g3.2.2], ([sI 0], (mSH W164.1 W164.2.1, (z167.2, W164.2.2.2)))))) ?_ rfl
          exact sm_retB1 (b := false) rfl rfl
      refine sm_sw (fun hw16 => ?_) (fun hw16 => ?_)
      · refine sm_swC (pt := 1258) hw16 rfl rfl ?_
        refine sm_go 5 (s' := (1264, ([lX scr.1, lR 0, lR 56, lR 74, lR 75, lI x1, g3.1, g3.2.1, g3.2.2], ([sI (x1 + 1), sX scr.1, sR 0], (mSH W2.1 W2.2.1, (W2.2.2.1, W2.2.2.2)))))) ?_ rfl
        refine sm_xld rfl fun v172 => ?_
        refine sm_go 4 (s' := (1270, ([lX scr.1, lR 0, lR 56, lR 74, lR 75, lI x1, g3.1, g3.2.1, g3.2.2], ([sI (x1 + 2), sX scr.1, sI v172, sR 0], (mSH W2.1 W2.2.1, (W2.2.2.1, W2.2.2.2)))))) ?_ rfl
        refine sm_xld rfl fun v173 => ?_
        refine sm_go 4 (s' := (1276, ([lX scr.1, lR 0, lR 56, lR 74, lR 75, lI x1, g3.1, g3.2.1, g3.2.2], ([sI (x1 + 3), sX scr.1, sI v173, sI v172, sR 0], (mSH W2.1 W2.2.1, (W2.2.2.1, W2.2.2.2)))))) ?_ rfl
        refine sm_xld rfl fun v174 => ?_
        refine sm_go 1 (s' := (1278, ([lX scr.1, lR 0, lR 56, lR 74, lR 75, lI x1, g3.1, g3.2.1, g3.2.2], ([sR 74, sI v174, sI v173, sI v172, sR 0], (mSH W2.1 W2.2.1, (W2.2.2.1, W2.2.2.2)))))) ?_ rfl
        refine sm_notB (rest := []) (T_L_stepAt scr (d + 14) W2 v172 v173 v174) rfl (Or.inr (Or.inl rfl)) rfl rfl rfl rfl (fun _ _ => rfl) (fun v175 W176 => (1281, ([lX scr.1, lR 0, lR 56, lR 74, lR 75, lI x1, g3.1, g3.2.1, g3.2.2], ([sI v175], (mSH W176.1 W176.2.1, (W176.2.2.1, W176.2.2.2)))))) (fun _ _ => rfl) fun v175 W176 => ?_
        refine sm_go 6 (s' := (1289, ([lX scr.1, lR 0, lR 56, lR 74, lR 75, lI x1, lI v175, g3.2.1, g3.2.2], ([sI (x1 + 1), sX scr.1, sR 56], (mSH W176.1 W176.2.1, (W176.2.2.1, W176.2.2.2)))))) ?_ rfl
        refine sm_xld rfl fun v177 => ?_
        refine sm_go 4 (s' := (1295, ([lX scr.1, lR 0, lR 56, lR 74, lR 75, lI x1, lI v175, g3.2.1, g3.2.2], ([sI (x1 + 2), sX scr.1, sI v177, sR 56], (mSH W176.1 W176.2.1, (W176.2.2.1, W176.2.2.2)))))) ?_ rfl
        refine sm_xld rfl fun v178 => ?_
        refine sm_go 4 (s' := (1301, ([lX scr.1, lR 0, lR 56, lR 74, lR 75, lI x1, lI v175, g3.2.1, g3.2.2], ([sI (x1 + 3), sX scr.1, sI v178, sI v177, sR 56], (mSH W176.1 W176.2.1, (W176.2.2.1, W176.2.2.2)))))) ?_ rfl
        refine sm_xld rfl fun v179 => ?_
        refine sm_callG (rest := []) (T_X11_stepAt scr (d + 14) W176.1 W176.2.1 W176.2.2.2 W176.2.2.1 v177 v178 v179) rfl (Or.inl rfl) rfl rfl rfl rfl (fun _ => rfl) (fun z180 => (1305, ([lX scr.1, lR 0, lR 56, lR 74, lR 75, lI x1, lI v175, g3.2.1, g3.2.2], ([sI z180.1], (mSH W176.1 W176.2.1, (z180.2, W176.2.2.2)))))) (fun _ => rfl) fun z180 => ?_
        refine sm_go 2 (s' := (1308, ([lX scr.1, lR 0, lR 56, lR 74, lR 75, lI x1, lI v175, lI z180.1, g3.2.2], ([sR 56], (mSH W176.1 W176.2.1, (z180.2, W176.2.2.2)))))) ?_ rfl
        refine sm_callG (rest := []) (T_X11_thrown scr (d + 17) W176.1 W176.2.1 W176.2.2.2 z180.2) rfl (Or.inl rfl) rfl rfl rfl rfl (fun _ => rfl) (fun v181 => (1311, ([lX scr.1, lR 0, lR 56, lR 74, lR 75, lI x1, lI v175, lI z180.1, g3.2.2], ([sI v181], (mSH W176.1 W176.2.1, (z180.2, W176.2.2.2)))))) (fun _ => rfl) fun v181 => ?_
        refine sm_go 1 (s' := (1313, ([lX scr.1, lR 0, lR 56, lR 74, lR 75, lI x1, lI v175, lI z180.1, g3.2.2], ([sI v175, sI v181], (mSH W176.1 W176.2.1, (z180.2, W176.2.2.2)))))) ?_ rfl
        refine sm_if2 (t := (ieq v181 v175)) (pt := 1318) rfl rfl rfl (fun _ => ?_) (fun _ => ?_)
        · refine sm_letK0 (S := fun (g182 : Unit) => (1335, ([lX scr.1, lR 0, lR 56, lR 74, lR 75, lI x1, lI v175, lI z180.1, g3.2.2], ([], (mSH W176.1 W176.2.1, (z180.2, W176.2.2.2)))))) ?_ ?_
          · intro g182
            exact sm_go 1 (hk8 (lI v175, lI z180.1, g3.2.2) (W176.1, (W176.2.1, (z180.2, W176.2.2.2)))) rfl
          · intro k183 hk183
            refine sm_go 1 (s' := (1320, ([lX scr.1, lR 0, lR 56, lR 74, lR 75, lI x1, lI v175, lI z180.1, g3.2.2], ([sI v175], (mSH W176.1 W176.2.1, (z180.2, W176.2.2.2)))))) ?_ rfl
            refine sm_if1n (t := (ieq v175 0)) (pt := 1335) rfl rfl rfl (fun _ => ?_) (fun _ => ?_)
            · refine sm_go 2 (s' := (1325, ([lX scr.1, lR 0, lR 56, lR 74, lR 75, lI x1, lI v175, lI z180.1, g3.2.2], ([sI 0, sR 74], (mSH W176.1 W176.2.1, (z180.2, W176.2.2.2)))))) ?_ rfl
              refine sm_lld rfl rfl fun v184 => ?_
              refine sm_go 3 (s' := (1330, ([lX scr.1, lR 0, lR 56, lR 74, lR 75, lI x1, lI v175, lI z180.1, g3.2.2], ([sI (lcmpI v184 (w32 z180.1))], (mSH W176.1 W176.2.1, (z180.2, W176.2.2.2)))))) ?_ rfl
              refine sm_if1 (t := (ieq (lcmpI v184 (w32 z180.1)) 0)) (pt := 1335) rfl rfl rfl (fun _ => ?_) (fun _ => ?_)
              · exact hk183 ()
              · refine sm_go 1 (s' := (1334, ([lX scr.1, lR 0, lR 56, lR 74, lR 75, lI x1, lI v175, lI z180.1, g3.2.2], ([sI 0], (mSH W176.1 W176.2.1, (z180.2, W176.2.2.2)))))) ?_ rfl
                exact sm_retB1 (b := false) rfl rfl
            · exact hk183 ()
        · refine sm_go 1 (s' := (1317, ([lX scr.1, lR 0, lR 56, lR 74, lR 75, lI x1, lI v175, lI z180.1, g3.2.2], ([sI 0], (mSH W176.1 W176.2.1, (z180.2, W176.2.2.2)))))) ?_ rfl
          exact sm_retB1 (b := false) rfl rfl
      refine sm_sw (fun hw17 => ?_) (fun hw17 => ?_)
      · refine sm_swC (pt := 1338) hw17 rfl rfl ?_
        refine sm_go 5 (s' := (1344, ([lX scr.1, lR 0, lR 56, lR 74, lR 75, lI x1, g3.1, g3.2.1, g3.2.2], ([sI (x1 + 1), sX scr.1, sR 0], (mSH W2.1 W2.2.1, (W2.2.2.1, W2.2.2.2)))))) ?_ rfl
        refine sm_xld rfl fun v185 => ?_
        refine sm_go 4 (s' := (1350, ([lX scr.1, lR 0, lR 56, lR 74, lR 75, lI x1, g3.1, g3.2.1, g3.2.2], ([sI (x1 + 2), sX scr.1, sI v185, sR 0], (mSH W2.1 W2.2.1, (W2.2.2.1, W2.2.2.2)))))) ?_ rfl
        refine sm_xld rfl fun v186 => ?_
        refine sm_go 1 (s' := (1352, ([lX scr.1, lR 0, lR 56, lR 74, lR 75, lI x1, g3.1, g3.2.1, g3.2.2], ([sR 74, sI v186, sI v185, sR 0], (mSH W2.1 W2.2.1, (W2.2.2.1, W2.2.2.2)))))) ?_ rfl
        refine sm_notB (rest := []) (T_L_begin scr (d + 14) W2 v185 v186) rfl (Or.inr (Or.inl rfl)) rfl rfl rfl rfl (fun _ _ => rfl) (fun v187 W188 => (1355, ([lX scr.1, lR 0, lR 56, lR 74, lR 75, lI x1, g3.1, g3.2.1, g3.2.2], ([sI v187], (mSH W188.1 W188.2.1, (W188.2.2.1, W188.2.2.2)))))) (fun _ _ => rfl) fun v187 W188 => ?_
        refine sm_go 6 (s' := (1363, ([lX scr.1, lR 0, lR 56, lR 74, lR 75, lI x1, lI v187, g3.2.1, g3.2.2], ([sI (x1 + 1), sX scr.1, sR 56], (mSH W188.1 W188.2.1, (W188.2.2.1, W188.2.2.2)))))) ?_ rfl
        refine sm_xld rfl fun v189 => ?_
        refine sm_go 4 (s' := (1369, ([lX scr.1, lR 0, lR 56, lR 74, lR 75, lI x1, lI v187, g3.2.1, g3.2.2], ([sI (x1 + 2), sX scr.1, sI v189, sR 56], (mSH W188.1 W188.2.1, (W188.2.2.1, W188.2.2.2)))))) ?_ rfl
        refine sm_xld rfl fun v190 => ?_
        refine sm_callG (rest := []) (T_X11_begin scr (d + 11) W188.1 W188.2.1 W188.2.2.2 W188.2.2.1 v189 v190) rfl (Or.inl rfl) rfl rfl rfl rfl (fun _ => rfl) (fun z191 => (1373, ([lX scr.1, lR 0, lR 56, lR 74, lR 75, lI x1, lI v187, g3.2.1, g3.2.2], ([sI z191.1], (mSH W188.1 W188.2.1, (z191.2, W188.2.2.2)))))) (fun _ => rfl) fun z191 => ?_
        refine sm_go 2 (s' := (1376, ([lX scr.1, lR 0, lR 56, lR 74, lR 75, lI x1, lI v187, lI z191.1, g3.2.2], ([sR 56], (mSH W188.1 W188.2.1, (z191.2, W188.2.2.2)))))) ?_ rfl
        refine sm_callG (rest := []) (T_X11_thrown scr (d + 17) W188.1 W188.2.1 W188.2.2.2 z191.2) rfl (Or.inl rfl) rfl rfl rfl rfl (fun _ => rfl) (fun v192 => (1379, ([lX scr.1, lR 0, lR 56, lR 74, lR 75, lI x1, lI v187, lI z191.1, g3.2.2], ([sI v192], (mSH W188.1 W188.2.1, (z191.2, W188.2.2.2)))))) (fun _ => rfl) fun v192 => ?_
        refine sm_go 1 (s' := (1381, ([lX scr.1, lR 0, lR 56, lR 74, lR 75, lI x1, lI v187, lI z191.1, g3.2.2], ([sI v187, sI v192], (mSH W188.1 W188.2.1, (z191.2, W188.2.2.2)))))) ?_ rfl
        refine sm_if2 (t := (ieq v192 v187)) (pt := 1386) rfl rfl rfl (fun _ => ?_) (fun _ => ?_)
        · refine sm_letK0 (S := fun (g193 : Unit) => (1403, ([lX scr.1, lR 0, lR 56, lR 74, lR 75, lI x1, lI v187, lI z191.1, g3.2.2], ([], (mSH W188.1 W188.2.1, (z191.2, W188.2.2.2)))))) ?_ ?_
          · intro g193
            exact sm_go 1 (hk8 (lI v187, lI z191.1, g3.2.2) (W188.1, (W188.2.1, (z191.2, W188.2.2.2)))) rfl
          · intro k194 hk194
            refine sm_go 1 (s' := (1388, ([lX scr.1, lR 0, lR 56, lR 74, lR 75, lI x1, lI v187, lI z191.1, g3.2.2], ([sI v187], (mSH W188.1 W188.2.1, (z191.2, W188.2.2.2)))))) ?_ rfl
            refine sm_if1n (t := (ieq v187 0)) (pt := 1403) rfl rfl rfl (fun _ => ?_) (fun _ => ?_)
            · refine sm_go 2 (s' := (1393, ([lX scr.1, lR 0, lR 56, lR 74, lR 75, lI x1, lI v187, lI z191.1, g3.2.2], ([sI 0, sR 74], (mSH W188.1 W188.2.1, (z191.2, W188.2.2.2)))))) ?_ rfl
              refine sm_lld rfl rfl fun v195 => ?_
              refine sm_go 3 (s' := (1398, ([lX scr.1, lR 0, lR 56, lR 74, lR 75, lI x1, lI v187, lI z191.1, g3.2.2], ([sI (lcmpI v195 (w32 z191.1))], (mSH W188.1 W188.2.1, (z191.2, W188.2.2.2)))))) ?_ rfl
              refine sm_if1 (t := (ieq (lcmpI v195 (w32 z191.1)) 0)) (pt := 1403) rfl rfl rfl (fun _ => ?_) (fun _ => ?_)
              · exact hk194 ()
              · refine sm_go 1 (s' := (1402, ([lX scr.1, lR 0, lR 56, lR 74, lR 75, lI x1, lI v187, lI z191.1, g3.2.2], ([sI 0], (mSH W188.1 W188.2.1, (z191.2, W188.2.2.2)))))) ?_ rfl
                exact sm_retB1 (b := false) rfl rfl
            · exact hk194 ()
        · refine sm_go 1 (s' := (1385, ([lX scr.1, lR 0, lR 56, lR 74, lR 75, lI x1, lI v187, lI z191.1, g3.2.2], ([sI 0], (mSH W188.1 W188.2.1, (z191.2, W188.2.2.2)))))) ?_ rfl
          exact sm_retB1 (b := false) rfl rfl
      refine sm_sw (fun hw18 => ?_) (fun hw18 => ?_)
      · refine sm_swC (pt := 1406) hw18 rfl rfl ?_
        refine sm_go 5 (s' := (1412, ([lX scr.1, lR 0, lR 56, lR 74, lR 75, lI x1, g3.1, g3.2.1, g3.2.2], ([sI (x1 + 1), sX scr.1, sR 0], (mSH W2.1 W2.2.1, (W2.2.2.1, W2.2.2.2)))))) ?_ rfl
        refine sm_xld rfl fun v196 => ?_
        refine sm_go 1 (s' := (1414, ([lX scr.1, lR 0, lR 56, lR 74, lR 75, lI x1, g3.1, g3.2.1, g3.2.2], ([sR 74, sI v196, sR 0], (mSH W2.1 W2.2.1, (W2.2.2.1, W2.2.2.2)))))) ?_ rfl
        refine sm_notB (rest := []) (T_L_endOf scr (d + 13) W2 v196) rfl (Or.inr (Or.inl rfl)) rfl rfl rfl rfl (fun _ _ => rfl) (fun v197 W198 => (1417, ([lX scr.1, lR 0, lR 56, lR 74, lR 75, lI x1, g3.1, g3.2.1, g3.2.2], ([sI v197], (mSH W198.1 W198.2.1, (W198.2.2.1, W198.2.2.2)))))) (fun _ _ => rfl) fun v197 W198 => ?_
        refine sm_go 6 (s' := (1425, ([lX scr.1, lR 0, lR 56, lR 74, lR 75, lI x1, lI v197, g3.2.1, g3.2.2], ([sI (x1 + 1), sX scr.1, sR 56], (mSH W198.1 W198.2.1, (W198.2.2.1, W198.2.2.2)))))) ?_ rfl
        refine sm_xld rfl fun v199 => ?_
        refine sm_callG (rest := []) (T_X11_endOf scr (d + 11) W198.1 W198.2.1 W198.2.2.2 W198.2.2.1 v199) rfl (Or.inl rfl) rfl rfl rfl rfl (fun _ => rfl) (fun z200 => (1429, ([lX scr.1, lR 0, lR 56, lR 74, lR 75, lI x1, lI v197, g3.2.1, g3.2.2], ([sI z200.1], (mSH W198.1 W198.2.1, (z200.2, W198.2.2.2)))))) (fun _ => rfl) fun z200 => ?_
        refine sm_go 2 (s' := (1432, ([lX scr.1, lR 0, lR 56, lR 74, lR 75, lI x1, lI v197, lI z200.1, g3.2.2], ([sR 56], (mSH W198.1 W198.2.1, (z200.2, W198.2.2.2)))))) ?_ rfl
        refine sm_callG (rest := []) (T_X11_thrown scr (d + 17) W198.1 W198.2.1 W198.2.2.2 z200.2) rfl (Or.inl rfl) rfl rfl rfl rfl (fun _ => rfl) (fun v201 => (1435, ([lX scr.1, lR 0, lR 56, lR 74, lR 75, lI x1, lI v197, lI z200.1, g3.2.2], ([sI v201], (mSH W198.1 W198.2.1, (z200.2, W198.2.2.2)))))) (fun _ => rfl) fun v201 => ?_
        refine sm_go 1 (s' := (1437, ([lX scr.1, lR 0, lR 56, lR 74, lR 75, lI x1, lI v197, lI z200.1, g3.2.2], ([sI v197, sI v201], (mSH W198.1 W198.2.1, (z200.2, W198.2.2.2)))))) ?_ rfl
        refine sm_if2 (t := (ieq v201 v197)) (pt := 1442) rfl rfl rfl (fun _ => ?_) (fun _ => ?_)
        · refine sm_letK0 (S := fun (g202 : Unit) => (1459, ([lX scr.1, lR 0, lR 56, lR 74, lR 75, lI x1, lI v197, lI z200.1, g3.2.2], ([], (mSH W198.1 W198.2.1, (z200.2, W198.2.2.2)))))) ?_ ?_
          · intro g202
            exact sm_go 1 (hk8 (lI v197, lI z200.1, g3.2.2) (W198.1, (W198.2.1, (z200.2, W198.2.2.2)))) rfl
          · intro k203 hk203
            refine sm_go 1 (s' := (1444, ([lX scr.1, lR 0, lR 56, lR 74, lR 75, lI x1, lI v197, lI z200.1, g3.2.2], ([sI v197], (mSH W198.1 W198.2.1, (z200.2, W198.2.2.2)))))) ?_ rfl
            refine sm_if1n (t := (ieq v197 0)) (pt := 1459) rfl rfl rfl (fun _ => ?_) (fun _ => ?_)
            · refine sm_go 2 (s' := (1449, ([lX scr.1, lR 0, lR 56, lR 74, lR 75, lI x1, lI v197, lI z200.1, g3.2.2], ([sI 0, sR 74], (mSH W198.1 W198.2.1, (z200.2, W198.2.2.2)))))) ?_ rfl
              refine sm_lld rfl rfl fun v204 => ?_
              refine sm_go 3 (s' := (1454, ([lX scr.1, lR 0, lR 56, lR 74, lR 75, lI x1, lI v197, lI z200.1, g3.2.2], ([sI (lcmpI v204 (w32 z200.1))], (mSH W198.1 W198.2.1, (z200.2, W198.2.2.2)))))) ?_ rfl
              refine sm_if1 (t := (ieq (lcmpI v204 (w32 z200.1)) 0)) (pt := 1459) rfl rfl rfl (fun _ => ?_) (fun _ => ?_)
              · exact hk203 ()
              · refine sm_go 1 (s' := (1458, ([lX scr.1, lR 0, lR 56, lR 74, lR 75, lI x1, lI v197, lI z200.1, g3.2.2], ([sI 0], (mSH W198.1 W198.2.1, (z200.2, W198.2.2.2)))))) ?_ rfl
                exact sm_retB1 (b := false) rfl rfl
            · exact hk203 ()
        · refine sm_go 1 (s' := (1441, ([lX scr.1, lR 0, lR 56, lR 74, lR 75, lI x1, lI v197, lI z200.1, g3.2.2], ([sI 0], (mSH W198.1 W198.2.1, (z200.2, W198.2.2.2)))))) ?_ rfl
          exact sm_retB1 (b := false) rfl rfl
      refine sm_sw (fun hw19 => ?_) (fun hw19 => ?_)
      · refine sm_swC (pt := 1462) hw19 rfl rfl ?_
        refine sm_go 5 (s' := (1468, ([lX scr.1, lR 0, lR 56, lR 74, lR 75, lI x1, g3.1, g3.2.1, g3.2.2], ([sI (x1 + 1), sX scr.1, sR 0], (mSH W2.1 W2.2.1, (W2.2.2.1, W2.2.2.2)))))) ?_ rfl
        refine sm_xld rfl fun v205 => ?_
        refine sm_go 1 (s' := (1470, ([lX scr.1, lR 0, lR 56, lR 74, lR 75, lI x1, g3.1, g3.2.1, g3.2.2], ([sR 74, sI v205, sR 0], (mSH W2.1 W2.2.1, (W2.2.2.1, W2.2.2.2)))))) ?_ rfl
        refine sm_notB (rest := []) (T_L_value scr (d + 12) W2 v205) rfl (Or.inr (Or.inl rfl)) rfl rfl rfl rfl (fun _ _ => rfl) (fun v206 W207 => (1473, ([lX scr.1, lR 0, lR 56, lR 74, lR 75, lI x1, g3.1, g3.2.1, g3.2.2], ([sI v206], (mSH W207.1 W207.2.1, (W207.2.2.1, W207.2.2.2)))))) (fun _ _ => rfl) fun v206 W207 => ?_
        refine sm_go 6 (s' := (1481, ([lX scr.1, lR 0, lR 56, lR 74, lR 75, lI x1, lI v206, g3.2.1, g3.2.2], ([sI (x1 + 1), sX scr.1, sR 56], (mSH W207.1 W207.2.1, (W207.2.2.1, W207.2.2.2)))))) ?_ rfl
        refine sm_xld rfl fun v208 => ?_
        refine sm_callG (rest := []) (T_X11_value scr (d + 11) W207.1 W207.2.1 W207.2.2.2 W207.2.2.1 v208) rfl (Or.inl rfl) rfl rfl rfl rfl (fun _ => rfl) (fun z209 => (1485, ([lX scr.1, lR 0, lR 56, lR 74, lR 75, lI x1, lI v206, g3.2.1, g3.2.2], ([sI z209.1], (mSH W207.1 W207.2.1, (z209.2, W207.2.2.2)))))) (fun _ => rfl) fun z209 => ?_
        refine sm_go 2 (s' := (1488, ([lX scr.1, lR 0, lR 56, lR 74, lR 75, lI x1, lI v206, lI z209.1, g3.2.2], ([sR 56], (mSH W207.1 W207.2.1, (z209.2, W207.2.2.2)))))) ?_ rfl
        refine sm_callG (rest := []) (T_X11_thrown scr (d + 17) W207.1 W207.2.1 W207.2.2.2 z209.2) rfl (Or.inl rfl) rfl rfl rfl rfl (fun _ => rfl) (fun v210 => (1491, ([lX scr.1, lR 0, lR 56, lR 74, lR 75, lI x1, lI v206, lI z209.1, g3.2.2], ([sI v210], (mSH W207.1 W207.2.1, (z209.2, W207.2.2.2)))))) (fun _ => rfl) fun v210 => ?_
        refine sm_go 1 (s' := (1493, ([lX scr.1, lR 0, lR 56, lR 74, lR 75, lI x1, lI v206, lI z209.1, g3.2.2], ([sI v206, sI v210], (mSH W207.1 W207.2.1, (z209.2, W207.2.2.2)))))) ?_ rfl
        refine sm_if2 (t := (ieq v210 v206)) (pt := 1498) rfl rfl rfl (fun _ => ?_) (fun _ => ?_)
        · refine sm_letK0 (S := fun (g211 : Unit) => (1515, ([lX scr.1, lR 0, lR 56, lR 74, lR 75, lI x1, lI v206, lI z209.1, g3.2.2], ([], (mSH W207.1 W207.2.1, (z209.2, W207.2.2.2)))))) ?_ ?_
          · intro g211
            exact sm_go 1 (hk8 (lI v206, lI z209.1, g3.2.2) (W207.1, (W207.2.1, (z209.2, W207.2.2.2)))) rfl
          · intro k212 hk212
            refine sm_go 1 (s' := (1500, ([lX scr.1, lR 0, lR 56, lR 74, lR 75, lI x1, lI v206, lI z209.1, g3.2.2], ([sI v206], (mSH W207.1 W207.2.1, (z209.2, W207.2.2.2)))))) ?_ rfl
            refine sm_if1n (t := (ieq v206 0)) (pt := 1515) rfl rfl rfl (fun _ => ?_) (fun _ => ?_)
            · refine sm_go 2 (s' := (1505, ([lX scr.1, lR 0, lR 56, lR 74, lR 75, lI x1, lI v206, lI z209.1, g3.2.2], ([sI 0, sR 74], (mSH W207.1 W207.2.1, (z209.2, W207.2.2.2)))))) ?_ rfl
              refine sm_lld rfl rfl fun v213 => ?_
              refine sm_go 3 (s' := (1510, ([lX scr.1, lR 0, lR 56, lR 74, lR 75, lI x1, lI v206, lI z209.1, g3.2.2], ([sI (lcmpI v213 (w32 z209.1))], (mSH W207.1 W207.2.1, (z209.2, W207.2.2.2)))))) ?_ rfl
              refine sm_if1 (t := (ieq (lcmpI v213 (w32 z209.1)) 0)) (pt := 1515) rfl rfl rfl (fun _ => ?_) (fun _ => ?_)
              · exact hk212 ()
              · refine sm_go 1 (s' := (1514, ([lX scr.1, lR 0, lR 56, lR 74, lR 75, lI x1, lI v206, lI z209.1, g3.2.2], ([sI 0], (mSH W207.1 W207.2.1, (z209.2, W207.2.2.2)))))) ?_ rfl
                exact sm_retB1 (b := false) rfl rfl
            · exact hk212 ()
        · refine sm_go 1 (s' := (1497, ([lX scr.1, lR 0, lR 56, lR 74, lR 75, lI x1, lI v206, lI z209.1, g3.2.2], ([sI 0], (mSH W207.1 W207.2.1, (z209.2, W207.2.2.2)))))) ?_ rfl
          exact sm_retB1 (b := false) rfl rfl
      refine sm_sw (fun hw20 => ?_) (fun hw20 => ?_)
      · refine sm_swC (pt := 1518) hw20 rfl rfl ?_
        refine sm_go 1 (s' := (1519, ([lX scr.1, lR 0, lR 56, lR 74, lR 75, lI x1, g3.1, g3.2.1, g3.2.2], ([sR 0], (mSH W2.1 W2.2.1, (W2.2.2.1, W2.2.2.2)))))) ?_ rfl
        refine sm_callG (rest := []) (T_X10_bound scr (d + 15) W2.1 W2.2.1 W2.2.2.2 W2.2.2.1) rfl (Or.inl rfl) rfl rfl rfl rfl (fun _ => rfl) (fun v214 => (1522, ([lX scr.1, lR 0, lR 56, lR 74, lR 75, lI x1, g3.1, g3.2.1, g3.2.2], ([sI v214], (mSH W2.1 W2.2.1, (W2.2.2.1, W2.2.2.2)))))) (fun _ => rfl) fun v214 => ?_
        refine sm_go 1 (s' := (1523, ([lX scr.1, lR 0, lR 56, lR 74, lR 75, lI x1, g3.1, g3.2.1, g3.2.2], ([sR 56, sI v214], (mSH W2.1 W2.2.1, (W2.2.2.1, W2.2.2.2)))))) ?_ rfl
        refine sm_callG (rest := [sI v214]) (T_X11_bound scr (d + 13) W2.1 W2.2.1 W2.2.2.2 W2.2.2.1) rfl (Or.inl rfl) rfl rfl rfl rfl (fun _ => rfl) (fun z215 => (1526, ([lX scr.1, lR 0, lR 56, lR 74, lR 75, lI x1, g3.1, g3.2.1, g3.2.2], ([sI z215.1, sI v214], (mSH W2.1 W2.2.1, (z215.2, W2.2.2.2)))))) (fun _ => rfl) fun z215 => ?_
        refine sm_if2 (t := (ieq v214 z215.1)) (pt := 2659) rfl rfl rfl (fun _ => ?_) (fun _ => ?_)
        · exact hk8 (g3.1, g3.2.1, g3.2.2) (W2.1, (W2.2.1, (z215.2, W2.2.2.2)))
        · refine sm_go 1 (s' := (1530, ([lX scr.1, lR 0, lR 56, lR 74, lR 75, lI x1, g3.1, g3.2.1, g3.2.2], ([sI 0], (mSH W2.1 W2.2.1, (z215.2, W2.2.2.2)))))) ?_ rfl
          exact sm_retB1 (b := false) rfl rfl
      refine sm_sw (fun hw21 => ?_) (fun hw21 => ?_)
      · refine sm_swC (pt := 1531) hw21 rfl rfl ?_
        refine sm_go 5 (s' := (1537, ([lX scr.1, lR 0, lR 56, lR 74, lR 75, lI x1, g3.1, g3.2.1, g3.2.2], ([sI (x1 + 1), sX scr.1, sR 0], (mSH W2.1 W2.2.1, (W2.2.2.1, W2.2.2.2)))))) ?_ rfl
        refine sm_xld rfl fun v216 => ?_
        refine sm_go 4 (s' := (1543, ([lX scr.1, lR 0, lR 56, lR 74, lR 75, lI x1, g3.1, g3.2.1, g3.2.2], ([sI (x1 + 2), sX scr.1, sI v216, sR 0], (mSH W2.1 W2.2.1, (W2.2.2.1, W2.2.2.2)))))) ?_ rfl
        refine sm_xld rfl fun v217 => ?_
        refine sm_go 1 (s' := (1545, ([lX scr.1, lR 0, lR 56, lR 74, lR 75, lI x1, g3.1, g3.2.1, g3.2.2], ([sR 74, sI v217, sI v216, sR 0], (mSH W2.1 W2.2.1, (W2.2.2.1, W2.2.2.2)))))) ?_ rfl
        refine sm_notB (rest := []) (T_L_orderAt scr (d + 15) W2 v216 v217) rfl (Or.inr (Or.inl rfl)) rfl rfl rfl rfl (fun _ _ => rfl) (fun v218 W219 => (1548, ([lX scr.1, lR 0, lR 56, lR 74, lR 75, lI x1, g3.1, g3.2.1, g3.2.2], ([sI v218], (mSH W219.1 W219.2.1, (W219.2.2.1, W219.2.2.2)))))) (fun _ _ => rfl) fun v218 W219 => ?_
        refine sm_go 6 (s' := (1556, ([lX scr.1, lR 0, lR 56, lR 74, lR 75, lI x1, lI v218, g3.2.1, g3.2.2], ([sI (x1 + 1), sX scr.1, sR 56], (mSH W219.1 W219.2.1, (W219.2.2.1, W219.2.2.2)))))) ?_ rfl
        refine sm_xld rfl fun v220 => ?_
        refine sm_go 4 (s' := (1562, ([lX scr.1, lR 0, lR 56, lR 74, lR 75, lI x1, lI v218, g3.2.1, g3.2.2], ([sI (x1 + 2), sX scr.1, sI v220, sR 56], (mSH W219.1 W219.2.1, (W219.2.2.1, W219.2.2.2)))))) ?_ rfl
        refine sm_xld rfl fun v221 => ?_
        refine sm_callG (rest := []) (T_X11_orderAt scr (d + 16) W219.1 W219.2.1 W219.2.2.2 W219.2.2.1 v220 v221) rfl (Or.inl rfl) rfl rfl rfl rfl (fun _ => rfl) (fun z222 => (1566, ([lX scr.1, lR 0, lR 56, lR 74, lR 75, lI x1, lI v218, g3.2.1, g3.2.2], ([sI z222.1], (mSH W219.1 W219.2.1, (z222.2, W219.2.2.2)))))) (fun _ => rfl) fun z222 => ?_
        refine sm_go 2 (s' := (1569, ([lX scr.1, lR 0, lR 56, lR 74, lR 75, lI x1, lI v218, lI z222.1, g3.2.2], ([sR 56], (mSH W219.1 W219.2.1, (z222.2, W219.2.2.2)))))) ?_ rfl
        refine sm_callG (rest := []) (T_X11_thrown scr (d + 17) W219.1 W219.2.1 W219.2.2.2 z222.2) rfl (Or.inl rfl) rfl rfl rfl rfl (fun _ => rfl) (fun v223 => (1572, ([lX scr.1, lR 0, lR 56, lR 74, lR 75, lI x1, lI v218, lI z222.1, g3.2.2], ([sI v223], (mSH W219.1 W219.2.1, (z222.2, W219.2.2.2)))))) (fun _ => rfl) fun v223 => ?_
        refine sm_go 1 (s' := (1574, ([lX scr.1, lR 0, lR 56, lR 74, lR 75, lI x1, lI v218, lI z222.1, g3.2.2], ([sI v218, sI v223], (mSH W219.1 W219.2.1, (z222.2, W219.2.2.2)))))) ?_ rfl
        refine sm_if2 (t := (ieq v223 v218)) (pt := 1579) rfl rfl rfl (fun _ => ?_) (fun _ => ?_)
        · refine sm_letK0 (S := fun (g224 : Unit) => (1596, ([lX scr.1, lR 0, lR 56, lR 74, lR 75, lI x1, lI v218, lI z222.1, g3.2.2], ([], (mSH W219.1 W219.2.1, (z222.2, W219.2.2.2)))))) ?_ ?_
          · intro g224
            exact sm_go 1 (hk8 (lI v218, lI z222.1, g3.2.2) (W219.1, (W219.2.1, (z222.2, W219.2.2.2)))) rfl
          · intro k225 hk225
            refine sm_go 1 (s' := (1581, ([lX scr.1, lR 0, lR 56, lR 74, lR 75, lI x1, lI v218, lI z222.1, g3.2.2], ([sI v218], (mSH W219.1 W219.2.1, (z222.2, W219.2.2.2)))))) ?_ rfl
            refine sm_if1n (t := (ieq v218 0)) (pt := 1596) rfl rfl rfl (fun _ => ?_) (fun _ => ?_)
            · refine sm_go 2 (s' := (1586, ([lX scr.1, lR 0, lR 56, lR 74, lR 75, lI x1, lI v218, lI z222.1, g3.2.2], ([sI 0, sR 74], (mSH W219.1 W219.2.1, (z222.2, W219.2.2.2)))))) ?_ rfl
              refine sm_lld rfl rfl fun v226 => ?_
              refine sm_go 3 (s' := (1591, ([lX scr.1, lR 0, lR 56, lR 74, lR 75, lI x1, lI v218, lI z222.1, g3.2.2], ([sI (lcmpI v226 (w32 z222.1))], (mSH W219.1 W219.2.1, (z222.2, W219.2.2.2)))))) ?_ rfl
              refine sm_if1 (t := (ieq (lcmpI v226 (w32 z222.1)) 0)) (pt := 1596) rfl rfl rfl (fun _ => ?_) (fun _ => ?_)
              · exact hk225 ()
              · refine sm_go 1 (s' := (1595, ([lX scr.1, lR 0, lR 56, lR 74, lR 75, lI x1, lI v218, lI z222.1, g3.2.2], ([sI 0], (mSH W219.1 W219.2.1, (z222.2, W219.2.2.2)))))) ?_ rfl
                exact sm_retB1 (b := false) rfl rfl
            · exact hk225 ()
        · refine sm_go 1 (s' := (1578, ([lX scr.1, lR 0, lR 56, lR 74, lR 75, lI x1, lI v218, lI z222.1, g3.2.2], ([sI 0], (mSH W219.1 W219.2.1, (z222.2, W219.2.2.2)))))) ?_ rfl
          exact sm_retB1 (b := false) rfl rfl
      refine sm_sw (fun hw22 => ?_) (fun hw22 => ?_)
      · refine sm_swC (pt := 1599) hw22 rfl rfl ?_
        refine sm_go 5 (s' := (1605, ([lX scr.1, lR 0, lR 56, lR 74, lR 75, lI x1, g3.1, g3.2.1, g3.2.2], ([sI (x1 + 1), sX scr.1, sR 0], (mSH W2.1 W2.2.1, (W2.2.2.1, W2.2.2.2)))))) ?_ rfl
        refine sm_xld rfl fun v227 => ?_
        refine sm_go 4 (s' := (1611, ([lX scr.1, lR 0, lR 56, lR 74, lR 75, lI x1, g3.1, g3.2.1, g3.2.2], ([sI (x1 + 2), sX scr.1, sI v227, sR 0], (mSH W2.1 W2.2.1, (W2.2.2.1, W2.2.2.2)))))) ?_ rfl
        refine sm_xld rfl fun v228 => ?_
        refine sm_go 1 (s' := (1613, ([lX scr.1, lR 0, lR 56, lR 74, lR 75, lI x1, g3.1, g3.2.1, g3.2.2], ([sR 74, sI v228, sI v227, sR 0], (mSH W2.1 W2.2.1, (W2.2.2.1, W2.2.2.2)))))) ?_ rfl
        refine sm_notB (rest := []) (T_L_doneIn scr (d + 15) W2 v227 v228) rfl (Or.inr (Or.inl rfl)) rfl rfl rfl rfl (fun _ _ => rfl) (fun v229 W230 => (1616, ([lX scr.1, lR 0, lR 56, lR 74, lR 75, lI x1, g3.1, g3.2.1, g3.2.2], ([sI v229], (mSH W230.1 W230.2.1, (W230.2.2.1, W230.2.2.2)))))) (fun _ _ => rfl) fun v229 W230 => ?_
        refine sm_go 6 (s' := (1624, ([lX scr.1, lR 0, lR 56, lR 74, lR 75, lI x1, lI v229, g3.2.1, g3.2.2], ([sI (x1 + 1), sX scr.1, sR 56], (mSH W230.1 W230.2.1, (W230.2.2.1, W230.2.2.2)))))) ?_ rfl
        refine sm_xld rfl fun v231 => ?_
        refine sm_go 4 (s' := (1630, ([lX scr.1, lR 0, lR 56, lR 74, lR 75, lI x1, lI v229, g3.2.1, g3.2.2], ([sI (x1 + 2), sX scr.1, sI v231, sR 56], (mSH W230.1 W230.2.1, (W230.2.2.1, W230.2.2.2)))))) ?_ rfl
        refine sm_xld rfl fun v232 => ?_
        refine sm_callG (rest := []) (T_X11_doneIn scr (d + 11) W230.1 W230.2.1 W230.2.2.2 W230.2.2.1 v231 v232) rfl (Or.inl rfl) rfl rfl rfl rfl (fun _ => rfl) (fun z233 => (1634, ([lX scr.1, lR 0, lR 56, lR 74, lR 75, lI x1, lI v229, g3.2.1, g3.2.2], ([sI z233.1], (mSH W230.1 W230.2.1, (z233.2, W230.2.2.2)))))) (fun _ => rfl) fun z233 => ?_
        refine sm_go 2 (s' := (1637, ([lX scr.1, lR 0, lR 56, lR 74, lR 75, lI x1, lI v229, lI z233.1, g3.2.2], ([sR 56], (mSH W230.1 W230.2.1, (z233.2, W230.2.2.2)))))) ?_ rfl
        refine sm_callG (rest := []) (T_X11_thrown scr (d + 17) W230.1 W230.2.1 W230.2.2.2 z233.2) rfl (Or.inl rfl) rfl rfl rfl rfl (fun _ => rfl) (fun v234 => (1640, ([lX scr.1, lR 0, lR 56, lR 74, lR 75, lI x1, lI v229, lI z233.1, g3.2.2], ([sI v234], (mSH W230.1 W230.2.1, (z233.2, W230.2.2.2)))))) (fun _ => rfl) fun v234 => ?_
        refine sm_go 1 (s' := (1642, ([lX scr.1, lR 0, lR 56, lR 74, lR 75, lI x1, lI v229, lI z233.1, g3.2.2], ([sI v229, sI v234], (mSH W230.1 W230.2.1, (z233.2, W230.2.2.2)))))) ?_ rfl
        refine sm_if2 (t := (ieq v234 v229)) (pt := 1647) rfl rfl rfl (fun _ => ?_) (fun _ => ?_)
        · refine sm_letK0 (S := fun (g235 : Unit) => (1664, ([lX scr.1, lR 0, lR 56, lR 74, lR 75, lI x1, lI v229, lI z233.1, g3.2.2], ([], (mSH W230.1 W230.2.1, (z233.2, W230.2.2.2)))))) ?_ ?_
          · intro g235
            exact sm_go 1 (hk8 (lI v229, lI z233.1, g3.2.2) (W230.1, (W230.2.1, (z233.2, W230.2.2.2)))) rfl
          · intro k236 hk236
            refine sm_go 1 (s' := (1649, ([lX scr.1, lR 0, lR 56, lR 74, lR 75, lI x1, lI v229, lI z233.1, g3.2.2], ([sI v229], (mSH W230.1 W230.2.1, (z233.2, W230.2.2.2)))))) ?_ rfl
            refine sm_if1n (t := (ieq v229 0)) (pt := 1664) rfl rfl rfl (fun _ => ?_) (fun _ => ?_)
            · refine sm_go 2 (s' := (1654, ([lX scr.1, lR 0, lR 56, lR 74, lR 75, lI x1, lI v229, lI z233.1, g3.2.2], ([sI 0, sR 74], (mSH W230.1 W230.2.1, (z233.2, W230.2.2.2)))))) ?_ rfl
              refine sm_lld rfl rfl fun v237 => ?_
              refine sm_go 3 (s' := (1659, ([lX scr.1, lR 0, lR 56, lR 74, lR 75, lI x1, lI v229, lI z233.1, g3.2.2], ([sI (lcmpI v237 (w32 z233.1))], (mSH W230.1 W230.2.1, (z233.2, W230.2.2.2)))))) ?_ rfl
              refine sm_if1 (t := (ieq (lcmpI v237 (w32 z233.1)) 0)) (pt := 1664) rfl rfl rfl (fun _ => ?_) (fun _ => ?_)
              · exact hk236 ()
              · refine sm_go 1 (s' := (1663, ([lX scr.1, lR 0, lR 56, lR 74, lR 75, lI x1, lI v229, lI z233.1, g3.2.2], ([sI 0], (mSH W230.1 W230.2.1, (z233.2, W230.2.2.2)))))) ?_ rfl
                exact sm_retB1 (b := false) rfl rfl
            · exact hk236 ()
        · refine sm_go 1 (s' := (1646, ([lX scr.1, lR 0, lR 56, lR 74, lR 75, lI x1, lI v229, lI z233.1, g3.2.2], ([sI 0], (mSH W230.1 W230.2.1, (z233.2, W230.2.2.2)))))) ?_ rfl
          exact sm_retB1 (b := false) rfl rfl
      refine sm_sw (fun hw23 => ?_) (fun hw23 => ?_)
      · refine sm_swC (pt := 1667) hw23 rfl rfl ?_
        refine sm_go 2 (s' := (1669, ([lX scr.1, lR 0, lR 56, lR 74, lR 75, lI x1, g3.1, g3.2.1, g3.2.2], ([sR 74, sR 0], (mSH W2.1 W2.2.1, (W2.2.2.1, W2.2.2.2)))))) ?_ rfl
        refine sm_notB (rest := []) (T_L_wayLength scr (d + 13) W2) rfl (Or.inr (Or.inl rfl)) rfl rfl rfl rfl (fun _ _ => rfl) (fun v238 W239 => (1672, ([lX scr.1, lR 0, lR 56, lR 74, lR 75, lI x1, g3.1, g3.2.1, g3.2.2], ([sI v238], (mSH W239.1 W239.2.1, (W239.2.2.1, W239.2.2.2)))))) (fun _ _ => rfl) fun v238 W239 => ?_
        refine sm_go 2 (s' := (1675, ([lX scr.1, lR 0, lR 56, lR 74, lR 75, lI x1, lI v238, g3.2.1, g3.2.2], ([sR 56], (mSH W239.1 W239.2.1, (W239.2.2.1, W239.2.2.2)))))) ?_ rfl
        refine sm_callG (rest := []) (T_X11_wayLength scr (d + 11) W239.1 W239.2.1 W239.2.2.2 W239.2.2.1) rfl (Or.inl rfl) rfl rfl rfl rfl (fun _ => rfl) (fun z240 => (1678, ([lX scr.1, lR 0, lR 56, lR 74, lR 75, lI x1, lI v238, g3.2.1, g3.2.2], ([sI z240.1], (mSH W239.1 W239.2.1, (z240.2, W239.2.2.2)))))) (fun _ => rfl) fun z240 => ?_
        refine sm_go 2 (s' := (1681, ([lX scr.1, lR 0, lR 56, lR 74, lR 75, lI x1, lI v238, lI z240.1, g3.2.2], ([sR 56], (mSH W239.1 W239.2.1, (z240.2, W239.2.2.2)))))) ?_ rfl
        refine sm_callG (rest := []) (T_X11_thrown scr (d + 17) W239.1 W239.2.1 W239.2.2.2 z240.2) rfl (Or.inl rfl) rfl rfl rfl rfl (fun _ => rfl) (fun v241 => (1684, ([lX scr.1, lR 0, lR 56, lR 74, lR 75, lI x1, lI v238, lI z240.1, g3.2.2], ([sI v241], (mSH W239.1 W239.2.1, (z240.2, W239.2.2.2)))))) (fun _ => rfl) fun v241 => ?_
        refine sm_go 1 (s' := (1686, ([lX scr.1, lR 0, lR 56, lR 74, lR 75, lI x1, lI v238, lI z240.1, g3.2.2], ([sI v238, sI v241], (mSH W239.1 W239.2.1, (z240.2, W239.2.2.2)))))) ?_ rfl
        refine sm_if2 (t := (ieq v241 v238)) (pt := 1691) rfl rfl rfl (fun _ => ?_) (fun _ => ?_)
        · refine sm_letK0 (S := fun (g242 : Unit) => (1708, ([lX scr.1, lR 0, lR 56, lR 74, lR 75, lI x1, lI v238, lI z240.1, g3.2.2], ([], (mSH W239.1 W239.2.1, (z240.2, W239.2.2.2)))))) ?_ ?_
          · intro g242
            exact sm_go 1 (hk8 (lI v238, lI z240.1, g3.2.2) (W239.1, (W239.2.1, (z240.2, W239.2.2.2)))) rfl
          · intro k243 hk243
            refine sm_go 1 (s' := (1693, ([lX scr.1, lR 0, lR 56, lR 74, lR 75, lI x1, lI v238, lI z240.1, g3.2.2], ([sI v238], (mSH W239.1 W239.2.1, (z240.2, W239.2.2.2)))))) ?_ rfl
            refine sm_if1n (t := (ieq v238 0)) (pt := 1708) rfl rfl rfl (fun _ => ?_) (fun _ => ?_)
            · refine sm_go 2 (s' := (1698, ([lX scr.1, lR 0, lR 56, lR 74, lR 75, lI x1, lI v238, lI z240.1, g3.2.2], ([sI 0, sR 74], (mSH W239.1 W239.2.1, (z240.2, W239.2.2.2)))))) ?_ rfl
              refine sm_lld rfl rfl fun v244 => ?_
              refine sm_go 3 (s' := (1703, ([lX scr.1, lR 0, lR 56, lR 74, lR 75, lI x1, lI v238, lI z240.1, g3.2.2], ([sI (lcmpI v244 (w32 z240.1))], (mSH W239.1 W239.2.1, (z240.2, W239.2.2.2)))))) ?_ rfl
              refine sm_if1 (t := (ieq (lcmpI v244 (w32 z240.1)) 0)) (pt := 1708) rfl rfl rfl (fun _ => ?_) (fun _ => ?_)
              · exact hk243 ()
              · refine sm_go 1 (s' := (1707, ([lX scr.1, lR 0, lR 56, lR 74, lR 75, lI x1, lI v238, lI z240.1, g3.2.2], ([sI 0], (mSH W239.1 W239.2.1, (z240.2, W239.2.2.2)))))) ?_ rfl
                exact sm_retB1 (b := false) rfl rfl
            · exact hk243 ()
        · refine sm_go 1 (s' := (1690, ([lX scr.1, lR 0, lR 56, lR 74, lR 75, lI x1, lI v238, lI z240.1, g3.2.2], ([sI 0], (mSH W239.1 W239.2.1, (z240.2, W239.2.2.2)))))) ?_ rfl
          exact sm_retB1 (b := false) rfl rfl
      refine sm_sw (fun hw24 => ?_) (fun hw24 => ?_)
      · refine sm_swC (pt := 1711) hw24 rfl rfl ?_
        refine sm_go 5 (s' := (1717, ([lX scr.1, lR 0, lR 56, lR 74, lR 75, lI x1, g3.1, g3.2.1, g3.2.2], ([sI (x1 + 1), sX scr.1, sR 0], (mSH W2.1 W2.2.1, (W2.2.2.1, W2.2.2.2)))))) ?_ rfl
        refine sm_xld rfl fun v245 => ?_
        refine sm_go 1 (s' := (1719, ([lX scr.1, lR 0, lR 56, lR 74, lR 75, lI x1, g3.1, g3.2.1, g3.2.2], ([sR 74, sI v245, sR 0], (mSH W2.1 W2.2.1, (W2.2.2.1, W2.2.2.2)))))) ?_ rfl
        refine sm_notB (rest := []) (T_L_wayAt scr (d + 13) W2 v245) rfl (Or.inr (Or.inl rfl)) rfl rfl rfl rfl (fun _ _ => rfl) (fun v246 W247 => (1722, ([lX scr.1, lR 0, lR 56, lR 74, lR 75, lI x1, g3.1, g3.2.1, g3.2.2], ([sI v246], (mSH W247.1 W247.2.1, (W247.2.2.1, W247.2.2.2)))))) (fun _ _ => rfl) fun v246 W247 => ?_
        refine sm_go 6 (s' := (1730, ([lX scr.1, lR 0, lR 56, lR 74, lR 75, lI x1, lI v246, g3.2.1, g3.2.2], ([sI (x1 + 1), sX scr.1, sR 56], (mSH W247.1 W247.2.1, (W247.2.2.1, W247.2.2.2)))))) ?_ rfl
        refine sm_xld rfl fun v248 => ?_
        refine sm_callG (rest := []) (T_X11_wayAt scr (d + 11) W247.1 W247.2.1 W247.2.2.2 W247.2.2.1 v248) rfl (Or.inl rfl) rfl rfl rfl rfl (fun _ => rfl) (fun z249 => (1734, ([lX scr.1, lR 0, lR 56, lR 74, lR 75, lI x1, lI v246, g3.2.1, g3.2.2], ([sI z249.1], (mSH W247.1 W247.2.1, (z249.2, W247.2.2.2)))))) (fun _ => rfl) fun z249 => ?_
        refine sm_go 2 (s' := (1737, ([lX scr.1, lR 0, lR 56, lR 74, lR 75, lI x1, lI v246, lI z249.1, g3.2.2], ([sR 56], (mSH W247.1 W247.2.1, (z249.2, W247.2.2.2)))))) ?_ rfl
        refine sm_callG (rest := []) (T_X11_thrown scr (d + 17) W247.1 W247.2.1 W247.2.2.2 z249.2) rfl (Or.inl rfl) rfl rfl rfl rfl (fun _ => rfl) (fun v250 => (1740, ([lX scr.1, lR 0, lR 56, lR 74, lR 75, lI x1, lI v246, lI z249.1, g3.2.2], ([sI v250], (mSH W247.1 W247.2.1, (z249.2, W247.2.2.2)))))) (fun _ => rfl) fun v250 => ?_
        refine sm_go 1 (s' := (1742, ([lX scr.1, lR 0, lR 56, lR 74, lR 75, lI x1, lI v246, lI z249.1, g3.2.2], ([sI v246, sI v250], (mSH W247.1 W247.2.1, (z249.2, W247.2.2.2)))))) ?_ rfl
        refine sm_if2 (t := (ieq v250 v246)) (pt := 1747) rfl rfl rfl (fun _ => ?_) (fun _ => ?_)
        · refine sm_letK0 (S := fun (g251 : Unit) => (1764, ([lX scr.1, lR 0, lR 56, lR 74, lR 75, lI x1, lI v246, lI z249.1, g3.2.2], ([], (mSH W247.1 W247.2.1, (z249.2, W247.2.2.2)))))) ?_ ?_
          · intro g251
            exact sm_go 1 (hk8 (lI v246, lI z249.1, g3.2.2) (W247.1, (W247.2.1, (z249.2, W247.2.2.2)))) rfl
          · intro k252 hk252
            refine sm_go 1 (s' := (1749, ([lX scr.1, lR 0, lR 56, lR 74, lR 75, lI x1, lI v246, lI z249.1, g3.2.2], ([sI v246], (mSH W247.1 W247.2.1, (z249.2, W247.2.2.2)))))) ?_ rfl
            refine sm_if1n (t := (ieq v246 0)) (pt := 1764) rfl rfl rfl (fun _ => ?_) (fun _ => ?_)
            · refine sm_go 2 (s' := (1754, ([lX scr.1, lR 0, lR 56, lR 74, lR 75, lI x1, lI v246, lI z249.1, g3.2.2], ([sI 0, sR 74], (mSH W247.1 W247.2.1, (z249.2, W247.2.2.2)))))) ?_ rfl
              refine sm_lld rfl rfl fun v253 => ?_
              refine sm_go 3 (s' := (1759, ([lX scr.1, lR 0, lR 56, lR 74, lR 75, lI x1, lI v246, lI z249.1, g3.2.2], ([sI (lcmpI v253 (w32 z249.1))], (mSH W247.1 W247.2.1, (z249.2, W247.2.2.2)))))) ?_ rfl
              refine sm_if1 (t := (ieq (lcmpI v253 (w32 z249.1)) 0)) (pt := 1764) rfl rfl rfl (fun _ => ?_) (fun _ => ?_)
              · exact hk252 ()
              · refine sm_go 1 (s' := (1763, ([lX scr.1, lR 0, lR 56, lR 74, lR 75, lI x1, lI v246, lI z249.1, g3.2.2], ([sI 0], (mSH W247.1 W247.2.1, (z249.2, W247.2.2.2)))))) ?_ rfl
                exact sm_retB1 (b := false) rfl rfl
            · exact hk252 ()
        · refine sm_go 1 (s' := (1746, ([lX scr.1, lR 0, lR 56, lR 74, lR 75, lI x1, lI v246, lI z249.1, g3.2.2], ([sI 0], (mSH W247.1 W247.2.1, (z249.2, W247.2.2.2)))))) ?_ rfl
          exact sm_retB1 (b := false) rfl rfl
      refine sm_sw (fun hw25 => ?_) (fun hw25 => ?_)
      · refine sm_swC (pt := 1767) hw25 rfl rfl ?_
        refine sm_go 2 (s' := (1769, ([lX scr.1, lR 0, lR 56, lR 74, lR 75, lI x1, g3.1, g3.2.1, g3.2.2], ([sR 74, sR 0], (mSH W2.1 W2.2.1, (W2.2.2.1, W2.2.2.2)))))) ?_ rfl
        refine sm_notB (rest := []) (T_L_blocks scr (d + 13) W2) rfl (Or.inr (Or.inl rfl)) rfl rfl rfl rfl (fun _ _ => rfl) (fun v254 W255 => (1772, ([lX scr.1, lR 0, lR 56, lR 74, lR 75, lI x1, g3.1, g3.2.1, g3.2.2], ([sI v254], (mSH W255.1 W255.2.1, (W255.2.2.1, W255.2.2.2)))))) (fun _ _ => rfl) fun v254 W255 => ?_
        refine sm_go 2 (s' := (1775, ([lX scr.1, lR 0, lR 56, lR 74, lR 75, lI x1, lI v254, g3.2.1, g3.2.2], ([sR 56], (mSH W255.1 W255.2.1, (W255.2.2.1, W255.2.2.2)))))) ?_ rfl
        refine sm_callG (rest := []) (T_X11_blocks scr (d + 11) W255.1 W255.2.1 W255.2.2.2 W255.2.2.1) rfl (Or.inl rfl) rfl rfl rfl rfl (fun _ => rfl) (fun z256 => (1778, ([lX scr.1, lR 0, lR 56, lR 74, lR 75, lI x1, lI v254, g3.2.1, g3.2.2], ([sI z256.1], (mSH W255.1 W255.2.1, (z256.2, W255.2.2.2)))))) (fun _ => rfl) fun z256 => ?_
        refine sm_go 2 (s' := (1781, ([lX scr.1, lR 0, lR 56, lR 74, lR 75, lI x1, lI v254, lI z256.1, g3.2.2], ([sR 56], (mSH W255.1 W255.2.1, (z256.2, W255.2.2.2)))))) ?_ rfl
        refine sm_callG (rest := []) (T_X11_thrown scr (d + 17) W255.1 W255.2.1 W255.2.2.2 z256.2) rfl (Or.inl rfl) rfl rfl rfl rfl (fun _ => rfl) (fun v257 => (1784, ([lX scr.1, lR 0, lR 56, lR 74, lR 75, lI x1, lI v254, lI z256.1, g3.2.2], ([sI v257], (mSH W255.1 W255.2.1, (z256.2, W255.2.2.2)))))) (fun _ => rfl) fun v257 => ?_
        refine sm_go 1 (s' := (1786, ([lX scr.1, lR 0, lR 56, lR 74, lR 75, lI x1, lI v254, lI z256.1, g3.2.2], ([sI v254, sI v257], (mSH W255.1 W255.2.1, (z256.2, W255.2.2.2)))))) ?_ rfl
        refine sm_if2 (t := (ieq v257 v254)) (pt := 1791) rfl rfl rfl (fun _ => ?_) (fun _ => ?_)
        · refine sm_letK0 (S := fun (g258 : Unit) => (1808, ([lX scr.1, lR 0, lR 56, lR 74, lR 75, lI x1, lI v254, lI z256.1, g3.2.2], ([], (mSH W255.1 W255.2.1, (z256.2, W255.2.2.2)))))) ?_ ?_
          · intro g258
            exact sm_go 1 (hk8 (lI v254, lI z256.1, g3.2.2) (W255.1, (W255.2.1, (z256.2, W255.2.2.2)))) rfl
          · intro k259 hk259
            refine sm_go 1 (s' := (1793, ([lX scr.1, lR 0, lR 56, lR 74, lR 75, lI x1, lI v254, lI z256.1, g3.2.2], ([sI v254], (mSH W255.1 W255.2.1, (z256.2, W255.2.2.2)))))) ?_ rfl
            refine sm_if1n (t := (ieq v254 0)) (pt := 1808) rfl rfl rfl (fun _ => ?_) (fun _ => ?_)
            · refine sm_go 2 (s' := (1798, ([lX scr.1, lR 0, lR 56, lR 74, lR 75, lI x1, lI v254, lI z256.1, g3.2.2], ([sI 0, sR 74], (mSH W255.1 W255.2.1, (z256.2, W255.2.2.2)))))) ?_ rfl
              refine sm_lld rfl rfl fun v260 => ?_
              refine sm_go 3 (s' := (1803, ([lX scr.1, lR 0, lR 56, lR 74, lR 75, lI x1, lI v254, lI z256.1, g3.2.2], ([sI (lcmpI v260 (w32 z256.1))], (mSH W255.1 W255.2.1, (z256.2, W255.2.2.2)))))) ?_ rfl
              refine sm_if1 (t := (ieq (lcmpI v260 (w32 z256.1)) 0)) (pt := 1808) rfl rfl rfl (fun _ => ?_) (fun _ => ?_)
              · exact hk259 ()
              · refine sm_go 1 (s' := (1807, ([lX scr.1, lR 0, lR 56, lR 74, lR 75, lI x1, lI v254, lI z256.1, g3.2.2], ([sI 0], (mSH W255.1 W255.2.1, (z256.2, W255.2.2.2)))))) ?_ rfl
                exact sm_retB1 (b := false) rfl rfl
            · exact hk259 ()
        · refine sm_go 1 (s' := (1790, ([lX scr.1, lR 0, lR 56, lR 74, lR 75, lI x1, lI v254, lI z256.1, g3.2.2], ([sI 0], (mSH W255.1 W255.2.1, (z256.2, W255.2.2.2)))))) ?_ rfl
          exact sm_retB1 (b := false) rfl rfl
      refine sm_sw (fun hw26 => ?_) (fun hw26 => ?_)
      · refine sm_swC (pt := 1811) hw26 rfl rfl ?_
        refine sm_go 2 (s' := (1813, ([lX scr.1, lR 0, lR 56, lR 74, lR 75, lI x1, g3.1, g3.2.1, g3.2.2], ([sR 74, sR 0], (mSH W2.1 W2.2.1, (W2.2.2.1, W2.2.2.2)))))) ?_ rfl
        refine sm_notB (rest := []) (T_L_longestBlock scr (d + 13) W2) rfl (Or.inr (Or.inl rfl)) rfl rfl rfl rfl (fun _ _ => rfl) (fun v261 W262 => (1816, ([lX scr.1, lR 0, lR 56, lR 74, lR 75, lI x1, g3.1, g3.2.1, g3.2.2], ([sI v261], (mSH W262.1 W262.2.1, (W262.2.2.1, W262.2.2.2)))))) (fun _ _ => rfl) fun v261 W262 => ?_
        refine sm_go 2 (s' := (1819, ([lX scr.1, lR 0, lR 56, lR 74, lR 75, lI x1, lI v261, g3.2.1, g3.2.2], ([sR 56], (mSH W262.1 W262.2.1, (W262.2.2.1, W262.2.2.2)))))) ?_ rfl
        refine sm_callG (rest := []) (T_X11_longestBlock scr (d + 11) W262.1 W262.2.1 W262.2.2.2 W262.2.2.1) rfl (Or.inl rfl) rfl rfl rfl rfl (fun _ => rfl) (fun z263 => (1822, ([lX scr.1, lR 0, lR 56, lR 74, lR 75, lI x1, lI v261, g3.2.1, g3.2.2], ([sI z263.1], (mSH W262.1 W262.2.1, (z263.2, W262.2.2.2)))))) (fun _ => rfl) fun z263 => ?_
        refine sm_go 2 (s' := (1825, ([lX scr.1, lR 0, lR 56, lR 74, lR 75, lI x1, lI v261, lI z263.1, g3.2.2], ([sR 56], (mSH W262.1 W262.2.1, (z263.2, W262.2.2.2)))))) ?_ rfl
        refine sm_callG (rest := []) (T_X11_thrown scr (d + 17) W262.1 W262.2.1 W262.2.2.2 z263.2) rfl (Or.inl rfl) rfl rfl rfl rfl (fun _ => rfl) (fun v264 => (1828, ([lX scr.1, lR 0, lR 56, lR 74, lR 75, lI x1, lI v261, lI z263.1, g3.2.2], ([sI v264], (mSH W262.1 W262.2.1, (z263.2, W262.2.2.2)))))) (fun _ => rfl) fun v264 => ?_
        refine sm_go 1 (s' := (1830, ([lX scr.1, lR 0, lR 56, lR 74, lR 75, lI x1, lI v261, lI z263.1, g3.2.2], ([sI v261, sI v264], (mSH W262.1 W262.2.1, (z263.2, W262.2.2.2)))))) ?_ rfl
        refine sm_if2 (t := (ieq v264 v261)) (pt := 1835) rfl rfl rfl (fun _ => ?_) (fun _ => ?_)
        · refine sm_letK0 (S := fun (g265 : Unit) => (1852, ([lX scr.1, lR 0, lR 56, lR 74, lR 75, lI x1, lI v261, lI z263.1, g3.2.2], ([], (mSH W262.1 W262.2.1, (z263.2, W262.2.2.2)))))) ?_ ?_
          · intro g265
            exact sm_go 1 (hk8 (lI v261, lI z263.1, g3.2.2) (W262.1, (W262.2.1, (z263.2, W262.2.2.2)))) rfl
          · intro k266 hk266
            refine sm_go 1 (s' := (1837, ([lX scr.1, lR 0, lR 56, lR 74, lR 75, lI x1, lI v261, lI z263.1, g3.2.2], ([sI v261], (mSH W262.1 W262.2.1, (z263.2, W262.2.2.2)))))) ?_ rfl
            refine sm_if1n (t := (ieq v261 0)) (pt := 1852) rfl rfl rfl (fun _ => ?_) (fun _ => ?_)
            · refine sm_go 2 (s' := (1842, ([lX scr.1, lR 0, lR 56, lR 74, lR 75, lI x1, lI v261, lI z263.1, g3.2.2], ([sI 0, sR 74], (mSH W262.1 W262.2.1, (z263.2, W262.2.2.2)))))) ?_ rfl
              refine sm_lld rfl rfl fun v267 => ?_
              refine sm_go 3 (s' := (1847, ([lX scr.1, lR 0, lR 56, lR 74, lR 75, lI x1, lI v261, lI z263.1, g3.2.2], ([sI (lcmpI v267 (w32 z263.1))], (mSH W262.1 W262.2.1, (z263.2, W262.2.2.2)))))) ?_ rfl
              refine sm_if1 (t := (ieq (lcmpI v267 (w32 z263.1)) 0)) (pt := 1852) rfl rfl rfl (fun _ => ?_) (fun _ => ?_)
              · exact hk266 ()
              · refine sm_go 1 (s' := (1851, ([lX scr.1, lR 0, lR 56, lR 74, lR 75, lI x1, lI v261, lI z263.1, g3.2.2], ([sI 0], (mSH W262.1 W262.2.1, (z263.2, W262.2.2.2)))))) ?_ rfl
                exact sm_retB1 (b := false) rfl rfl
            · exact hk266 ()
        · refine sm_go 1 (s' := (1834, ([lX scr.1, lR 0, lR 56, lR 74, lR 75, lI x1, lI v261, lI z263.1, g3.2.2], ([sI 0], (mSH W262.1 W262.2.1, (z263.2, W262.2.2.2)))))) ?_ rfl
          exact sm_retB1 (b := false) rfl rfl
      refine sm_sw (fun hw27 => ?_) (fun hw27 => ?_)
      · refine sm_swC (pt := 1855) hw27 rfl rfl ?_
        refine sm_go 5 (s' := (1861, ([lX scr.1, lR 0, lR 56, lR 74, lR 75, lI x1, g3.1, g3.2.1, g3.2.2], ([sI (x1 + 1), sX scr.1, sR 0], (mSH W2.1 W2.2.1, (W2.2.2.1, W2.2.2.2)))))) ?_ rfl
        refine sm_xld rfl fun v268 => ?_
        refine sm_go 4 (s' := (1867, ([lX scr.1, lR 0, lR 56, lR 74, lR 75, lI x1, g3.1, g3.2.1, g3.2.2], ([sI (x1 + 2), sX scr.1, sI v268, sR 0], (mSH W2.1 W2.2.1, (W2.2.2.1, W2.2.2.2)))))) ?_ rfl
        refine sm_xld rfl fun v269 => ?_
        refine sm_go 1 (s' := (1869, ([lX scr.1, lR 0, lR 56, lR 74, lR 75, lI x1, g3.1, g3.2.1, g3.2.2], ([sR 74, sI v269, sI v268, sR 0], (mSH W2.1 W2.2.1, (W2.2.2.1, W2.2.2.2)))))) ?_ rfl
        refine sm_notB (rest := []) (T_L_slack scr (d + 11) W2 v268 v269) rfl (Or.inr (Or.inl rfl)) rfl rfl rfl rfl (fun _ _ => rfl) (fun v270 W271 => (1872, ([lX scr.1, lR 0, lR 56, lR 74, lR 75, lI x1, g3.1, g3.2.1, g3.2.2], ([sI v270], (mSH W271.1 W271.2.1, (W271.2.2.1, W271.2.2.2)))))) (fun _ _ => rfl) fun v270 W271 => ?_
        refine sm_go 6 (s' := (1880, ([lX scr.1, lR 0, lR 56, lR 74, lR 75, lI x1, lI v270, g3.2.1, g3.2.2], ([sI (x1 + 1), sX scr.1, sR 56], (mSH W271.1 W271.2.1, (W271.2.2.1, W271.2.2.2)))))) ?_ rfl
        refine sm_xld rfl fun v272 => ?_
        refine sm_go 4 (s' := (1886, ([lX scr.1, lR 0, lR 56, lR 74, lR 75, lI x1, lI v270, g3.2.1, g3.2.2], ([sI (x1 + 2), sX scr.1, sI v272, sR 56], (mSH W271.1 W271.2.1, (W271.2.2.1, W271.2.2.2)))))) ?_ rfl
        refine sm_xld rfl fun v273 => ?_
        refine sm_callG (rest := []) (T_X11_slack scr (d + 11) W271.1 W271.2.1 W271.2.2.2 W271.2.2.1 v272 v273) rfl (Or.inl rfl) rfl rfl rfl rfl (fun _ => rfl) (fun z274 => (1890, ([lX scr.1, lR 0, lR 56, lR 74, lR 75, lI x1, lI v270, g3.2.1, g3.2.2], ([sI z274.1], (mSH W271.1 W271.2.1, (z274.2, W271.2.2.2)))))) (fun _ => rfl) fun z274 => ?_
        refine sm_go 2 (s' := (1893, ([lX scr.1, lR 0, lR 56, lR 74, lR 75, lI x1, lI v270, lI z274.1, g3.2.2], ([sR 56], (mSH W271.1 W271.2.1, (z274.2, W271.2.2.2)))))) ?_ rfl
        refine sm_callG (rest := []) (T_X11_thrown scr (d + 17) W271.1 W271.2.1 W271.2.2.2 z274.2) rfl (Or.inl rfl) rfl rfl rfl rfl (fun _ => rfl) (fun v275 => (1896, ([lX scr.1, lR 0, lR 56, lR 74, lR 75, lI x1, lI v270, lI z274.1, g3.2.2], ([sI v275], (mSH W271.1 W271.2.1, (z274.2, W271.2.2.2)))))) (fun _ => rfl) fun v275 => ?_
        refine sm_go 1 (s' := (1898, ([lX scr.1, lR 0, lR 56, lR 74, lR 75, lI x1, lI v270, lI z274.1, g3.2.2], ([sI v270, sI v275], (mSH W271.1 W271.2.1, (z274.2, W271.2.2.2)))))) ?_ rfl
        refine sm_if2 (t := (ieq v275 v270)) (pt := 1903) rfl rfl rfl (fun _ => ?_) (fun _ => ?_)
        · refine sm_letK0 (S := fun (g276 : Unit) => (1920, ([lX scr.1, lR 0, lR 56, lR 74, lR 75, lI x1, lI v270, lI z274.1, g3.2.2], ([], (mSH W271.1 W271.2.1, (z274.2, W271.2.2.2)))))) ?_ ?_
          · intro g276
            exact sm_go 1 (hk8 (lI v270, lI z274.1, g3.2.2) (W271.1, (W271.2.1, (z274.2, W271.2.2.2)))) rfl
          · intro k277 hk277
            refine sm_go 1 (s' := (1905, ([lX scr.1, lR 0, lR 56, lR 74, lR 75, lI x1, lI v270, lI z274.1, g3.2.2], ([sI v270], (mSH W271.1 W271.2.1, (z274.2, W271.2.2.2)))))) ?_ rfl
            refine sm_if1n (t := (ieq v270 0)) (pt := 1920) rfl rfl rfl (fun _ => ?_) (fun _ => ?_)
            · refine sm_go 2 (s' := (1910, ([lX scr.1, lR 0, lR 56, lR 74, lR 75, lI x1, lI v270, lI z274.1, g3.2.2], ([sI 0, sR 74], (mSH W271.1 W271.2.1, (z274.2, W271.2.2.2)))))) ?_ rfl
              refine sm_lld rfl rfl fun v278 => ?_
              refine sm_go 3 (s' := (1915, ([lX scr.1, lR 0, lR 56, lR 74, lR 75, lI x1, lI v270, lI z274.1, g3.2.2], ([sI (lcmpI v278 (w32 z274.1))], (mSH W271.1 W271.2.1, (z274.2, W271.2.2.2)))))) ?_ rfl
              refine sm_if1 (t := (ieq (lcmpI v278 (w32 z274.1)) 0)) (pt := 1920) rfl rfl rfl (fun _ => ?_) (fun _ => ?_)
              · exact hk277 ()
              · refine sm_go 1 (s' := (1919, ([lX scr.1, lR 0, lR 56, lR 74, lR 75, lI x1, lI v270, lI z274.1, g3.2.2], ([sI 0], (mSH W271.1 W271.2.1, (z274.2, W271.2.2.2)))))) ?_ rfl
                exact sm_retB1 (b := false) rfl rfl
            · exact hk277 ()
        · refine sm_go 1 (s' := (1902, ([lX scr.1, lR 0, lR 56, lR 74, lR 75, lI x1, lI v270, lI z274.1, g3.2.2], ([sI 0], (mSH W271.1 W271.2.1, (z274.2, W271.2.2.2)))))) ?_ rfl
          exact sm_retB1 (b := false) rfl rfl
      refine sm_sw (fun hw28 => ?_) (fun hw28 => ?_)
      · refine sm_swC (pt := 1923) hw28 rfl rfl ?_
        refine sm_go 5 (s' := (1929, ([lX scr.1, lR 0, lR 56, lR 74, lR 75, lI x1, g3.1, g3.2.1, g3.2.2], ([sI (x1 + 1), sX scr.1, sR 0], (mSH W2.1 W2.2.1, (W2.2.2.1, W2.2.2.2)))))) ?_ rfl
        refine sm_xld rfl fun v279 => ?_
        refine sm_go 4 (s' := (1935, ([lX scr.1, lR 0, lR 56, lR 74, lR 75, lI x1, g3.1, g3.2.1, g3.2.2], ([sI (x1 + 2), sX scr.1, sI v279, sR 0], (mSH W2.1 W2.2.1, (W2.2.2.1, W2.2.2.2)))))) ?_ rfl
        refine sm_xld rfl fun v280 => ?_
        refine sm_go 1 (s' := (1937, ([lX scr.1, lR 0, lR 56, lR 74, lR 75, lI x1, g3.1, g3.2.1, g3.2.2], ([sR 74, sI v280, sI v279, sR 0], (mSH W2.1 W2.2.1, (W2.2.2.1, W2.2.2.2)))))) ?_ rfl
        refine sm_notB (rest := []) (T_L_delay scr (d + 11) W2 v279 v280) rfl (Or.inr (Or.inl rfl)) rfl rfl rfl rfl (fun _ _ => rfl) (fun v281 W282 => (1940, ([lX scr.1, lR 0, lR 56, lR 74, lR 75, lI x1, g3.1, g3.2.1, g3.2.2], ([sI v281], (mSH W282.1 W282.2.1, (W282.2.2.1, W282.2.2.2)))))) (fun _ _ => rfl) fun v281 W282 => ?_
        refine sm_go 6 (s' := (1948, ([lX scr.1, lR 0, lR 56, lR 74, lR 75, lI x1, lI v281, g3.2.1, g3.2.2], ([sI (x1 + 1), sX scr.1, sR 56], (mSH W282.1 W282.2.1, (W282.2.2.1, W282.2.2.2)))))) ?_ rfl
        refine sm_xld rfl fun v283 => ?_
        refine sm_go 4 (s' := (1954, ([lX scr.1, lR 0, lR 56, lR 74, lR 75, lI x1, lI v281, g3.2.1, g3.2.2], ([sI (x1 + 2), sX scr.1, sI v283, sR 56], (mSH W282.1 W282.2.1, (W282.2.2.1, W282.2.2.2)))))) ?_ rfl
        refine sm_xld rfl fun v284 => ?_
        refine sm_callG (rest := []) (T_X11_delay scr (d + 11) W282.1 W282.2.1 W282.2.2.2 W282.2.2.1 v283 v284) rfl (Or.inl rfl) rfl rfl rfl rfl (fun _ => rfl) (fun z285 => (1958, ([lX scr.1, lR 0, lR 56, lR 74, lR 75, lI x1, lI v281, g3.2.1, g3.2.2], ([sI z285.1], (mSH W282.1 W282.2.1, (z285.2, W282.2.2.2)))))) (fun _ => rfl) fun z285 => ?_
        refine sm_go 2 (s' := (1961, ([lX scr.1, lR 0, lR 56, lR 74, lR 75, lI x1, lI v281, lI z285.1, g3.2.2], ([sR 56], (mSH W282.1 W282.2.1, (z285.2, W282.2.2.2)))))) ?_ rfl
        refine sm_callG (rest := []) (T_X11_thrown scr (d + 17) W282.1 W282.2.1 W282.2.2.2 z285.2) rfl (Or.inl rfl) rfl rfl rfl rfl (fun _ => rfl) (fun v286 => (1964, ([lX scr.1, lR 0, lR 56, lR 74, lR 75, lI x1, lI v281, lI z285.1, g3.2.2], ([sI v286], (mSH W282.1 W282.2.1, (z285.2, W282.2.2.2)))))) (fun _ => rfl) fun v286 => ?_
        refine sm_go 1 (s' := (1966, ([lX scr.1, lR 0, lR 56, lR 74, lR 75, lI x1, lI v281, lI z285.1, g3.2.2], ([sI v281, sI v286], (mSH W282.1 W282.2.1, (z285.2, W282.2.2.2)))))) ?_ rfl
        refine sm_if2 (t := (ieq v286 v281)) (pt := 1971) rfl rfl rfl (fun _ => ?_) (fun _ => ?_)
        · refine sm_letK0 (S := fun (g287 : Unit) => (1988, ([lX scr.1, lR 0, lR 56, lR 74, lR 75, lI x1, lI v281, lI z285.1, g3.2.2], ([], (mSH W282.1 W282.2.1, (z285.2, W282.2.2.2)))))) ?_ ?_
          · intro g287
            exact sm_go 1 (hk8 (lI v281, lI z285.1, g3.2.2) (W282.1, (W282.2.1, (z285.2, W282.2.2.2)))) rfl
          · intro k288 hk288
            refine sm_go 1 (s' := (1973, ([lX scr.1, lR 0, lR 56, lR 74, lR 75, lI x1, lI v281, lI z285.1, g3.2.2], ([sI v281], (mSH W282.1 W282.2.1, (z285.2, W282.2.2.2)))))) ?_ rfl
            refine sm_if1n (t := (ieq v281 0)) (pt := 1988) rfl rfl rfl (fun _ => ?_) (fun _ => ?_)
            · refine sm_go 2 (s' := (1978, ([lX scr.1, lR 0, lR 56, lR 74, lR 75, lI x1, lI v281, lI z285.1, g3.2.2], ([sI 0, sR 74], (mSH W282.1 W282.2.1, (z285.2, W282.2.2.2)))))) ?_ rfl
              refine sm_lld rfl rfl fun v289 => ?_
              refine sm_go 3 (s' := (1983, ([lX scr.1, lR 0, lR 56, lR 74, lR 75, lI x1, lI v281, lI z285.1, g3.2.2], ([sI (lcmpI v289 (w32 z285.1))], (mSH W282.1 W282.2.1, (z285.2, W282.2.2.2)))))) ?_ rfl
              refine sm_if1 (t := (ieq (lcmpI v289 (w32 z285.1)) 0)) (pt := 1988) rfl rfl rfl (fun _ => ?_) (fun _ => ?_)
              · exact hk288 ()
              · refine sm_go 1 (s' := (1987, ([lX scr.1, lR 0, lR 56, lR 74, lR 75, lI x1, lI v281, lI z285.1, g3.2.2], ([sI 0], (mSH W282.1 W282.2.1, (z285.2, W282.2.2.2)))))) ?_ rfl
                exact sm_retB1 (b := false) rfl rfl
            · exact hk288 ()
        · refine sm_go 1 (s' := (1970, ([lX scr.1, lR 0, lR 56, lR 74, lR 75, lI x1, lI v281, lI z285.1, g3.2.2], ([sI 0], (mSH W282.1 W282.2.1, (z285.2, W282.2.2.2)))))) ?_ rfl
          exact sm_retB1 (b := false) rfl rfl
      refine sm_sw (fun hw29 => ?_) (fun hw29 => ?_)
      · refine sm_swC (pt := 1991) hw29 rfl rfl ?_
        refine sm_go 1 (s' := (1992, ([lX scr.1, lR 0, lR 56, lR 74, lR 75, lI x1, g3.1, g3.2.1, g3.2.2], ([sR 0], (mSH W2.1 W2.2.1, (W2.2.2.1, W2.2.2.2)))))) ?_ rfl
        refine sm_callG (rest := []) (T_X10_leastSum scr (d + 14) W2.1 W2.2.1 W2.2.2.2 W2.2.2.1) rfl (Or.inl rfl) rfl rfl rfl rfl (fun _ => rfl) (fun z290 => (1995, ([lX scr.1, lR 0, lR 56, lR 74, lR 75, lI x1, g3.1, g3.2.1, g3.2.2], ([sI z290.1], (mSH W2.1 W2.2.1, (z290.2, W2.2.2.2)))))) (fun _ => rfl) fun z290 => ?_
        refine sm_go 1 (s' := (1996, ([lX scr.1, lR 0, lR 56, lR 74, lR 75, lI x1, g3.1, g3.2.1, g3.2.2], ([sR 56, sI z290.1], (mSH W2.1 W2.2.1, (z290.2, W2.2.2.2)))))) ?_ rfl
        refine sm_callG (rest := [sI z290.1]) (T_X11_leastSum scr (d + 11) W2.1 W2.2.1 W2.2.2.2 z290.2) rfl (Or.inl rfl) rfl rfl rfl rfl (fun _ => rfl) (fun z291 => (1999, ([lX scr.1, lR 0, lR 56, lR 74, lR 75, lI x1, g3.1, g3.2.1, g3.2.2], ([sI z291.1, sI z290.1], (mSH W2.1 W2.2.1, (z291.2, W2.2.2.2)))))) (fun _ => rfl) fun z291 => ?_
        refine sm_if2 (t := (ieq z290.1 z291.1)) (pt := 2659) rfl rfl rfl (fun _ => ?_) (fun _ => ?_)
        · exact hk8 (g3.1, g3.2.1, g3.2.2) (W2.1, (W2.2.1, (z291.2, W2.2.2.2)))
        · refine sm_go 1 (s' := (2003, ([lX scr.1, lR 0, lR 56, lR 74, lR 75, lI x1, g3.1, g3.2.1, g3.2.2], ([sI 0], (mSH W2.1 W2.2.1, (z291.2, W2.2.2.2)))))) ?_ rfl
          exact sm_retB1 (b := false) rfl rfl
      refine sm_sw (fun hw30 => ?_) (fun hw30 => ?_)
      · refine sm_swC (pt := 2004) hw30 rfl rfl ?_
        refine sm_go 1 (s' := (2005, ([lX scr.1, lR 0, lR 56, lR 74, lR 75, lI x1, g3.1, g3.2.1, g3.2.2], ([sR 0], (mSH W2.1 W2.2.1, (W2.2.2.1, W2.2.2.2)))))) ?_ rfl
        refine sm_callG (rest := []) (T_X10_leastLateness scr (d + 14) W2.1 W2.2.1 W2.2.2.2 W2.2.2.1) rfl (Or.inl rfl) rfl rfl rfl rfl (fun _ => rfl) (fun z292 => (2008, ([lX scr.1, lR 0, lR 56, lR 74, lR 75, lI x1, g3.1, g3.2.1, g3.2.2], ([sI z292.1], (mSH W2.1 W2.2.1, (z292.2, W2.2.2.2)))))) (fun _ => rfl) fun z292 => ?_
        refine sm_go 1 (s' := (2009, ([lX scr.1, lR 0, lR 56, lR 74, lR 75, lI x1, g3.1, g3.2.1, g3.2.2], ([sR 56, sI z292.1], (mSH W2.1 W2.2.1, (z292.2, W2.2.2.2)))))) ?_ rfl
        refine sm_callG (rest := [sI z292.1]) (T_X11_leastLateness scr (d + 11) W2.1 W2.2.1 W2.2.2.2 z292.2) rfl (Or.inl rfl) rfl rfl rfl rfl (fun _ => rfl) (fun z293 => (2012, ([lX scr.1, lR 0, lR 56, lR 74, lR 75, lI x1, g3.1, g3.2.1, g3.2.2], ([sI z293.1, sI z292.1], (mSH W2.1 W2.2.1, (z293.2, W2.2.2.2)))))) (fun _ => rfl) fun z293 => ?_
        refine sm_if2 (t := (ieq z292.1 z293.1)) (pt := 2659) rfl rfl rfl (fun _ => ?_) (fun _ => ?_)
        · exact hk8 (g3.1, g3.2.1, g3.2.2) (W2.1, (W2.2.1, (z293.2, W2.2.2.2)))
        · refine sm_go 1 (s' := (2016, ([lX scr.1, lR 0, lR 56, lR 74, lR 75, lI x1, g3.1, g3.2.1, g3.2.2], ([sI 0], (mSH W2.1 W2.2.1, (z293.2, W2.2.2.2)))))) ?_ rfl
          exact sm_retB1 (b := false) rfl rfl
      refine sm_sw (fun hw31 => ?_) (fun hw31 => ?_)
      · refine sm_swC (pt := 2017) hw31 rfl rfl ?_
        refine sm_go 1 (s' := (2018, ([lX scr.1, lR 0, lR 56, lR 74, lR 75, lI x1, g3.1, g3.2.1, g3.2.2], ([sR 0], (mSH W2.1 W2.2.1, (W2.2.2.1, W2.2.2.2)))))) ?_ rfl
        refine sm_callG (rest := []) (T_X10_fewestLate scr (d + 14) W2.1 W2.2.1 W2.2.2.2 W2.2.2.1) rfl (Or.inl rfl) rfl rfl rfl rfl (fun _ => rfl) (fun z294 => (2021, ([lX scr.1, lR 0, lR 56, lR 74, lR 75, lI x1, g3.1, g3.2.1, g3.2.2], ([sI z294.1], (mSH W2.1 W2.2.1, (z294.2, W2.2.2.2)))))) (fun _ => rfl) fun z294 => ?_
        refine sm_go 1 (s' := (2022, ([lX scr.1, lR 0, lR 56, lR 74, lR 75, lI x1, g3.1, g3.2.1, g3.2.2], ([sR 56, sI z294.1], (mSH W2.1 W2.2.1, (z294.2, W2.2.2.2)))))) ?_ rfl
        refine sm_callG (rest := [sI z294.1]) (T_X11_fewestLate scr (d + 10) W2.1 W2.2.1 W2.2.2.2 z294.2) rfl (Or.inl rfl) rfl rfl rfl rfl (fun _ => rfl) (fun z295 => (2025, ([lX scr.1, lR 0, lR 56, lR 74, lR 75, lI x1, g3.1, g3.2.1, g3.2.2], ([sI z295.1, sI z294.1], (mSH W2.1 W2.2.1, (z295.2, W2.2.2.2)))))) (fun _ => rfl) fun z295 => ?_
        refine sm_if2 (t := (ieq z294.1 z295.1)) (pt := 2659) rfl rfl rfl (fun _ => ?_) (fun _ => ?_)
        · exact hk8 (g3.1, g3.2.1, g3.2.2) (W2.1, (W2.2.1, (z295.2, W2.2.2.2)))
        · refine sm_go 1 (s' := (2029, ([lX scr.1, lR 0, lR 56, lR 74, lR 75, lI x1, g3.1, g3.2.1, g3.2.2], ([sI 0], (mSH W2.1 W2.2.1, (z295.2, W2.2.2.2)))))) ?_ rfl
          exact sm_retB1 (b := false) rfl rfl
      refine sm_sw (fun hw32 => ?_) (fun hw32 => ?_)
      · refine sm_swC (pt := 2030) hw32 rfl rfl ?_
        refine sm_go 5 (s' := (2036, ([lX scr.1, lR 0, lR 56, lR 74, lR 75, lI x1, g3.1, g3.2.1, g3.2.2], ([sI (x1 + 1), sX scr.1, sR 0], (mSH W2.1 W2.2.1, (W2.2.2.1, W2.2.2.2)))))) ?_ rfl
        refine sm_xld rfl fun v296 => ?_
        refine sm_go 1 (s' := (2038, ([lX scr.1, lR 0, lR 56, lR 74, lR 75, lI x1, g3.1, g3.2.1, g3.2.2], ([sR 74, sI v296, sR 0], (mSH W2.1 W2.2.1, (W2.2.2.1, W2.2.2.2)))))) ?_ rfl
        refine sm_notB (rest := []) (T_L_isDropped scr (d + 13) W2 v296) rfl (Or.inr (Or.inl rfl)) rfl rfl rfl rfl (fun _ _ => rfl) (fun v297 W298 => (2041, ([lX scr.1, lR 0, lR 56, lR 74, lR 75, lI x1, g3.1, g3.2.1, g3.2.2], ([sI v297], (mSH W298.1 W298.2.1, (W298.2.2.1, W298.2.2.2)))))) (fun _ _ => rfl) fun v297 W298 => ?_
        refine sm_go 6 (s' := (2049, ([lX scr.1, lR 0, lR 56, lR 74, lR 75, lI x1, lI v297, g3.2.1, g3.2.2], ([sI (x1 + 1), sX scr.1, sR 56], (mSH W298.1 W298.2.1, (W298.2.2.1, W298.2.2.2)))))) ?_ rfl
        refine sm_xld rfl fun v299 => ?_
        refine sm_callG (rest := []) (T_X11_isDropped scr (d + 10) W298.1 W298.2.1 W298.2.2.2 W298.2.2.1 v299) rfl (Or.inl rfl) rfl rfl rfl rfl (fun _ => rfl) (fun z300 => (2053, ([lX scr.1, lR 0, lR 56, lR 74, lR 75, lI x1, lI v297, g3.2.1, g3.2.2], ([sI (b2i z300.1)], (mSH W298.1 W298.2.1, (z300.2, W298.2.2.2)))))) (fun _ => rfl) fun z300 => ?_
        refine sm_go 2 (s' := (2056, ([lX scr.1, lR 0, lR 56, lR 74, lR 75, lI x1, lI v297, lI (b2i z300.1), g3.2.2], ([sR 56], (mSH W298.1 W298.2.1, (z300.2, W298.2.2.2)))))) ?_ rfl
        refine sm_callG (rest := []) (T_X11_thrown scr (d + 17) W298.1 W298.2.1 W298.2.2.2 z300.2) rfl (Or.inl rfl) rfl rfl rfl rfl (fun _ => rfl) (fun v301 => (2059, ([lX scr.1, lR 0, lR 56, lR 74, lR 75, lI x1, lI v297, lI (b2i z300.1), g3.2.2], ([sI v301], (mSH W298.1 W298.2.1, (z300.2, W298.2.2.2)))))) (fun _ => rfl) fun v301 => ?_
        refine sm_go 1 (s' := (2061, ([lX scr.1, lR 0, lR 56, lR 74, lR 75, lI x1, lI v297, lI (b2i z300.1), g3.2.2], ([sI v297, sI v301], (mSH W298.1 W298.2.1, (z300.2, W298.2.2.2)))))) ?_ rfl
        refine sm_if2 (t := (ieq v301 v297)) (pt := 2066) rfl rfl rfl (fun _ => ?_) (fun _ => ?_)
        · refine sm_letK0 (S := fun (g302 : Unit) => (2090, ([lX scr.1, lR 0, lR 56, lR 74, lR 75, lI x1, lI v297, lI (b2i z300.1), g3.2.2], ([], (mSH W298.1 W298.2.1, (z300.2, W298.2.2.2)))))) ?_ ?_
          · intro g302
            exact sm_go 1 (hk8 (lI v297, lI (b2i z300.1), g3.2.2) (W298.1, (W298.2.1, (z300.2, W298.2.2.2)))) rfl
          · intro k303 hk303
            refine sm_go 1 (s' := (2068, ([lX scr.1, lR 0, lR 56, lR 74, lR 75, lI x1, lI v297, lI (b2i z300.1), g3.2.2], ([sI v297], (mSH W298.1 W298.2.1, (z300.2, W298.2.2.2)))))) ?_ rfl
            refine sm_if1n (t := (ieq v297 0)) (pt := 2090) rfl rfl rfl (fun _ => ?_) (fun _ => ?_)
            · refine sm_go 2 (s' := (2073, ([lX scr.1, lR 0, lR 56, lR 74, lR 75, lI x1, lI v297, lI (b2i z300.1), g3.2.2], ([sI 0, sR 74], (mSH W298.1 W298.2.1, (z300.2, W298.2.2.2)))))) ?_ rfl
              refine sm_lld rfl rfl fun v304 => ?_
              refine sm_letK1 (S := fun (g306 : Unit) (x305 : Int) => (2084, ([lX scr.1, lR 0, lR 56, lR 74, lR 75, lI x1, lI v297, lI (b2i z300.1), g3.2.2], ([sL x305, sL v304], (mSH W298.1 W298.2.1, (z300.2, W298.2.2.2)))))) ?_ ?_
              · intro g306 x305
                refine sm_go 1 (s' := (2085, ([lX scr.1, lR 0, lR 56, lR 74, lR 75, lI x1, lI v297, lI (b2i z300.1), g3.2.2], ([sI (lcmpI v304 x305)], (mSH W298.1 W298.2.1, (z300.2, W298.2.2.2)))))) ?_ rfl
                refine sm_if1 (t := (ieq (lcmpI v304 x305) 0)) (pt := 2090) rfl rfl rfl (fun _ => ?_) (fun _ => ?_)
                · exact hk303 ()
                · refine sm_go 1 (s' := (2089, ([lX scr.1, lR 0, lR 56, lR 74, lR 75, lI x1, lI v297, lI (b2i z300.1), g3.2.2], ([sI 0], (mSH W298.1 W298.2.1, (z300.2, W298.2.2.2)))))) ?_ rfl
                  exact sm_retB1 (b := false) rfl rfl
              · intro k307 hk307
                refine sm_go 1 (s' := (2076, ([lX scr.1, lR 0, lR 56, lR 74, lR 75, lI x1, lI v297, lI (b2i z300.1), g3.2.2], ([sI (b2i z300.1), sL v304], (mSH W298.1 W298.2.1, (z300.2, W298.2.2.2)))))) ?_ rfl
                refine sm_if1n (t := z300.1) (pt := 2083) (mCmpB_eq z300.1) rfl rfl (fun _ => ?_) (fun _ => ?_)
                · exact sm_go 2 (hk307 () 1) rfl
                · exact sm_go 1 (hk307 () 0) rfl
            · exact hk303 ()
        · refine sm_go 1 (s' := (2065, ([lX scr.1, lR 0, lR 56, lR 74, lR 75, lI x1, lI v297, lI (b2i z300.1), g3.2.2], ([sI 0], (mSH W298.1 W298.2.1, (z300.2, W298.2.2.2)))))) ?_ rfl
          exact sm_retB1 (b := false) rfl rfl
      refine sm_sw (fun hw33 => ?_) (fun hw33 => ?_)
      · refine sm_swC (pt := 2093) hw33 rfl rfl ?_
        refine sm_go 1 (s' := (2094, ([lX scr.1, lR 0, lR 56, lR 74, lR 75, lI x1, g3.1, g3.2.1, g3.2.2], ([sR 0], (mSH W2.1 W2.2.1, (W2.2.2.1, W2.2.2.2)))))) ?_ rfl
        refine sm_callG (rest := []) (T_X10_leastEnd scr (d + 14) W2.1 W2.2.1 W2.2.2.2 W2.2.2.1) rfl (Or.inl rfl) rfl rfl rfl rfl (fun _ => rfl) (fun z308 => (2097, ([lX scr.1, lR 0, lR 56, lR 74, lR 75, lI x1, g3.1, g3.2.1, g3.2.2], ([sI z308.1], (mSH W2.1 W2.2.1, (z308.2, W2.2.2.2)))))) (fun _ => rfl) fun z308 => ?_
        refine sm_go 1 (s' := (2098, ([lX scr.1, lR 0, lR 56, lR 74, lR 75, lI x1, g3.1, g3.2.1, g3.2.2], ([sR 56, sI z308.1], (mSH W2.1 W2.2.1, (z308.2, W2.2.2.2)))))) ?_ rfl
        refine sm_callG (rest := [sI z308.1]) (T_X11_leastEnd scr (d + 11) W2.1 W2.2.1 W2.2.2.2 z308.2) rfl (Or.inl rfl) rfl rfl rfl rfl (fun _ => rfl) (fun z309 => (2101, ([lX scr.1, lR 0, lR 56, lR 74, lR 75, lI x1, g3.1, g3.2.1, g3.2.2], ([sI z309.1, sI z308.1], (mSH W2.1 W2.2.1, (z309.2, W2.2.2.2)))))) (fun _ => rfl) fun z309 => ?_
        refine sm_if2 (t := (ieq z308.1 z309.1)) (pt := 2659) rfl rfl rfl (fun _ => ?_) (fun _ => ?_)
        · exact hk8 (g3.1, g3.2.1, g3.2.2) (W2.1, (W2.2.1, (z309.2, W2.2.2.2)))
        · refine sm_go 1 (s' := (2105, ([lX scr.1, lR 0, lR 56, lR 74, lR 75, lI x1, g3.1, g3.2.1, g3.2.2], ([sI 0], (mSH W2.1 W2.2.1, (z309.2, W2.2.2.2)))))) ?_ rfl
          exact sm_retB1 (b := false) rfl rfl
      refine sm_sw (fun hw34 => ?_) (fun hw34 => ?_)
      · refine sm_swC (pt := 2106) hw34 rfl rfl ?_
        refine sm_go 5 (s' := (2112, ([lX scr.1, lR 0, lR 56, lR 74, lR 75, lI x1, g3.1, g3.2.1, g3.2.2], ([sI (x1 + 1), sX scr.1, sR 0], (mSH W2.1 W2.2.1, (W2.2.2.1, W2.2.2.2)))))) ?_ rfl
        refine sm_xld rfl fun v310 => ?_
        refine sm_go 1 (s' := (2114, ([lX scr.1, lR 0, lR 56, lR 74, lR 75, lI x1, g3.1, g3.2.1, g3.2.2], ([sR 74, sI v310, sR 0], (mSH W2.1 W2.2.1, (W2.2.2.1, W2.2.2.2)))))) ?_ rfl
        refine sm_notB (rest := []) (T_L_twoAt scr (d + 13) W2 v310) rfl (Or.inr (Or.inl rfl)) rfl rfl rfl rfl (fun _ _ => rfl) (fun v311 W312 => (2117, ([lX scr.1, lR 0, lR 56, lR 74, lR 75, lI x1, g3.1, g3.2.1, g3.2.2], ([sI v311], (mSH W312.1 W312.2.1, (W312.2.2.1, W312.2.2.2)))))) (fun _ _ => rfl) fun v311 W312 => ?_
        refine sm_go 6 (s' := (2125, ([lX scr.1, lR 0, lR 56, lR 74, lR 75, lI x1, lI v311, g3.2.1, g3.2.2], ([sI (x1 + 1), sX scr.1, sR 56], (mSH W312.1 W312.2.1, (W312.2.2.1, W312.2.2.2)))))) ?_ rfl
        refine sm_xld rfl fun v313 => ?_
        refine sm_callG (rest := []) (T_X11_twoAt scr (d + 11) W312.1 W312.2.1 W312.2.2.2 W312.2.2.1 v313) rfl (Or.inl rfl) rfl rfl rfl rfl (fun _ => rfl) (fun z314 => (2129, ([lX scr.1, lR 0, lR 56, lR 74, lR 75, lI x1, lI v311, g3.2.1, g3.2.2], ([sI z314.1], (mSH W312.1 W312.2.1, (z314.2, W312.2.2.2)))))) (fun _ => rfl) fun z314 => ?_
        refine sm_go 2 (s' := (2132, ([lX scr.1, lR 0, lR 56, lR 74, lR 75, lI x1, lI v311, lI z314.1, g3.2.2], ([sR 56], (mSH W312.1 W312.2.1, (z314.2, W312.2.2.2)))))) ?_ rfl
        refine sm_callG (rest := []) (T_X11_thrown scr (d + 17) W312.1 W312.2.1 W312.2.2.2 z314.2) rfl (Or.inl rfl) rfl rfl rfl rfl (fun _ => rfl) (fun v315 => (2135, ([lX scr.1, lR 0, lR 56, lR 74, lR 75, lI x1, lI v311, lI z314.1, g3.2.2], ([sI v315], (mSH W312.1 W312.2.1, (z314.2, W312.2.2.2)))))) (fun _ => rfl) fun v315 => ?_
        refine sm_go 1 (s' := (2137, ([lX scr.1, lR 0, lR 56, lR 74, lR 75, lI x1, lI v311, lI z314.1, g3.2.2], ([sI v311, sI v315], (mSH W312.1 W312.2.1, (z314.2, W312.2.2.2)))))) ?_ rfl
        refine sm_if2 (t := (ieq v315 v311)) (pt := 2142) rfl rfl rfl (fun _ => ?_) (fun _ => ?_)
        · refine sm_letK0 (S := fun (g316 : Unit) => (2159, ([lX scr.1, lR 0, lR 56, lR 74, lR 75, lI x1, lI v311, lI z314.1, g3.2.2], ([], (mSH W312.1 W312.2.1, (z314.2, W312.2.2.2)))))) ?_ ?_
          · intro g316
            exact sm_go 1 (hk8 (lI v311, lI z314.1, g3.2.2) (W312.1, (W312.2.1, (z314.2, W312.2.2.2)))) rfl
          · intro k317 hk317
            refine sm_go 1 (s' := (2144, ([lX scr.1, lR 0, lR 56, lR 74, lR 75, lI x1, lI v311, lI z314.1, g3.2.2], ([sI v311], (mSH W312.1 W312.2.1, (z314.2, W312.2.2.2)))))) ?_ rfl
            refine sm_if1n (t := (ieq v311 0)) (pt := 2159) rfl rfl rfl (fun _ => ?_) (fun _ => ?_)
            · refine sm_go 2 (s' := (2149, ([lX scr.1, lR 0, lR 56, lR 74, lR 75, lI x1, lI v311, lI z314.1, g3.2.2], ([sI 0, sR 74], (mSH W312.1 W312.2.1, (z314.2, W312.2.2.2)))))) ?_ rfl
              refine sm_lld rfl rfl fun v318 => ?_
              refine sm_go 3 (s' := (2154, ([lX scr.1, lR 0, lR 56, lR 74, lR 75, lI x1, lI v311, lI z314.1, g3.2.2], ([sI (lcmpI v318 (w32 z314.1))], (mSH W312.1 W312.2.1, (z314.2, W312.2.2.2)))))) ?_ rfl
              refine sm_if1 (t := (ieq (lcmpI v318 (w32 z314.1)) 0)) (pt := 2159) rfl rfl rfl (fun _ => ?_) (fun _ => ?_)
              · exact hk317 ()
              · refine sm_go 1 (s' := (2158, ([lX scr.1, lR 0, lR 56, lR 74, lR 75, lI x1, lI v311, lI z314.1, g3.2.2], ([sI 0], (mSH W312.1 W312.2.1, (z314.2, W312.2.2.2)))))) ?_ rfl
                exact sm_retB1 (b := false) rfl rfl
            · exact hk317 ()
        · refine sm_go 1 (s' := (2141, ([lX scr.1, lR 0, lR 56, lR 74, lR 75, lI x1, lI v311, lI z314.1, g3.2.2], ([sI 0], (mSH W312.1 W312.2.1, (z314.2, W312.2.2.2)))))) ?_ rfl
          exact sm_retB1 (b := false) rfl rfl
      refine sm_sw (fun hw35 => ?_) (fun hw35 => ?_)
      · refine sm_swC (pt := 2162) hw35 rfl rfl ?_
        refine sm_go 1 (s' := (2163, ([lX scr.1, lR 0, lR 56, lR 74, lR 75, lI x1, g3.1, g3.2.1, g3.2.2], ([sR 0], (mSH W2.1 W2.2.1, (W2.2.2.1, W2.2.2.2)))))) ?_ rfl
        refine sm_callG (rest := []) (T_X10_leastSetup scr (d + 6) W2.1 W2.2.1 W2.2.2.2 W2.2.2.1) rfl (Or.inl rfl) rfl rfl rfl rfl (fun _ => rfl) (fun z319 => (2166, ([lX scr.1, lR 0, lR 56, lR 74, lR 75, lI x1, g3.1, g3.2.1, g3.2.2], ([sI z319.1], (mSH W2.1 W2.2.1, (z319.2, W2.2.2.2)))))) (fun _ => rfl) fun z319 => ?_
        refine sm_go 1 (s' := (2167, ([lX scr.1, lR 0, lR 56, lR 74, lR 75, lI x1, g3.1, g3.2.1, g3.2.2], ([sR 56, sI z319.1], (mSH W2.1 W2.2.1, (z319.2, W2.2.2.2)))))) ?_ rfl
        refine sm_callG (rest := [sI z319.1]) (T_X11_leastSetup scr (d + 14) W2.1 W2.2.1 W2.2.2.2 z319.2) rfl (Or.inl rfl) rfl rfl rfl rfl (fun _ => rfl) (fun z320 => (2170, ([lX scr.1, lR 0, lR 56, lR 74, lR 75, lI x1, g3.1, g3.2.1, g3.2.2], ([sI z320.1, sI z319.1], (mSH W2.1 W2.2.1, (z320.2, W2.2.2.2)))))) (fun _ => rfl) fun z320 => ?_
        refine sm_if2 (t := (ieq z319.1 z320.1)) (pt := 2659) rfl rfl rfl (fun _ => ?_) (fun _ => ?_)
        · exact hk8 (g3.1, g3.2.1, g3.2.2) (W2.1, (W2.2.1, (z320.2, W2.2.2.2)))
        · refine sm_go 1 (s' := (2174, ([lX scr.1, lR 0, lR 56, lR 74, lR 75, lI x1, g3.1, g3.2.1, g3.2.2], ([sI 0], (mSH W2.1 W2.2.1, (z320.2, W2.2.2.2)))))) ?_ rfl
          exact sm_retB1 (b := false) rfl rfl
      refine sm_sw (fun hw36 => ?_) (fun hw36 => ?_)
      · refine sm_swC (pt := 2175) hw36 rfl rfl ?_
        refine sm_go 5 (s' := (2181, ([lX scr.1, lR 0, lR 56, lR 74, lR 75, lI x1, g3.1, g3.2.1, g3.2.2], ([sI (x1 + 1), sX scr.1, sR 0], (mSH W2.1 W2.2.1, (W2.2.2.1, W2.2.2.2)))))) ?_ rfl
        refine sm_xld rfl fun v321 => ?_
        refine sm_go 1 (s' := (2183, ([lX scr.1, lR 0, lR 56, lR 74, lR 75, lI x1, g3.1, g3.2.1, g3.2.2], ([sR 74, sI v321, sR 0], (mSH W2.1 W2.2.1, (W2.2.2.1, W2.2.2.2)))))) ?_ rfl
        refine sm_notB (rest := []) (T_L_setupAt scr (d + 5) W2 v321) rfl (Or.inr (Or.inl rfl)) rfl rfl rfl rfl (fun _ _ => rfl) (fun v322 W323 => (2186, ([lX scr.1, lR 0, lR 56, lR 74, lR 75, lI x1, g3.1, g3.2.1, g3.2.2], ([sI v322], (mSH W323.1 W323.2.1, (W323.2.2.1, W323.2.2.2)))))) (fun _ _ => rfl) fun v322 W323 => ?_
        refine sm_go 6 (s' := (2194, ([lX scr.1, lR 0, lR 56, lR 74, lR 75, lI x1, lI v322, g3.2.1, g3.2.2], ([sI (x1 + 1), sX scr.1, sR 56], (mSH W323.1 W323.2.1, (W323.2.2.1, W323.2.2.2)))))) ?_ rfl
        refine sm_xld rfl fun v324 => ?_
        refine sm_callG (rest := []) (T_X11_setupAt scr (d + 14) W323.1 W323.2.1 W323.2.2.2 W323.2.2.1 v324) rfl (Or.inl rfl) rfl rfl rfl rfl (fun _ => rfl) (fun z325 => (2198, ([lX scr.1, lR 0, lR 56, lR 74, lR 75, lI x1, lI v322, g3.2.1, g3.2.2], ([sI z325.1], (mSH W323.1 W323.2.1, (z325.2, W323.2.2.2)))))) (fun _ => rfl) fun z325 => ?_
        refine sm_go 2 (s' := (2201, ([lX scr.1, lR 0, lR 56, lR 74, lR 75, lI x1, lI v322, lI z325.1, g3.2.2], ([sR 56], (mSH W323.1 W323.2.1, (z325.2, W323.2.2.2)))))) ?_ rfl
        refine sm_callG (rest := []) (T_X11_thrown scr (d + 17) W323.1 W323.2.1 W323.2.2.2 z325.2) rfl (Or.inl rfl) rfl rfl rfl rfl (fun _ => rfl) (fun v326 => (2204, ([lX scr.1, lR 0, lR 56, lR 74, lR 75, lI x1, lI v322, lI z325.1, g3.2.2], ([sI v326], (mSH W323.1 W323.2.1, (z325.2, W323.2.2.2)))))) (fun _ => rfl) fun v326 => ?_
        refine sm_go 1 (s' := (2206, ([lX scr.1, lR 0, lR 56, lR 74, lR 75, lI x1, lI v322, lI z325.1, g3.2.2], ([sI v322, sI v326], (mSH W323.1 W323.2.1, (z325.2, W323.2.2.2)))))) ?_ rfl
        refine sm_if2 (t := (ieq v326 v322)) (pt := 2211) rfl rfl rfl (fun _ => ?_) (fun _ => ?_)
        · refine sm_letK0 (S := fun (g327 : Unit) => (2228, ([lX scr.1, lR 0, lR 56, lR 74, lR 75, lI x1, lI v322, lI z325.1, g3.2.2], ([], (mSH W323.1 W323.2.1, (z325.2, W323.2.2.2)))))) ?_ ?_
          · intro g327
            exact sm_go 1 (hk8 (lI v322, lI z325.1, g3.2.2) (W323.1, (W323.2.1, (z325.2, W323.2.2.2)))) rfl
          · intro k328 hk328
            refine sm_go 1 (s' := (2213, ([lX scr.1, lR 0, lR 56, lR 74, lR 75, lI x1, lI v322, lI z325.1, g3.2.2], ([sI v322], (mSH W323.1 W323.2.1, (z325.2, W323.2.2.2)))))) ?_ rfl
            refine sm_if1n (t := (ieq v322 0)) (pt := 2228) rfl rfl rfl (fun _ => ?_) (fun _ => ?_)
            · refine sm_go 2 (s' := (2218, ([lX scr.1, lR 0, lR 56, lR 74, lR 75, lI x1, lI v322, lI z325.1, g3.2.2], ([sI 0, sR 74], (mSH W323.1 W323.2.1, (z325.2, W323.2.2.2)))))) ?_ rfl
              refine sm_lld rfl rfl fun v329 => ?_
              refine sm_go 3 (s' := (2223, ([lX scr.1, lR 0, lR 56, lR 74, lR 75, lI x1, lI v322, lI z325.1, g3.2.2], ([sI (lcmpI v329 (w32 z325.1))], (mSH W323.1 W323.2.1, (z325.2, W323.2.2.2)))))) ?_ rfl
              refine sm_if1 (t := (ieq (lcmpI v329 (w32 z325.1)) 0)) (pt := 2228) rfl rfl rfl (fun _ => ?_) (fun _ => ?_)
              · exact hk328 ()
              · refine sm_go 1 (s' := (2227, ([lX scr.1, lR 0, lR 56, lR 74, lR 75, lI x1, lI v322, lI z325.1, g3.2.2], ([sI 0], (mSH W323.1 W323.2.1, (z325.2, W323.2.2.2)))))) ?_ rfl
                exact sm_retB1 (b := false) rfl rfl
            · exact hk328 ()
        · refine sm_go 1 (s' := (2210, ([lX scr.1, lR 0, lR 56, lR 74, lR 75, lI x1, lI v322, lI z325.1, g3.2.2], ([sI 0], (mSH W323.1 W323.2.1, (z325.2, W323.2.2.2)))))) ?_ rfl
          exact sm_retB1 (b := false) rfl rfl
      refine sm_sw (fun hw37 => ?_) (fun hw37 => ?_)
      · refine sm_swC (pt := 2231) hw37 rfl rfl ?_
        refine sm_go 5 (s' := (2237, ([lX scr.1, lR 0, lR 56, lR 74, lR 75, lI x1, g3.1, g3.2.1, g3.2.2], ([sI (x1 + 1), sX scr.1, sR 0], (mSH W2.1 W2.2.1, (W2.2.2.1, W2.2.2.2)))))) ?_ rfl
        refine sm_xld rfl fun v330 => ?_
        refine sm_go 1 (s' := (2239, ([lX scr.1, lR 0, lR 56, lR 74, lR 75, lI x1, g3.1, g3.2.1, g3.2.2], ([sR 74, sI v330, sR 0], (mSH W2.1 W2.2.1, (W2.2.2.1, W2.2.2.2)))))) ?_ rfl
        refine sm_notB (rest := []) (T_L_match scr (d + 7) W2 v330) rfl (Or.inr (Or.inl rfl)) rfl rfl rfl rfl (fun _ _ => rfl) (fun v331 W332 => (2242, ([lX scr.1, lR 0, lR 56, lR 74, lR 75, lI x1, g3.1, g3.2.1, g3.2.2], ([sI v331], (mSH W332.1 W332.2.1, (W332.2.2.1, W332.2.2.2)))))) (fun _ _ => rfl) fun v331 W332 => ?_
        refine sm_go 6 (s' := (2250, ([lX scr.1, lR 0, lR 56, lR 74, lR 75, lI x1, lI v331, g3.2.1, g3.2.2], ([sI (x1 + 1), sX scr.1, sR 56], (mSH W332.1 W332.2.1, (W332.2.2.1, W332.2.2.2)))))) ?_ rfl
        refine sm_xld rfl fun v333 => ?_
        refine sm_callG (rest := []) (T_X11_match scr (d + 15) W332.1 W332.2.1 W332.2.2.2 W332.2.2.1 v333) rfl (Or.inl rfl) rfl rfl rfl rfl (fun _ => rfl) (fun z334 => (2254, ([lX scr.1, lR 0, lR 56, lR 74, lR 75, lI x1, lI v331, g3.2.1, g3.2.2], ([sI z334.1], (mSH W332.1 W332.2.1, (z334.2, W332.2.2.2)))))) (fun _ => rfl) fun z334 => ?_
        refine sm_go 2 (s' := (2257, ([lX scr.1, lR 0, lR 56, lR 74, lR 75, lI x1, lI v331, lI z334.1, g3.2.2], ([sR 56], (mSH W332.1 W332.2.1, (z334.2, W332.2.2.2)))))) ?_ rfl
        refine sm_callG (rest := []) (T_X11_thrown scr (d + 17) W332.1 W332.2.1 W332.2.2.2 z334.2) rfl (Or.inl rfl) rfl rfl rfl rfl (fun _ => rfl) (fun v335 => (2260, ([lX scr.1, lR 0, lR 56, lR 74, lR 75, lI x1, lI v331, lI z334.1, g3.2.2], ([sI v335], (mSH W332.1 W332.2.1, (z334.2, W332.2.2.2)))))) (fun _ => rfl) fun v335 => ?_
        refine sm_go 1 (s' := (2262, ([lX scr.1, lR 0, lR 56, lR 74, lR 75, lI x1, lI v331, lI z334.1, g3.2.2], ([sI v331, sI v335], (mSH W332.1 W332.2.1, (z334.2, W332.2.2.2)))))) ?_ rfl
        refine sm_if2 (t := (ieq v335 v331)) (pt := 2267) rfl rfl rfl (fun _ => ?_) (fun _ => ?_)
        · refine sm_letK0 (S := fun (g336 : Unit) => (2284, ([lX scr.1, lR 0, lR 56, lR 74, lR 75, lI x1, lI v331, lI z334.1, g3.2.2], ([], (mSH W332.1 W332.2.1, (z334.2, W332.2.2.2)))))) ?_ ?_
          · intro g336
            exact sm_go 1 (hk8 (lI v331, lI z334.1, g3.2.2) (W332.1, (W332.2.1, (z334.2, W332.2.2.2)))) rfl
          · intro k337 hk337
            refine sm_go 1 (s' := (2269, ([lX scr.1, lR 0, lR 56, lR 74, lR 75, lI x1, lI v331, lI z334.1, g3.2.2], ([sI v331], (mSH W332.1 W332.2.1, (z334.2, W332.2.2.2)))))) ?_ rfl
            refine sm_if1n (t := (ieq v331 0)) (pt := 2284) rfl rfl rfl (fun _ => ?_) (fun _ => ?_)
            · refine sm_go 2 (s' := (2274, ([lX scr.1, lR 0, lR 56, lR 74, lR 75, lI x1, lI v331, lI z334.1, g3.2.2], ([sI 0, sR 74], (mSH W332.1 W332.2.1, (z334.2, W332.2.2.2)))))) ?_ rfl
              refine sm_lld rfl rfl fun v338 => ?_
              refine sm_go 3 (s' := (2279, ([lX scr.1, lR 0, lR 56, lR 74, lR 75, lI x1, lI v331, lI z334.1, g3.2.2], ([sI (lcmpI v338 (w32 z334.1))], (mSH W332.1 W332.2.1, (z334.2, W332.2.2.2)))))) ?_ rfl
              refine sm_if1 (t := (ieq (lcmpI v338 (w32 z334.1)) 0)) (pt := 2284) rfl rfl rfl (fun _ => ?_) (fun _ => ?_)
              · exact hk337 ()
              · refine sm_go 1 (s' := (2283, ([lX scr.1, lR 0, lR 56, lR 74, lR 75, lI x1, lI v331, lI z334.1, g3.2.2], ([sI 0], (mSH W332.1 W332.2.1, (z334.2, W332.2.2.2)))))) ?_ rfl
                exact sm_retB1 (b := false) rfl rfl
            · exact hk337 ()
        · refine sm_go 1 (s' := (2266, ([lX scr.1, lR 0, lR 56, lR 74, lR 75, lI x1, lI v331, lI z334.1, g3.2.2], ([sI 0], (mSH W332.1 W332.2.1, (z334.2, W332.2.2.2)))))) ?_ rfl
          exact sm_retB1 (b := false) rfl rfl
      refine sm_sw (fun hw38 => ?_) (fun hw38 => ?_)
      · refine sm_swC (pt := 2287) hw38 rfl rfl ?_
        refine sm_go 5 (s' := (2293, ([lX scr.1, lR 0, lR 56, lR 74, lR 75, lI x1, g3.1, g3.2.1, g3.2.2], ([sI (x1 + 1), sX scr.1, sR 0], (mSH W2.1 W2.2.1, (W2.2.2.1, W2.2.2.2)))))) ?_ rfl
        refine sm_xld rfl fun v339 => ?_
        refine sm_go 4 (s' := (2299, ([lX scr.1, lR 0, lR 56, lR 74, lR 75, lI x1, g3.1, g3.2.1, g3.2.2], ([sI (x1 + 2), sX scr.1, sI v339, sR 0], (mSH W2.1 W2.2.1, (W2.2.2.1, W2.2.2.2)))))) ?_ rfl
        refine sm_xld rfl fun v340 => ?_
        refine sm_go 1 (s' := (2301, ([lX scr.1, lR 0, lR 56, lR 74, lR 75, lI x1, g3.1, g3.2.1, g3.2.2], ([sR 74, sI v340, sI v339, sR 0], (mSH W2.1 W2.2.1, (W2.2.2.1, W2.2.2.2)))))) ?_ rfl
        refine sm_notB (rest := []) (T_L_workerOf scr (d + 7) W2 v339 v340) rfl (Or.inr (Or.inl rfl)) rfl rfl rfl rfl (fun _ _ => rfl) (fun v341 W342 => (2304, ([lX scr.1, lR 0, lR 56, lR 74, lR 75, lI x1, g3.1, g3.2.1, g3.2.2], ([sI v341], (mSH W342.1 W342.2.1, (W342.2.2.1, W342.2.2.2)))))) (fun _ _ => rfl) fun v341 W342 => ?_
        refine sm_go 6 (s' := (2312, ([lX scr.1, lR 0, lR 56, lR 74, lR 75, lI x1, lI v341, g3.2.1, g3.2.2], ([sI (x1 + 1), sX scr.1, sR 56], (mSH W342.1 W342.2.1, (W342.2.2.1, W342.2.2.2)))))) ?_ rfl
        refine sm_xld rfl fun v343 => ?_
        refine sm_go 4 (s' := (2318, ([lX scr.1, lR 0, lR 56, lR 74, lR 75, lI x1, lI v341, g3.2.1, g3.2.2], ([sI (x1 + 2), sX scr.1, sI v343, sR 56], (mSH W342.1 W342.2.1, (W342.2.2.1, W342.2.2.2)))))) ?_ rfl
        refine sm_xld rfl fun v344 => ?_
        refine sm_callG (rest := []) (T_X11_workerOf scr (d + 15) W342.1 W342.2.1 W342.2.2.2 W342.2.2.1 v343 v344) rfl (Or.inl rfl) rfl rfl rfl rfl (fun _ => rfl) (fun z345 => (2322, ([lX scr.1, lR 0, lR 56, lR 74, lR 75, lI x1, lI v341, g3.2.1, g3.2.2], ([sI z345.1], (mSH W342.1 W342.2.1, (z345.2, W342.2.2.2)))))) (fun _ => rfl) fun z345 => ?_
        refine sm_go 2 (s' := (2325, ([lX scr.1, lR 0, lR 56, lR 74, lR 75, lI x1, lI v341, lI z345.1, g3.2.2], ([sR 56], (mSH W342.1 W342.2.1, (z345.2, W342.2.2.2)))))) ?_ rfl
        refine sm_callG (rest := []) (T_X11_thrown scr (d + 17) W342.1 W342.2.1 W342.2.2.2 z345.2) rfl (Or.inl rfl) rfl rfl rfl rfl (fun _ => rfl) (fun v346 => (2328, ([lX scr.1, lR 0, lR 56, lR 74, lR 75, lI x1, lI v341, lI z345.1, g3.2.2], ([sI v346], (mSH W342.1 W342.2.1, (z345.2, W342.2.2.2)))))) (fun _ => rfl) fun v346 => ?_
        refine sm_go 1 (s' := (2330, ([lX scr.1, lR 0, lR 56, lR 74, lR 75, lI x1, lI v341, lI z345.1, g3.2.2], ([sI v341, sI v346], (mSH W342.1 W342.2.1, (z345.2, W342.2.2.2)))))) ?_ rfl
        refine sm_if2 (t := (ieq v346 v341)) (pt := 2335) rfl rfl rfl (fun _ => ?_) (fun _ => ?_)
        · refine sm_letK0 (S := fun (g347 : Unit) => (2352, ([lX scr.1, lR 0, lR 56, lR 74, lR 75, lI x1, lI v341, lI z345.1, g3.2.2], ([], (mSH W342.1 W342.2.1, (z345.2, W342.2.2.2)))))) ?_ ?_
          · intro g347
            exact sm_go 1 (hk8 (lI v341, lI z345.1, g3.2.2) (W342.1, (W342.2.1, (z345.2, W342.2.2.2)))) rfl
          · intro k348 hk348
            refine sm_go 1 (s' := (2337, ([lX scr.1, lR 0, lR 56, lR 74, lR 75, lI x1, lI v341, lI z345.1, g3.2.2], ([sI v341], (mSH W342.1 W342.2.1, (z345.2, W342.2.2.2)))))) ?_ rfl
            refine sm_if1n (t := (ieq v341 0)) (pt := 2352) rfl rfl rfl (fun _ => ?_) (fun _ => ?_)
            · refine sm_go 2 (s' := (2342, ([lX scr.1, lR 0, lR 56, lR 74, lR 75, lI x1, lI v341, lI z345.1, g3.2.2], ([sI 0, sR 74], (mSH W342.1 W342.2.1, (z345.2, W342.2.2.2)))))) ?_ rfl
              refine sm_lld rfl rfl fun v349 => ?_
              refine sm_go 3 (s' := (2347, ([lX scr.1, lR 0, lR 56, lR 74, lR 75, lI x1, lI v341, lI z345.1, g3.2.2], ([sI (lcmpI v349 (w32 z345.1))], (mSH W342.1 W342.2.1, (z345.2, W342.2.2.2)))))) ?_ rfl
              refine sm_if1 (t := (ieq (lcmpI v349 (w32 z345.1)) 0)) (pt := 2352) rfl rfl rfl (fun _ => ?_) (fun _ => ?_)
              · exact hk348 ()
              · refine sm_go 1 (s' := (2351, ([lX scr.1, lR 0, lR 56, lR 74, lR 75, lI x1, lI v341, lI z345.1, g3.2.2], ([sI 0], (mSH W342.1 W342.2.1, (z345.2, W342.2.2.2)))))) ?_ rfl
                exact sm_retB1 (b := false) rfl rfl
            · exact hk348 ()
        · refine sm_go 1 (s' := (2334, ([lX scr.1, lR 0, lR 56, lR 74, lR 75, lI x1, lI v341, lI z345.1, g3.2.2], ([sI 0], (mSH W342.1 W342.2.1, (z345.2, W342.2.2.2)))))) ?_ rfl
          exact sm_retB1 (b := false) rfl rfl
      refine sm_sw (fun hw39 => ?_) (fun hw39 => ?_)
      · refine sm_swC (pt := 2355) hw39 rfl rfl ?_
        refine sm_go 5 (s' := (2361, ([lX scr.1, lR 0, lR 56, lR 74, lR 75, lI x1, g3.1, g3.2.1, g3.2.2], ([sI (x1 + 1), sX scr.1, sR 0], (mSH W2.1 W2.2.1, (W2.2.2.1, W2.2.2.2)))))) ?_ rfl
        refine sm_xld rfl fun v350 => ?_
        refine sm_go 4 (s' := (2367, ([lX scr.1, lR 0, lR 56, lR 74, lR 75, lI x1, g3.1, g3.2.1, g3.2.2], ([sI (x1 + 2), sX scr.1, sI v350, sR 0], (mSH W2.1 W2.2.1, (W2.2.2.1, W2.2.2.2)))))) ?_ rfl
        refine sm_xld rfl fun v351 => ?_
        refine sm_go 4 (s' := (2373, ([lX scr.1, lR 0, lR 56, lR 74, lR 75, lI x1, g3.1, g3.2.1, g3.2.2], ([sI (x1 + 3), sX scr.1, sI v351, sI v350, sR 0], (mSH W2.1 W2.2.1, (W2.2.2.1, W2.2.2.2)))))) ?_ rfl
        refine sm_xld rfl fun v352 => ?_
        refine sm_go 1 (s' := (2375, ([lX scr.1, lR 0, lR 56, lR 74, lR 75, lI x1, g3.1, g3.2.1, g3.2.2], ([sR 74, sI v352, sI v351, sI v350, sR 0], (mSH W2.1 W2.2.1, (W2.2.2.1, W2.2.2.2)))))) ?_ rfl
        refine sm_notB (rest := []) (T_L_promise scr (d + 13) W2 v350 v351 v352) rfl (Or.inr (Or.inl rfl)) rfl rfl rfl rfl (fun _ _ => rfl) (fun v353 W354 => (2378, ([lX scr.1, lR 0, lR 56, lR 74, lR 75, lI x1, g3.1, g3.2.1, g3.2.2], ([sI v353], (mSH W354.1 W354.2.1, (W354.2.2.1, W354.2.2.2)))))) (fun _ _ => rfl) fun v353 W354 => ?_
        refine sm_go 6 (s' := (2386, ([lX scr.1, lR 0, lR 56, lR 74, lR 75, lI x1, lI v353, g3.2.1, g3.2.2], ([sI (x1 + 1), sX scr.1, sR 56], (mSH W354.1 W354.2.1, (W354.2.2.1, W354.2.2.2)))))) ?_ rfl
        refine sm_xld rfl fun v355 => ?_
        refine sm_go 4 (s' := (2392, ([lX scr.1, lR 0, lR 56, lR 74, lR 75, lI x1, lI v353, g3.2.1, g3.2.2], ([sI (x1 + 2), sX scr.1, sI v355, sR 56], (mSH W354.1 W354.2.1, (W354.2.2.1, W354.2.2.2)))))) ?_ rfl
        refine sm_xld rfl fun v356 => ?_
        refine sm_go 4 (s' := (2398, ([lX scr.1, lR 0, lR 56, lR 74, lR 75, lI x1, lI v353, g3.2.1, g3.2.2], ([sI (x1 + 3), sX scr.1, sI v356, sI v355, sR 56], (mSH W354.1 W354.2.1, (W354.2.2.1, W354.2.2.2)))))) ?_ rfl
        refine sm_xld rfl fun v357 => ?_
        refine sm_callG (rest := []) (T_X11_promise scr (d + 14) W354.1 W354.2.1 W354.2.2.2 W354.2.2.1 v355 v356 v357) rfl (Or.inl rfl) rfl rfl rfl rfl (fun _ => rfl) (fun z358 => (2402, ([lX scr.1, lR 0, lR 56, lR 74, lR 75, lI x1, lI v353, g3.2.1, g3.2.2], ([sI z358.1], (mSH W354.1 W354.2.1, (z358.2, W354.2.2.2)))))) (fun _ => rfl) fun z358 => ?_
        refine sm_go 2 (s' := (2405, ([lX scr.1, lR 0, lR 56, lR 74, lR 75, lI x1, lI v353, lI z358.1, g3.2.2], ([sR 56], (mSH W354.1 W354.2.1, (z358.2, W354.2.2.2)))))) ?_ rfl
        refine sm_callG (rest := []) (T_X11_thrown scr (d + 17) W354.1 W354.2.1 W354.2.2.2 z358.2) rfl (Or.inl rfl) rfl rfl rfl rfl (fun _ => rfl) (fun v359 => (2408, ([lX scr.1, lR 0, lR 56, lR 74, lR 75, lI x1, lI v353, lI z358.1, g3.2.2], ([sI v359], (mSH W354.1 W354.2.1, (z358.2, W354.2.2.2)))))) (fun _ => rfl) fun v359 => ?_
        refine sm_go 1 (s' := (2410, ([lX scr.1, lR 0, lR 56, lR 74, lR 75, lI x1, lI v353, lI z358.1, g3.2.2], ([sI v353, sI v359], (mSH W354.1 W354.2.1, (z358.2, W354.2.2.2)))))) ?_ rfl
        refine sm_if2 (t := (ieq v359 v353)) (pt := 2415) rfl rfl rfl (fun _ => ?_) (fun _ => ?_)
        · refine sm_letK0 (S := fun (g360 : Unit) => (2432, ([lX scr.1, lR 0, lR 56, lR 74, lR 75, lI x1, lI v353, lI z358.1, g3.2.2], ([], (mSH W354.1 W354.2.1, (z358.2, W354.2.2.2)))))) ?_ ?_
          · intro g360
            exact sm_go 1 (hk8 (lI v353, lI z358.1, g3.2.2) (W354.1, (W354.2.1, (z358.2, W354.2.2.2)))) rfl
          · intro k361 hk361
            refine sm_go 1 (s' := (2417, ([lX scr.1, lR 0, lR 56, lR 74, lR 75, lI x1, lI v353, lI z358.1, g3.2.2], ([sI v353], (mSH W354.1 W354.2.1, (z358.2, W354.2.2.2)))))) ?_ rfl
            refine sm_if1n (t := (ieq v353 0)) (pt := 2432) rfl rfl rfl (fun _ => ?_) (fun _ => ?_)
            · refine sm_go 2 (s' := (2422, ([lX scr.1, lR 0, lR 56, lR 74, lR 75, lI x1, lI v353, lI z358.1, g3.2.2], ([sI 0, sR 74], (mSH W354.1 W354.2.1, (z358.2, W354.2.2.2)))))) ?_ rfl
              refine sm_lld rfl rfl fun v362 => ?_
              refine sm_go 3 (s' := (2427, ([lX scr.1, lR 0, lR 56, lR 74, lR 75, lI x1, lI v353, lI z358.1, g3.2.2], ([sI (lcmpI v362 (w32 z358.1))], (mSH W354.1 W354.2.1, (z358.2, W354.2.2.2)))))) ?_ rfl
              refine sm_if1 (t := (ieq (lcmpI v362 (w32 z358.1)) 0)) (pt := 2432) rfl rfl rfl (fun _ => ?_) (fun _ => ?_)
              · exact hk361 ()
              · refine sm_go 1 (s' := (2431, ([lX scr.1, lR 0, lR 56, lR 74, lR 75, lI x1, lI v353, lI z358.1, g3.2.2], ([sI 0], (mSH W354.1 W354.2.1, (z358.2, W354.2.2.2)))))) ?_ rfl
                exact sm_retB1 (b := false) rfl rfl
            · exact hk361 ()
        · refine sm_go 1 (s' := (2414, ([lX scr.1, lR 0, lR 56, lR 74, lR 75, lI x1, lI v353, lI z358.1, g3.2.2], ([sI 0], (mSH W354.1 W354.2.1, (z358.2, W354.2.2.2)))))) ?_ rfl
          exact sm_retB1 (b := false) rfl rfl
      refine sm_sw (fun hw40 => ?_) (fun hw40 => ?_)
      · refine sm_swC (pt := 2435) hw40 rfl rfl ?_
        refine sm_go 5 (s' := (2441, ([lX scr.1, lR 0, lR 56, lR 74, lR 75, lI x1, g3.1, g3.2.1, g3.2.2], ([sI (x1 + 1), sX scr.1, sR 0], (mSH W2.1 W2.2.1, (W2.2.2.1, W2.2.2.2)))))) ?_ rfl
        refine sm_xld rfl fun v363 => ?_
        refine sm_go 4 (s' := (2447, ([lX scr.1, lR 0, lR 56, lR 74, lR 75, lI x1, g3.1, g3.2.1, g3.2.2], ([sI (x1 + 2), sX scr.1, sI v363, sR 0], (mSH W2.1 W2.2.1, (W2.2.2.1, W2.2.2.2)))))) ?_ rfl
        refine sm_xld rfl fun v364 => ?_
        refine sm_go 1 (s' := (2449, ([lX scr.1, lR 0, lR 56, lR 74, lR 75, lI x1, g3.1, g3.2.1, g3.2.2], ([sR 74, sI v364, sI v363, sR 0], (mSH W2.1 W2.2.1, (W2.2.2.1, W2.2.2.2)))))) ?_ rfl
        refine sm_notB (rest := []) (T_L_worked scr (d + 13) W2 v363 v364) rfl (Or.inr (Or.inl rfl)) rfl rfl rfl rfl (fun _ _ => rfl) (fun v365 W366 => (2452, ([lX scr.1, lR 0, lR 56, lR 74, lR 75, lI x1, g3.1, g3.2.1, g3.2.2], ([sI v365], (mSH W366.1 W366.2.1, (W366.2.2.1, W366.2.2.2)))))) (fun _ _ => rfl) fun v365 W366 => ?_
        refine sm_go 6 (s' := (2460, ([lX scr.1, lR 0, lR 56, lR 74, lR 75, lI x1, lI v365, g3.2.1, g3.2.2], ([sI (x1 + 1), sX scr.1, sR 56], (mSH W366.1 W366.2.1, (W366.2.2.1, W366.2.2.2)))))) ?_ rfl
        refine sm_xld rfl fun v367 => ?_
        refine sm_go 4 (s' := (2466, ([lX scr.1, lR 0, lR 56, lR 74, lR 75, lI x1, lI v365, g3.2.1, g3.2.2], ([sI (x1 + 2), sX scr.1, sI v367, sR 56], (mSH W366.1 W366.2.1, (W366.2.2.1, W366.2.2.2)))))) ?_ rfl
        refine sm_xld rfl fun v368 => ?_
        refine sm_callG (rest := []) (T_X11_worked scr (d + 11) W366.1 W366.2.1 W366.2.2.2 W366.2.2.1 v367 v368) rfl (Or.inl rfl) rfl rfl rfl rfl (fun _ => rfl) (fun z369 => (2470, ([lX scr.1, lR 0, lR 56, lR 74, lR 75, lI x1, lI v365, g3.2.1, g3.2.2], ([sI z369.1], (mSH W366.1 W366.2.1, (z369.2, W366.2.2.2)))))) (fun _ => rfl) fun z369 => ?_
        refine sm_go 2 (s' := (2473, ([lX scr.1, lR 0, lR 56, lR 74, lR 75, lI x1, lI v365, lI z369.1, g3.2.2], ([sR 56], (mSH W366.1 W366.2.1, (z369.2, W366.2.2.2)))))) ?_ rfl
        refine sm_callG (rest := []) (T_X11_thrown scr (d + 17) W366.1 W366.2.1 W366.2.2.2 z369.2) rfl (Or.inl rfl) rfl rfl rfl rfl (fun _ => rfl) (fun v370 => (2476, ([lX scr.1, lR 0, lR 56, lR 74, lR 75, lI x1, lI v365, lI z369.1, g3.2.2], ([sI v370], (mSH W366.1 W366.2.1, (z369.2, W366.2.2.2)))))) (fun _ => rfl) fun v370 => ?_
        refine sm_go 1 (s' := (2478, ([lX scr.1, lR 0, lR 56, lR 74, lR 75, lI x1, lI v365, lI z369.1, g3.2.2], ([sI v365, sI v370], (mSH W366.1 W366.2.1, (z369.2, W366.2.2.2)))))) ?_ rfl
        refine sm_if2 (t := (ieq v370 v365)) (pt := 2483) rfl rfl rfl (fun _ => ?_) (fun _ => ?_)
        · refine sm_letK0 (S := fun (g371 : Unit) => (2500, ([lX scr.1, lR 0, lR 56, lR 74, lR 75, lI x1, lI v365, lI z369.1, g3.2.2], ([], (mSH W366.1 W366.2.1, (z369.2, W366.2.2.2)))))) ?_ ?_
          · intro g371
            exact sm_go 1 (hk8 (lI v365, lI z369.1, g3.2.2) (W366.1, (W366.2.1, (z369.2, W366.2.2.2)))) rfl
          · intro k372 hk372
            refine sm_go 1 (s' := (2485, ([lX scr.1, lR 0, lR 56, lR 74, lR 75, lI x1, lI v365, lI z369.1, g3.2.2], ([sI v365], (mSH W366.1 W366.2.1, (z369.2, W366.2.2.2)))))) ?_ rfl
            refine sm_if1n (t := (ieq v365 0)) (pt := 2500) rfl rfl rfl (fun _ => ?_) (fun _ => ?_)
            · refine sm_go 2 (s' := (2490, ([lX scr.1, lR 0, lR 56, lR 74, lR 75, lI x1, lI v365, lI z369.1, g3.2.2], ([sI 0, sR 74], (mSH W366.1 W366.2.1, (z369.2, W366.2.2.2)))))) ?_ rfl
              refine sm_lld rfl rfl fun v373 => ?_
              refine sm_go 3 (s' := (2495, ([lX scr.1, lR 0, lR 56, lR 74, lR 75, lI x1, lI v365, lI z369.1, g3.2.2], ([sI (lcmpI v373 (w32 z369.1))], (mSH W366.1 W366.2.1, (z369.2, W366.2.2.2)))))) ?_ rfl
              refine sm_if1 (t := (ieq (lcmpI v373 (w32 z369.1)) 0)) (pt := 2500) rfl rfl rfl (fun _ => ?_) (fun _ => ?_)
              · exact hk372 ()
              · refine sm_go 1 (s' := (2499, ([lX scr.1, lR 0, lR 56, lR 74, lR 75, lI x1, lI v365, lI z369.1, g3.2.2], ([sI 0], (mSH W366.1 W366.2.1, (z369.2, W366.2.2.2)))))) ?_ rfl
                exact sm_retB1 (b := false) rfl rfl
            · exact hk372 ()
        · refine sm_go 1 (s' := (2482, ([lX scr.1, lR 0, lR 56, lR 74, lR 75, lI x1, lI v365, lI z369.1, g3.2.2], ([sI 0], (mSH W366.1 W366.2.1, (z369.2, W366.2.2.2)))))) ?_ rfl
          exact sm_retB1 (b := false) rfl rfl
      refine sm_sw (fun hw41 => ?_) (fun hw41 => ?_)
      · refine sm_swC (pt := 2503) hw41 rfl rfl ?_
        refine sm_go 2 (s' := (2506, ([lX scr.1, lR 0, lR 56, lR 74, lR 75, lI x1, g3.1, g3.2.1, g3.2.2], ([sR 75, sR 0], (mSH W2.1 W2.2.1, (W2.2.2.1, W2.2.2.2)))))) ?_ rfl
        refine sm_notB (rest := []) (T_L_meanEnd scr (d + 12) W2) rfl (Or.inr (Or.inl rfl)) rfl rfl rfl rfl (fun _ _ => rfl) (fun v374 W375 => (2509, ([lX scr.1, lR 0, lR 56, lR 74, lR 75, lI x1, g3.1, g3.2.1, g3.2.2], ([sI v374], (mSH W375.1 W375.2.1, (W375.2.2.1, W375.2.2.2)))))) (fun _ _ => rfl) fun v374 W375 => ?_
        refine sm_go 2 (s' := (2512, ([lX scr.1, lR 0, lR 56, lR 74, lR 75, lI x1, lI v374, g3.2.1, g3.2.2], ([sR 56], (mSH W375.1 W375.2.1, (W375.2.2.1, W375.2.2.2)))))) ?_ rfl
        refine sm_callG (rest := []) (T_X11_meanEnd scr (d + 11) W375.1 W375.2.1 W375.2.2.2 W375.2.2.1) rfl (Or.inl rfl) rfl rfl rfl rfl (fun _ => rfl) (fun z376 => (2515, ([lX scr.1, lR 0, lR 56, lR 74, lR 75, lI x1, lI v374, g3.2.1, g3.2.2], ([sD z376.1], (mSH W375.1 W375.2.1, (z376.2, W375.2.2.2)))))) (fun _ => rfl) fun z376 => ?_
        refine sm_go 2 (s' := (2518, ([lX scr.1, lR 0, lR 56, lR 74, lR 75, lI x1, lI v374, lD z376.1, none], ([sR 56], (mSH W375.1 W375.2.1, (z376.2, W375.2.2.2)))))) ?_ rfl
        refine sm_callG (rest := []) (T_X11_thrown scr (d + 17) W375.1 W375.2.1 W375.2.2.2 z376.2) rfl (Or.inl rfl) rfl rfl rfl rfl (fun _ => rfl) (fun v377 => (2521, ([lX scr.1, lR 0, lR 56, lR 74, lR 75, lI x1, lI v374, lD z376.1, none], ([sI v377], (mSH W375.1 W375.2.1, (z376.2, W375.2.2.2)))))) (fun _ => rfl) fun v377 => ?_
        refine sm_go 1 (s' := (2523, ([lX scr.1, lR 0, lR 56, lR 74, lR 75, lI x1, lI v374, lD z376.1, none], ([sI v374, sI v377], (mSH W375.1 W375.2.1, (z376.2, W375.2.2.2)))))) ?_ rfl
        refine sm_if2 (t := (ieq v377 v374)) (pt := 2528) rfl rfl rfl (fun _ => ?_) (fun _ => ?_)
        · refine sm_letK0 (S := fun (g378 : Unit) => (2565, ([lX scr.1, lR 0, lR 56, lR 74, lR 75, lI x1, lI v374, lD z376.1, none], ([], (mSH W375.1 W375.2.1, (z376.2, W375.2.2.2)))))) ?_ ?_
          · intro g378
            exact sm_go 1 (hk8 (lI v374, lD z376.1, none) (W375.1, (W375.2.1, (z376.2, W375.2.2.2)))) rfl
          · intro k379 hk379
            refine sm_go 1 (s' := (2530, ([lX scr.1, lR 0, lR 56, lR 74, lR 75, lI x1, lI v374, lD z376.1, none], ([sI v374], (mSH W375.1 W375.2.1, (z376.2, W375.2.2.2)))))) ?_ rfl
            refine sm_if1n (t := (ieq v374 0)) (pt := 2565) rfl rfl rfl (fun _ => ?_) (fun _ => ?_)
            · refine sm_go 2 (s' := (2536, ([lX scr.1, lR 0, lR 56, lR 74, lR 75, lI x1, lI v374, lD z376.1, none], ([sI 0, sR 75], (mSH W375.1 W375.2.1, (z376.2, W375.2.2.2)))))) ?_ rfl
              refine sm_dld rfl rfl fun v380 => ?_
              refine sm_go 2 (s' := (2540, ([lX scr.1, lR 0, lR 56, lR 74, lR 75, lI x1, lI v374, lD z376.1, none], ([sI (Op.cmpValue (FP.dcmp v380 z376.1) .l).toInt], (mSH W375.1 W375.2.1, (z376.2, W375.2.2.2)))))) ?_ rfl
              refine sm_if1 (t := (ieq (Op.cmpValue (FP.dcmp v380 z376.1) .l).toInt 0)) (pt := 2565) rfl rfl rfl (fun _ => ?_) (fun _ => ?_)
              · exact hk379 ()
              · refine sm_go 2 (s' := (2546, ([lX scr.1, lR 0, lR 56, lR 74, lR 75, lI x1, lI v374, lD z376.1, none], ([sI 0, sR 75], (mSH W375.1 W375.2.1, (z376.2, W375.2.2.2)))))) ?_ rfl
                refine sm_dld rfl rfl fun v381 => ?_
                refine sm_go 2 (s' := (2550, ([lX scr.1, lR 0, lR 56, lR 74, lR 75, lI x1, lI v374, lD z376.1, none], ([sI 0, sR 75, sD v381], (mSH W375.1 W375.2.1, (z376.2, W375.2.2.2)))))) ?_ rfl
                refine sm_dld rfl rfl fun v382 => ?_
                refine sm_go 1 (s' := (2552, ([lX scr.1, lR 0, lR 56, lR 74, lR 75, lI x1, lI v374, lD z376.1, none], ([sI (Op.cmpValue (FP.dcmp v381 v382) .l).toInt], (mSH W375.1 W375.2.1, (z376.2, W375.2.2.2)))))) ?_ rfl
                refine sm_if1 (t := (ieq (Op.cmpValue (FP.dcmp v381 v382) .l).toInt 0)) (pt := 2563) rfl rfl rfl (fun _ => ?_) (fun _ => ?_)
                · refine sm_go 1 (s' := (2564, ([lX scr.1, lR 0, lR 56, lR 74, lR 75, lI x1, lI v374, lD z376.1, none], ([sI 0], (mSH W375.1 W375.2.1, (z376.2, W375.2.2.2)))))) ?_ rfl
                  exact sm_retB1 (b := false) rfl rfl
                · refine sm_go 3 (s' := (2560, ([lX scr.1, lR 0, lR 56, lR 74, lR 75, lI x1, lI v374, lD z376.1, none], ([sI (Op.cmpValue (FP.dcmp z376.1 z376.1) .l).toInt], (mSH W375.1 W375.2.1, (z376.2, W375.2.2.2)))))) ?_ rfl
                  refine sm_if1n (t := (ieq (Op.cmpValue (FP.dcmp z376.1 z376.1) .l).toInt 0)) (pt := 2565) rfl rfl rfl (fun _ => ?_) (fun _ => ?_)
                  · refine sm_go 1 (s' := (2564, ([lX scr.1, lR 0, lR 56, lR 74, lR 75, lI x1, lI v374, lD z376.1, none], ([sI 0], (mSH W375.1 W375.2.1, (z376.2, W375.2.2.2)))))) ?_ rfl
                    exact sm_retB1 (b := false) rfl rfl
                  · exact hk379 ()
            · exact hk379 ()
        · refine sm_go 1 (s' := (2527, ([lX scr.1, lR 0, lR 56, lR 74, lR 75, lI x1, lI v374, lD z376.1, none], ([sI 0], (mSH W375.1 W375.2.1, (z376.2, W375.2.2.2)))))) ?_ rfl
          exact sm_retB1 (b := false) rfl rfl
      refine sm_sw (fun hw42 => ?_) (fun hw42 => ?_)
      · refine sm_swC (pt := 2568) hw42 rfl rfl ?_
        refine sm_go 5 (s' := (2574, ([lX scr.1, lR 0, lR 56, lR 74, lR 75, lI x1, g3.1, g3.2.1, g3.2.2], ([sI (x1 + 1), sX scr.1, sR 0], (mSH W2.1 W2.2.1, (W2.2.2.1, W2.2.2.2)))))) ?_ rfl
        refine sm_xld rfl fun v383 => ?_
        refine sm_go 1 (s' := (2577, ([lX scr.1, lR 0, lR 56, lR 74, lR 75, lI x1, g3.1, g3.2.1, g3.2.2], ([sR 75, sI v383, sR 0], (mSH W2.1 W2.2.1, (W2.2.2.1, W2.2.2.2)))))) ?_ rfl
        refine sm_notB (rest := []) (T_L_use scr (d + 12) W2 v383) rfl (Or.inr (Or.inl rfl)) rfl rfl rfl rfl (fun _ _ => rfl) (fun v384 W385 => (2580, ([lX scr.1, lR 0, lR 56, lR 74, lR 75, lI x1, g3.1, g3.2.1, g3.2.2], ([sI v384], (mSH W385.1 W385.2.1, (W385.2.2.1, W385.2.2.2)))))) (fun _ _ => rfl) fun v384 W385 => ?_
        refine sm_go 6 (s' := (2588, ([lX scr.1, lR 0, lR 56, lR 74, lR 75, lI x1, lI v384, g3.2.1, g3.2.2], ([sI (x1 + 1), sX scr.1, sR 56], (mSH W385.1 W385.2.1, (W385.2.2.1, W385.2.2.2)))))) ?_ rfl
        refine sm_xld rfl fun v386 => ?_
        refine sm_callG (rest := []) (T_X11_use scr (d + 11) W385.1 W385.2.1 W385.2.2.2 W385.2.2.1 v386) rfl (Or.inl rfl) rfl rfl rfl rfl (fun _ => rfl) (fun z387 => (2592, ([lX scr.1, lR 0, lR 56, lR 74, lR 75, lI x1, lI v384, g3.2.1, g3.2.2], ([sF z387.1], (mSH W385.1 W385.2.1, (z387.2, W385.2.2.2)))))) (fun _ => rfl) fun z387 => ?_
        refine sm_go 2 (s' := (2595, ([lX scr.1, lR 0, lR 56, lR 74, lR 75, lI x1, lI v384, lF z387.1, g3.2.2], ([sR 56], (mSH W385.1 W385.2.1, (z387.2, W385.2.2.2)))))) ?_ rfl
        refine sm_callG (rest := []) (T_X11_thrown scr (d + 17) W385.1 W385.2.1 W385.2.2.2 z387.2) rfl (Or.inl rfl) rfl rfl rfl rfl (fun _ => rfl) (fun v388 => (2598, ([lX scr.1, lR 0, lR 56, lR 74, lR 75, lI x1, lI v384, lF z387.1, g3.2.2], ([sI v388], (mSH W385.1 W385.2.1, (z387.2, W385.2.2.2)))))) (fun _ => rfl) fun v388 => ?_
        refine sm_go 1 (s' := (2600, ([lX scr.1, lR 0, lR 56, lR 74, lR 75, lI x1, lI v384, lF z387.1, g3.2.2], ([sI v384, sI v388], (mSH W385.1 W385.2.1, (z387.2, W385.2.2.2)))))) ?_ rfl
        refine sm_if2 (t := (ieq v388 v384)) (pt := 2605) rfl rfl rfl (fun _ => ?_) (fun _ => ?_)
        · refine sm_letK0 (S := fun (g389 : Unit) => (2643, ([lX scr.1, lR 0, lR 56, lR 74, lR 75, lI x1, lI v384, lF z387.1, g3.2.2], ([], (mSH W385.1 W385.2.1, (z387.2, W385.2.2.2)))))) ?_ ?_
          · intro g389
            exact sm_go 1 (hk8 (lI v384, lF z387.1, g3.2.2) (W385.1, (W385.2.1, (z387.2, W385.2.2.2)))) rfl
          · intro k390 hk390
            refine sm_go 1 (s' := (2607, ([lX scr.1, lR 0, lR 56, lR 74, lR 75, lI x1, lI v384, lF z387.1, g3.2.2], ([sI v384], (mSH W385.1 W385.2.1, (z387.2, W385.2.2.2)))))) ?_ rfl
            refine sm_if1n (t := (ieq v384 0)) (pt := 2643) rfl rfl rfl (fun _ => ?_) (fun _ => ?_)
            · refine sm_go 2 (s' := (2613, ([lX scr.1, lR 0, lR 56, lR 74, lR 75, lI x1, lI v384, lF z387.1, g3.2.2], ([sI 0, sR 75], (mSH W385.1 W385.2.1, (z387.2, W385.2.2.2)))))) ?_ rfl
              refine sm_dld rfl rfl fun v391 => ?_
              refine sm_go 1 (s' := (2616, ([lX scr.1, lR 0, lR 56, lR 74, lR 75, lI x1, lI v384, lF z387.1, g3.2.2], ([sF z387.1, sD v391], (mSH W385.1 W385.2.1, (z387.2, W385.2.2.2)))))) ?_ rfl
              refine sm_ftd rfl fun v392 => ?_
              refine sm_go 1 (s' := (2618, ([lX scr.1, lR 0, lR 56, lR 74, lR 75, lI x1, lI v384, lF z387.1, g3.2.2], ([sI (Op.cmpValue (FP.dcmp v391 v392) .l).toInt], (mSH W385.1 W385.2.1, (z387.2, W385.2.2.2)))))) ?_ rfl
              refine sm_if1 (t := (ieq (Op.cmpValue (FP.dcmp v391 v392) .l).toInt 0)) (pt := 2643) rfl rfl rfl (fun _ => ?_) (fun _ => ?_)
              · exact hk390 ()
              · refine sm_go 2 (s' := (2624, ([lX scr.1, lR 0, lR 56, lR 74, lR 75, lI x1, lI v384, lF z387.1, g3.2.2], ([sI 0, sR 75], (mSH W385.1 W385.2.1, (z387.2, W385.2.2.2)))))) ?_ rfl
                refine sm_dld rfl rfl fun v393 => ?_
                refine sm_go 2 (s' := (2628, ([lX scr.1, lR 0, lR 56, lR 74, lR 75, lI x1, lI v384, lF z387.1, g3.2.2], ([sI 0, sR 75, sD v393], (mSH W385.1 W385.2.1, (z387.2, W385.2.2.2)))))) ?_ rfl
                refine sm_dld rfl rfl fun v394 => ?_
                refine sm_go 1 (s' := (2630, ([lX scr.1, lR 0, lR 56, lR 74, lR 75, lI x1, lI v384, lF z387.1, g3.2.2], ([sI (Op.cmpValue (FP.dcmp v393 v394) .l).toInt], (mSH W385.1 W385.2.1, (z387.2, W385.2.2.2)))))) ?_ rfl
                refine sm_if1 (t := (ieq (Op.cmpValue (FP.dcmp v393 v394) .l).toInt 0)) (pt := 2641) rfl rfl rfl (fun _ => ?_) (fun _ => ?_)
                · refine sm_go 1 (s' := (2642, ([lX scr.1, lR 0, lR 56, lR 74, lR 75, lI x1, lI v384, lF z387.1, g3.2.2], ([sI 0], (mSH W385.1 W385.2.1, (z387.2, W385.2.2.2)))))) ?_ rfl
                  exact sm_retB1 (b := false) rfl rfl
                · refine sm_go 3 (s' := (2638, ([lX scr.1, lR 0, lR 56, lR 74, lR 75, lI x1, lI v384, lF z387.1, g3.2.2], ([sI (Op.cmpValue (FP.fcmp z387.1 z387.1) .l).toInt], (mSH W385.1 W385.2.1, (z387.2, W385.2.2.2)))))) ?_ rfl
                  refine sm_if1n (t := (ieq (Op.cmpValue (FP.fcmp z387.1 z387.1) .l).toInt 0)) (pt := 2643) rfl rfl rfl (fun _ => ?_) (fun _ => ?_)
                  · refine sm_go 1 (s' := (2642, ([lX scr.1, lR 0, lR 56, lR 74, lR 75, lI x1, lI v384, lF z387.1, g3.2.2], ([sI 0], (mSH W385.1 W385.2.1, (z387.2, W385.2.2.2)))))) ?_ rfl
                    exact sm_retB1 (b := false) rfl rfl
                  · exact hk390 ()
            · exact hk390 ()
        · refine sm_go 1 (s' := (2604, ([lX scr.1, lR 0, lR 56, lR 74, lR 75, lI x1, lI v384, lF z387.1, g3.2.2], ([sI 0], (mSH W385.1 W385.2.1, (z387.2, W385.2.2.2)))))) ?_ rfl
          exact sm_retB1 (b := false) rfl rfl
      refine sm_sw (fun hw43 => ?_) (fun hw43 => ?_)
      · refine sm_swC (pt := 2646) hw43 rfl rfl ?_
        refine sm_go 1 (s' := (2647, ([lX scr.1, lR 0, lR 56, lR 74, lR 75, lI x1, g3.1, g3.2.1, g3.2.2], ([sR 0], (mSH W2.1 W2.2.1, (W2.2.2.1, W2.2.2.2)))))) ?_ rfl
        refine sm_callG (rest := []) (T_X10_errors scr (d + 13) W2.1 W2.2.1 W2.2.2.2 W2.2.2.1) rfl (Or.inl rfl) rfl rfl rfl rfl (fun _ => rfl) (fun z395 => (2650, ([lX scr.1, lR 0, lR 56, lR 74, lR 75, lI x1, g3.1, g3.2.1, g3.2.2], ([sI z395.1], (mSH W2.1 W2.2.1, (z395.2, W2.2.2.2)))))) (fun _ => rfl) fun z395 => ?_
        refine sm_go 1 (s' := (2651, ([lX scr.1, lR 0, lR 56, lR 74, lR 75, lI x1, g3.1, g3.2.1, g3.2.2], ([sR 56, sI z395.1], (mSH W2.1 W2.2.1, (z395.2, W2.2.2.2)))))) ?_ rfl
        refine sm_callG (rest := [sI z395.1]) (T_X11_errors scr (d + 11) W2.1 W2.2.1 W2.2.2.2 z395.2) rfl (Or.inl rfl) rfl rfl rfl rfl (fun _ => rfl) (fun z396 => (2654, ([lX scr.1, lR 0, lR 56, lR 74, lR 75, lI x1, g3.1, g3.2.1, g3.2.2], ([sI z396.1, sI z395.1], (mSH W2.1 W2.2.1, (z396.2, W2.2.2.2)))))) (fun _ => rfl) fun z396 => ?_
        refine sm_if2 (t := (ieq z395.1 z396.1)) (pt := 2659) rfl rfl rfl (fun _ => ?_) (fun _ => ?_)
        · exact hk8 (g3.1, g3.2.1, g3.2.2) (W2.1, (W2.2.1, (z396.2, W2.2.2.2)))
        · refine sm_go 1 (s' := (2658, ([lX scr.1, lR 0, lR 56, lR 74, lR 75, lI x1, g3.1, g3.2.1, g3.2.2], ([sI 0], (mSH W2.1 W2.2.1, (z396.2, W2.2.2.2)))))) ?_ rfl
          exact sm_retB1 (b := false) rfl rfl
      refine sm_swD (pt := 2659) (by omega) rfl rfl ?_
      exact hk8 (g3.1, g3.2.1, g3.2.2) W2
