/-! ===== the class's readings of the shop and of a timetable ===== -/
/-- sizes of the shop's rows, by their places -/
def asz (a : Nat) : Nat := if a = 7 then 30 else if a = 8 then 30 else if a = 9 then 4 else if a = 10 then 16 else if a = 11 then 16 else if a = 12 then 4 else if a = 13 then 4 else if a = 14 then 16 else if a = 16 then 30 else 6
def aok (a i : Nat) : Prop := (a = 1 ∧ (i = 0 ∨ i = 15)) ∨ (2 ≤ a ∧ a ≤ 16 ∧ i < asz a)
theorem aok.lo {a i : Nat} (h : aok a i) : 1 ≤ a ∧ a ≤ 16 := by
  unfold aok at h
  omega
def XS (w : wS) (G : mG) : Prop := ∀ a i, aok a i → G a i = w a i
section XS1
variable {w : wS} {G : mG}
theorem XS.at (hx : XS w G) {a : Nat} (j : Nat) (h : aok a j) : G a j = w a j := hx a j h
theorem XS.n (hw : Wok w) (hx : XS w G) : G 1 0 = (qN w : Int) := (hx.at 0 (by simp [aok, asz] <;> omega)).trans hw.n.1
theorem XS.st (hw : Wok w) (hx : XS w G) {j : Nat} (hj : j < qN w) : G 6 j = (qSt w j : Int) := by
  have hn := hw.n
  exact (hx.at j (by simp [aok, asz] <;> omega)).trans (hw.st hj).1
theorem XS.kd (hw : Wok w) (hx : XS w G) {j : Nat} (hj : j < qN w) : G 5 j = (qKd w j : Int) := by
  have hn := hw.n
  exact (hx.at j (by simp [aok, asz] <;> omega)).trans (hw.kd hj).1
theorem XS.mc (hw : Wok w) (hx : XS w G) {j s : Nat} (hj : j < qN w) (hs : s < qSt w j) : G 7 (5 * j + s) = (qMc w (5 * j + s) : Int) := by
  have hn := hw.n
  have h5 := (hw.st hj).2
  exact (hx.at _ (by simp [aok, asz] <;> omega)).trans (hw.mc hj hs).1
theorem XS.hr (hw : Wok w) (hx : XS w G) {j s : Nat} (h : 5 * j + s < 30) : G 8 (5 * j + s) = qHr w (5 * j + s) := hx.at _ (by simp [aok, asz] <;> omega)
theorem XS.cn (hw : Wok w) (hx : XS w G) {m : Nat} (hm : m < 4) : G 9 m = (qCn w m : Int) := (hx.at m (by simp [aok, asz] <;> omega)).trans (hw.cn hm).1
theorem S_firstOpen (hw : Wok w) (hx : XS w G) {m : Nat} (hm : m < 4) {h len : Int} (h1 : 0 ≤ h ∧ h ≤ 100000) (h2 : 0 ≤ len ∧ len ≤ 1000) : P_X7_firstOpen (m : Int) h len G = some (qOpen w m h len) := by
  have hc4 := (hw.cn hm).2
  have hcn := hx.cn hw hm
  refine Ok.get ?_
  unfold P_X7_firstOpen
  refine Ok.seq2 (fun k => it (fun _ => qRo w m len) k h) (fun k => (k : Int)) (qCn w m) LF (LF_lt (by omega)) (fun k hk again hag => ?_) (fun again => ?_)
  · have b1 : h ≤ it (fun _ => qRo w m len) k h := it_inv (fun _ x => h ≤ x) (Int.le_refl h) (fun _ _ x hx => Int.le_trans hx (qRo_le w m len x))
    have b2 : it (fun _ => qRo w m len) k h ≤ 100000 := it_inv (fun _ x => x ≤ 100000) h1.2 (fun _ _ _ hx => qRo_hi hw hm hx (by omega))
    generalize hH : it (fun _ => qRo w m len) k h = H at b1 b2 ⊢
    refine Ok.ld m rfl hm (by omega) ?_
    rw [hcn]
    refine Ok.condT (ilt_nat (by omega) (by omega)) hk ?_
    refine Ok.jn1 (fun y => y = qRo w m len H) (fun y hy => ?_) (fun k11 hk11 => ?_)
    · subst hy
      rw [← hH]
      exact hag
    · refine Ok.seq2 (fun c => it (qO1 w m len) c H) (fun c => (c : Int)) (qCn w m) LF (LF_lt (by omega)) (fun c hc again2 hag2 => ?_) (fun again2 => ?_)
      · have b3 : H ≤ it (qO1 w m len) c H := qRoK_le w m len c H
        have b4 : it (qO1 w m len) c H ≤ 100000 := it_inv (fun _ x => x ≤ 100000) b2 (fun _ hk _ hx => qO1_hi hw hm (by omega) hx (by omega))
        have e5 : qO1 w m len c (it (qO1 w m len) c H) = it (qO1 w m len) (c + 1) H := rfl
        generalize hH2 : it (qO1 w m len) c H = H2 at b3 b4 e5 ⊢
        have hcl := hw.cl hm hc
        have e1 : G 10 (4 * m + c) = qCf w (4 * m + c) := hx.at _ (by simp [aok, asz] <;> omega)
        have e2 : G 11 (4 * m + c) = qCt w (4 * m + c) := hx.at _ (by simp [aok, asz] <;> omega)
        refine Ok.ld m rfl hm (by omega) ?_
        rw [hcn]
        refine Ok.condT (ilt_nat (by omega) (by omega)) hc ?_
        refine Ok.ld (4 * m + c) (by omega) (by omega) (by omega) ?_
        rw [e2]
        refine Ok.jn1 (fun y => y = qO1 w m len c H2) (fun y hy => ?_) (fun k20 hk20 => ?_)
        · subst hy
          rw [e5]
          exact hag2
        · refine Ok.cd (ilt_id (by omega) (by omega) (by omega) (by omega)) (fun g1 => ?_) (fun g1 => ?_)
          · refine Ok.ld (4 * m + c) (by omega) (by omega) (by omega) ?_
            rw [e1]
            refine Ok.cd (ilt_id (by omega) (by omega) (by omega) (by omega)) (fun g2 => ?_) (fun g2 => ?_)
            · refine Ok.ld (4 * m + c) (by omega) (by omega) (by omega) ?_
              rw [e2]
              refine hk20 _ ?_
              unfold qO1
              rw [if_pos ⟨g1, g2⟩]
            · refine hk20 _ ?_
              unfold qO1
              rw [if_neg (fun h => g2 h.2)]
          · refine hk20 _ ?_
            unfold qO1
            rw [if_neg (fun h => g1 h.1)]
      · refine Ok.ld m rfl hm (by omega) ?_
        rw [hcn]
        refine Ok.condF (ilt_nat (by omega) (by omega)) (Nat.lt_irrefl _) ?_
        exact hk11 _ rfl
  · refine Ok.ld m rfl hm (by omega) ?_
    rw [hcn]
    refine Ok.condF (ilt_nat (by omega) (by omega)) (Nat.lt_irrefl _) ?_
    exact Ok.so rfl
theorem S_stepTotal (hw : Wok w) (hx : XS w G) : P_X7_stepTotal G = some (qTot w) := by
  have hn := hw.n
  refine Ok.get ?_
  unfold P_X7_stepTotal
  refine Ok.seq2 (fun k => sm (fun j => (qSt w j : Int)) k) (fun k => (k : Int)) (qN w) LF (LF_lt (by omega)) (fun k hk again hag => ?_) (fun again => ?_)
  · rw [hx.n hw]
    refine Ok.condT (ilt_nat (by omega) (by omega)) hk ?_
    refine Ok.ld k rfl (by omega) (by omega) ?_
    rw [hx.st hw hk]
    exact hag
  · rw [hx.n hw]
    refine Ok.condF (ilt_nat (by omega) (by omega)) (Nat.lt_irrefl _) ?_
    exact Ok.so rfl
end XS1
