/-! ===== least set-up: all rows of jobs in order, the class's search ===== -/
def ap (g : Nat → List (List Nat)) : Nat → List (List Nat)
  | 0 => []
  | m + 1 => ap g m ++ g m
def mb (x : Nat) : List Nat → Bool
  | [] => false
  | d :: l => mb x l || x == d
/-- the rows that end with pf, told from their ends -/
def dK (n : Nat) : Nat → List Nat → List (List Nat)
  | 0, pf => [pf]
  | k + 1, pf => ap (fun d => if mb d pf then [] else dK n k (d :: pf)) n
def fr (n : Nat) (r : List Nat) (i : Nat) : Nat := r.getD (n - 1 - i) 0
def hl (w : wS) (d : Nat) : List Nat → Int
  | [] => 0
  | e :: _ => qSu w (qKd w e) (qKd w d)
def hb (w : wS) : List Nat → Int
  | [] => 0
  | d :: l => hb w l + hl w d l
def tS (w : wS) (t : Int × List Nat) (r : List Nat) : Int × List Nat := if t.1 = -1 ∨ hb w r < t.1 then (hb w r, r) else t
def tkm : List Nat → Nat
  | [] => 0
  | d :: l => setb (tkm l) d
def LN (n : Nat) (l : List Nat) : Prop := ∀ x, x ∈ l → x < n
theorem LN.tl {n d : Nat} {l : List Nat} (h : LN n (d :: l)) : d < n ∧ LN n l := ⟨h d (List.mem_cons_self ..), fun x hx => h x (List.mem_cons_of_mem _ hx)⟩
theorem LN.cs {n d : Nat} {l : List Nat} (hd : d < n) (h : LN n l) : LN n (d :: l) := fun x hx => by
  rcases List.mem_cons.mp hx with e | e
  · rw [e]
    exact hd
  · exact h x e
theorem LN0 (n : Nat) : LN n [] := fun x hx => absurd hx (List.not_mem_nil)
theorem tkm_lt : ∀ {l : List Nat}, LN 6 l → tkm l < 64
  | [], _ => by show (0 : Nat) < 64; omega
  | d :: l, h => setb_lt (tkm_lt h.tl.2) h.tl.1
theorem has0 {x : Nat} (hx : x < 6) : hasb 0 x = false := by
  have : ∀ x : Fin 6, hasb 0 x.1 = false := by decide
  exact this ⟨x, hx⟩
theorem tkm_has {x : Nat} (hx : x < 6) : ∀ {l : List Nat}, LN 6 l → hasb (tkm l) x = mb x l
  | [], _ => has0 hx
  | d :: l, h => by
    show hasb (setb (tkm l) d) x = (mb x l || x == d)
    rw [set_at (tkm_lt h.tl.2) h.tl.1 hx, tkm_has hx h.tl.2]
theorem hl_bd {w : wS} (hw : Wok w) {d : Nat} (hd : d < qN w) : ∀ {l : List Nat}, LN (qN w) l → 0 ≤ hl w d l ∧ hl w d l ≤ 20
  | [], _ => ⟨Int.le_refl 0, by show (0 : Int) ≤ 20; omega⟩
  | e :: _, h => hw.su (hw.kd h.tl.1).2 (hw.kd hd).2
theorem hb_bd {w : wS} (hw : Wok w) : ∀ {l : List Nat}, LN (qN w) l → 0 ≤ hb w l ∧ hb w l ≤ 20 * l.length
  | [], _ => ⟨Int.le_refl 0, by show (0 : Int) ≤ 20 * ((0 : Nat) : Int); omega⟩
  | d :: l, h => by
    have h1 := hb_bd hw h.tl.2
    have h2 := hl_bd hw h.tl.1 h.tl.2
    have e : hb w (d :: l) = hb w l + hl w d l := rfl
    rw [List.length_cons, e]
    omega
theorem ap_mem {g : Nat → List (List Nat)} {r : List Nat} : ∀ {m : Nat}, r ∈ ap g m → ∃ d, d < m ∧ r ∈ g d
  | 0, h => absurd h (List.not_mem_nil)
  | m + 1, h => by
    rcases List.mem_append.mp h with h1 | h1
    · obtain ⟨d, a1, a2⟩ := ap_mem h1
      exact ⟨d, by omega, a2⟩
    · exact ⟨m, Nat.lt_succ_self m, h1⟩
theorem dK_in {w : wS} (hw : Wok w) {r : List Nat} : ∀ {k : Nat} {pf : List Nat}, LN (qN w) pf → r ∈ dK (qN w) k pf → LN (qN w) r ∧ r.length = k + pf.length ∧ hb w pf ≤ hb w r
  | 0, pf, hp, h => by
    have e : r = pf := List.mem_singleton.mp h
    rw [e]
    exact ⟨hp, (Nat.zero_add _).symm, Int.le_refl _⟩
  | k + 1, pf, hp, h => by
    obtain ⟨d, a1, a2⟩ := ap_mem h
    by_cases g : mb d pf = true
    · rw [if_pos g] at a2
      exact absurd a2 (List.not_mem_nil)
    · rw [if_neg g] at a2
      have hd := LN.cs a1 hp
      obtain ⟨b1, b2, b3⟩ := dK_in hw hd a2
      have h2 := hl_bd hw a1 hp
      have e : hb w (d :: pf) = hb w pf + hl w d pf := rfl
      rw [List.length_cons] at b2
      exact ⟨b1, by omega, by omega⟩
theorem foldS_id {w : wS} {t : Int × List Nat} : ∀ {l : List (List Nat)}, (∀ r, r ∈ l → ¬ (t.1 = -1 ∨ hb w r < t.1)) → l.foldl (tS w) t = t
  | [], _ => rfl
  | r :: l, h => by
    have e : tS w t r = t := by
      unfold tS
      rw [if_neg (h r (List.mem_cons_self ..))]
    show l.foldl (tS w) (tS w t r) = t
    rw [e]
    exact foldS_id (fun r hr => h r (List.mem_cons_of_mem _ hr))
theorem fr_lo {d p i : Nat} {l : List Nat} (hi : i < p) : fr (p + 1) (d :: l) i = fr p l i := by
  unfold fr
  rw [show p + 1 - 1 - i = (p - 1 - i) + 1 by omega]
  rfl
theorem fr_hi {d p : Nat} {l : List Nat} : fr (p + 1) (d :: l) p = d := by
  unfold fr
  rw [show p + 1 - 1 - p = 0 by omega]
  rfl
/-- the search's cells: the best row so far, the row under way -/
def TX (w : wS) (t : Int × List Nat) (pf : List Nat) (G0 G : mG) : Prop :=
  ((t.1 = -1 ∧ G 48 4 = 0) ∨ (0 ≤ t.1 ∧ t.1 ≤ 1000 ∧ G 48 4 = 1 ∧ G 48 3 = t.1 ∧ ∀ i, i < qN w → G 50 i = (fr (qN w) t.2 i : Int))) ∧ (∀ i, i < pf.length → G 49 i = (fr pf.length pf i : Int)) ∧ ∀ b, b ≠ 48 → b ≠ 49 → b ≠ 50 → G b = G0 b
theorem S_hoursBehind {w : wS} {G : mG} (hw : Wok w) (hx : XS w G) {pf : List Nat} (hp : LN (qN w) pf) (h6 : pf.length < 6) {x : Nat} (hxn : x < qN w) (hr : ∀ i, i < pf.length → G 49 i = (fr pf.length pf i : Int)) : P_X6_hoursBehind (pf.length : Int) (x : Int) G = some (hl w x pf) := by
  have hn := hw.n
  refine Ok.get ?_
  unfold P_X6_hoursBehind
  match pf, hp, h6, hr with
  | [], _, _, _ => exact Ok.iteT rfl (Ok.so rfl)
  | e :: l, hp, h6, hr =>
    rw [List.length_cons] at h6 hr ⊢
    have he := hp.tl.1
    have k1 := hw.kd he
    have k2 := hw.kd hxn
    refine Ok.condF (ieq_id (by omega) (by omega) (by omega) (by omega)) (by omega) ?_
    refine Ok.ld l.length (by omega) (by omega) (by omega) ?_
    rw [hr l.length (by omega), fr_hi]
    refine Ok.ld e rfl (by omega) (by omega) ?_
    rw [hx.kd hw he]
    refine Ok.ld x rfl (by omega) (by omega) ?_
    rw [hx.kd hw hxn]
    refine Ok.ld (4 * qKd w e + qKd w x) (by omega) (by omega) (by omega) ?_
    rw [hx.at _ (by simp [aok, asz]; omega)]
    exact Ok.so rfl
theorem S_tour {w : wS} {G0 : mG} (hw : Wok w) (hx : XS w G0) : ∀ (N k : Nat) (pf : List Nat) (t : Int × List Nat) (G : mG), k < N → LN (qN w) pf → k + pf.length = qN w → TX w t pf G0 G → Ok (P_X6_explore N (pf.length : Int) (tkm pf : Int) (hb w pf) G) (fun G' => TX w ((dK (qN w) k pf).foldl (tS w) t) pf G0 G') := by
  have hn := hw.n
  intro N
  induction N with
  | zero =>
    intro k pf t G h1
    exact absurd h1 (Nat.not_lt_zero _)
  | succ N ih =>
    intro k pf t G hkN hp hlen hX
    have hp6 : LN 6 pf := fun x hx => by
      have := hp x hx
      omega
    have hbd := hb_bd hw hp
    have hf : ∀ G' : mG, (∀ b, b ≠ 48 → b ≠ 49 → b ≠ 50 → G' b = G0 b) → XS w G' := fun G' h a b hab => by
      have := hab.lo
      rw [h a (by omega) (by omega) (by omega)]
      exact hx a b hab
    unfold P_X6_explore
    refine Ok.jnP (t.1 = -1 ∨ hb w pf < t.1) (fun hg => ?_) (fun k18 hk18 => ?_)
    · rw [(hf G hX.2.2).n hw]
      match k, hkN, hlen with
      | 0, hkN, hlen =>
        refine Ok.condF (ilt_nat (by omega) (by omega)) (by omega) ?_
        refine Ok.puZ (Or.inr rfl) ?_
        refine Ok.pu ?_
        refine Ok.ac 0 0 6 rfl rfl rfl (by omega) (by omega) (by omega) (by omega) (Ok.so ?_)
        have e : (dK (qN w) 0 pf).foldl (tS w) t = (hb w pf, pf) := by
          show tS w t pf = _
          unfold tS
          rw [if_pos hg]
        rw [e]
        refine ⟨Or.inr ⟨hbd.1, by dsimp only; omega, ?_, ?_, fun i hi => ?_⟩, fun i hi => ?_, fun b b1 b2 b3 => ?_⟩
        · rw [upG_ne (by omega), up2_eq, up1_ne (by omega), up2_eq, up1_eq]
        · rw [upG_ne (by omega), up2_eq, up1_eq]
        · rw [upG_eq]
          unfold cpyF
          rw [if_pos (by omega), up2_ne (by omega), up2_ne (by omega), show 0 + (i - 0) = i by omega, hX.2.1 i (by omega), show pf.length = qN w by omega]
        · rw [upG_ne (by omega), up2_ne (by omega), up2_ne (by omega)]
          exact hX.2.1 i hi
        · rw [upG_ne b3, up2_ne b1, up2_ne b1]
          exact hX.2.2 b b1 b2 b3
      | k + 1, hkN, hlen =>
        refine Ok.condT (ilt_nat (by omega) (by omega)) (by omega) ?_
        refine Ok.forC (fun x G' => TX w ((ap (fun d => if mb d pf then [] else dK (qN w) k (d :: pf)) x).foldl (tS w) t) pf G0 G') (qN w) LF (LF_lt (by omega)) hX (fun x hxn again G6 hI hk => ?_) (fun again G6 hI => ?_)
        · have hx6 := hf G6 hI.2.2
          rw [hx6.n hw]
          refine Ok.condT (ilt_nat (by omega) (by omega)) hxn ?_
          have happ : (ap (fun d => if mb d pf then [] else dK (qN w) k (d :: pf)) (x + 1)).foldl (tS w) t = (if mb x pf then [] else dK (qN w) k (x :: pf)).foldl (tS w) ((ap (fun d => if mb d pf then [] else dK (qN w) k (d :: pf)) x).foldl (tS w) t) := List.foldl_append ..
          generalize (ap (fun d => if mb d pf then [] else dK (qN w) k (d :: pf)) x).foldl (tS w) t = t2 at hI happ
          refine Ok.jn1 (fun G' => TX w ((if mb x pf then [] else dK (qN w) k (x :: pf)).foldl (tS w) t2) pf G0 G') (fun G' h => hk G' (by rw [happ]; exact h)) (fun k11 hk11 => ?_)
          refine Ok.cd (t1_b (tkm_lt hp6) (show x < 6 by omega)) (fun g => ?_) (fun g => ?_)
          · rw [tkm_has (show x < 6 by omega) hp6] at g
            rw [if_neg g] at hk11
            refine Ok.sto pf.length rfl (by omega) (by omega) ?_
            have hX2 : TX w t2 (x :: pf) G0 (up2 G6 49 pf.length (x : Int)) := by
              refine ⟨?_, fun i hi => ?_, fun b b1 b2 b3 => by rw [up2_ne b2]; exact hI.2.2 b b1 b2 b3⟩
              · rw [up2_ne (by omega), up2_ne (by omega)]
                exact hI.1
              · rw [List.length_cons] at hi ⊢
                rw [up2_eq, up1_if]
                by_cases e : i = pf.length
                · rw [if_pos e, e, fr_hi]
                · rw [if_neg e, fr_lo (by omega)]
                  exact hI.2.1 i (by omega)
            have hx12 := hf _ hX2.2.2
            refine Ok.eq (S_hoursBehind hw hx12 hp (by omega) hxn (fun i hi => ?_)) ?_
            · rw [up2_eq, up1_if, if_neg (by omega)]
              exact hI.2.1 i hi
            · rw [or_b (tkm_lt hp6) (show x < 6 by omega)]
              have hcall := ih k (x :: pf) t2 _ (by omega) (LN.cs hxn hp) (by rw [List.length_cons]; omega) hX2
              have e1 : ((x :: pf).length : Int) = (pf.length : Int) + 1 := by
                rw [List.length_cons]
                omega
              rw [e1] at hcall
              refine Ok.bind (show Ok (P_X6_explore N ((pf.length : Int) + 1) (setb (tkm pf) x : Int) (hb w pf + hl w x pf) (up2 G6 49 pf.length (x : Int))) _ from hcall) (fun G14 h14 => ?_)
              refine hk11 _ ⟨h14.1, fun i hi => ?_, h14.2.2⟩
              have := h14.2.1 i (by rw [List.length_cons]; omega)
              rw [this, List.length_cons, fr_lo hi]
          · have g : mb x pf = true := by
              rw [tkm_has (show x < 6 by omega) hp6] at g
              cases hb : mb x pf
              · exact absurd (by rw [hb]; exact Bool.false_ne_true) g
              · rfl
            rw [if_pos g] at hk11
            exact hk11 _ hI
        · rw [(hf G6 hI.2.2).n hw]
          refine Ok.condF (ilt_nat (by omega) (by omega)) (by omega) ?_
          exact Ok.so hI
    · rcases hX.1 with ⟨e1, e2⟩ | ⟨e1, e2, e3, e4, e5⟩
      · rw [e2]
        exact Ok.iteT rfl (hk18 (Or.inl e1))
      · rw [e3, e4]
        refine Ok.iteF rfl ?_
        refine Ok.cd (ilt_id (by omega) (by omega) (by omega) (by omega)) (fun g => hk18 (Or.inr g)) (fun g => Ok.so ?_)
        rw [foldS_id (fun r hr => ?_)]
        · exact hX
        · have := (dK_in hw hp hr).2.2
          omega
/-- the least set-up and its row -/
def vT (w : wS) : Int × List Nat := (dK (qN w) (qN w) []).foldl (tS w) (-1, [])
theorem foldS_pos {w : wS} (hw : Wok w) : ∀ {l : List (List Nat)} {t : Int × List Nat}, (∀ r, r ∈ l → LN (qN w) r) → -1 ≤ t.1 → (l ≠ [] ∨ 0 ≤ t.1) → 0 ≤ (l.foldl (tS w) t).1
  | [], t, _, _, h => by
    rcases h with h | h
    · exact absurd rfl h
    · exact h
  | r :: l, t, hl, ht, _ => by
    have h1 := hb_bd hw (hl r (List.mem_cons_self ..))
    have h2 : 0 ≤ (tS w t r).1 := by
      unfold tS
      split
      · exact h1.1
      · next h =>
        have : ¬ t.1 = -1 ∧ ¬ hb w r < t.1 := ⟨fun e => h (Or.inl e), fun e => h (Or.inr e)⟩
        omega
    exact foldS_pos hw (l := l) (t := tS w t r) (fun r' h' => hl r' (List.mem_cons_of_mem _ h')) (by omega) (Or.inr h2)
theorem dK_ne : ∀ n : Fin 4, (dK (n.1 + 3) (n.1 + 3) []).isEmpty = false := by decide +kernel
theorem vT_pos {w : wS} (hw : Wok w) : 0 ≤ (vT w).1 := by
  have hn := hw.n
  unfold vT
  refine foldS_pos hw (fun r hr => (dK_in hw (LN0 _) hr).1) (Int.le_refl _) (Or.inl (fun e => ?_))
  have h := dK_ne ⟨qN w - 3, by omega⟩
  dsimp only at h
  rw [show qN w - 3 + 3 = qN w by omega, e] at h
  exact Bool.false_ne_true h.symm
theorem S_tourSearch {w : wS} {G : mG} (hw : Wok w) (hx : XS w G) : Ok (P_X6_search G) (fun G' => G' 48 3 = (vT w).1 ∧ (∀ i, i < qN w → G' 50 i = (fr (qN w) (vT w).2 i : Int)) ∧ KQ G G') := by
  have hn := hw.n
  unfold P_X6_search
  refine Ok.pu ?_
  refine Ok.puZ (Or.inl rfl) ?_
  have hx2 : XS w (up2 (up2 G 48 3 0) 48 4 0) := fun a i ha => by
    have := ha.lo
    rw [up2_ne (by omega), up2_ne (by omega)]
    exact hx a i ha
  have h0 : TX w (-1, []) [] (up2 (up2 G 48 3 0) 48 4 0) (up2 (up2 G 48 3 0) 48 4 0) := ⟨Or.inl ⟨rfl, by rw [up2_eq, up1_eq]⟩, fun i hi => absurd hi (Nat.not_lt_zero _), fun _ _ _ _ => rfl⟩
  have hc := S_tour hw hx2 8 (qN w) [] (-1, []) _ (by omega) (LN0 _) rfl h0
  refine Ok.bind (show Ok (P_X6_explore 8 0 0 0 (up2 (up2 G 48 3 0) 48 4 0)) _ from hc) (fun G3 h3 => Ok.so ?_)
  have hpos := vT_pos hw
  have hX : TX w (vT w) [] (up2 (up2 G 48 3 0) 48 4 0) G3 := h3
  rcases hX.1 with ⟨e1, e2⟩ | ⟨e1, e2, e3, e4, e5⟩
  · omega
  · refine ⟨e4, e5, KQ.of (fun b hb => ?_)⟩
    rw [hX.2.2 b (by omega) (by omega) (by omega), up2_ne (by omega), up2_ne (by omega)]
