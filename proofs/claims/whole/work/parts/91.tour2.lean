/-! ===== least set-up: the model goes from row to row ===== -/
def sw (f : Nat → Nat) (a b : Nat) : Nat → Nat := fun x => if x = b then f a else if x = a then f b else f x
def pvF (f : Nat → Nat) : Nat → Nat
  | 0 => 0
  | k + 1 => if f (k + 1) < f k then pvF f k else k + 1
def jxF (f : Nat → Nat) (i : Nat) : Nat → Nat
  | 0 => 0
  | k + 1 => if f (k + 1) < f i then jxF f i k else k + 1
def rvF : Nat → (Nat → Nat) → Nat → Nat → (Nat → Nat)
  | 0, f, _, _ => f
  | m + 1, f, a, b => if a < b then rvF m (sw f a b) (a + 1) (b - 1) else f
def nxF (n : Nat) (f : Nat → Nat) : Option (Nat → Nat) := if pvF f (n - 1) = 0 then none else some (rvF 6 (sw f (pvF f (n - 1) - 1) (jxF f (pvF f (n - 1) - 1) (n - 1))) (pvF f (n - 1)) (n - 1))
theorem pvF_le {f : Nat → Nat} : ∀ k, pvF f k ≤ k
  | 0 => Nat.le_refl 0
  | k + 1 => by
    have := pvF_le (f := f) k
    show (if f (k + 1) < f k then pvF f k else k + 1) ≤ k + 1
    split <;> omega
/-- a list of rows in which each is the next one of the one ahead -/
def allB (n : Nat) (p : Nat → Bool) : Bool := Nat.rec (motive := fun _ => Bool) true (fun k b => b && p k) n
theorem allB_at {p : Nat → Bool} : ∀ {n : Nat}, allB n p = true → ∀ i, i < n → p i = true
  | 0, _, i, hi => absurd hi (Nat.not_lt_zero _)
  | n + 1, h, i, hi => by
    have h : (allB n p && p n) = true := h
    rw [Bool.and_eq_true] at h
    by_cases e : i = n
    · rw [e]
      exact h.2
    · exact allB_at h.1 i (by omega)
def chkP (n : Nat) (o : Option (Nat → Nat)) (l : List (List Nat)) : Bool := match o, l with
  | none, [] => true
  | some g, r' :: _ => allB n (fun i => Nat.beq (g i) (fr n r' i))
  | none, _ :: _ => false
  | some _, [] => false
theorem chkP_c {n : Nat} {o : Option (Nat → Nat)} {l : List (List Nat)} (h : chkP n o l = true) : (o = none ∧ l = []) ∨ ∃ g r' l2, o = some g ∧ l = r' :: l2 ∧ allB n (fun i => Nat.beq (g i) (fr n r' i)) = true :=
  match o, l, h with
  | none, [], _ => Or.inl ⟨rfl, rfl⟩
  | some g, r' :: l2, h => Or.inr ⟨g, r', l2, rfl, rfl, h⟩
  | none, _ :: _, h => absurd h Bool.false_ne_true
  | some _, [], h => absurd h Bool.false_ne_true
def chk (n : Nat) : List (List Nat) → Bool
  | [] => true
  | r :: l => allB n (fun i => Nat.blt (fr n r i) n) && chkP n (nxF n (fr n r)) l && chk n l
def chk0 (n : Nat) : Bool := match dK n n [] with
  | [] => false
  | r :: l => allB n (fun i => Nat.beq (fr n r i) i) && chk n (r :: l)
theorem chk0_all : ∀ n : Fin 4, chk0 (n.1 + 3) = true := by decide +kernel
theorem chk0_n {w : wS} (hw : Wok w) : chk0 (qN w) = true := by
  have hn := hw.n
  have h := chk0_all ⟨qN w - 3, by omega⟩
  dsimp only at h
  rw [show qN w - 3 + 3 = qN w by omega] at h
  exact h
theorem M_turns {G : mG} {n a b : Nat} {f : Nat → Nat} (hn : n ≤ 6) (hf : ∀ i, i < n → G 70 i = (f i : Int)) (ha : a < n) (hb : b < n) : Ok (P_X11_turns (a : Int) (b : Int) G) (fun G' => (∀ i, i < n → G' 70 i = (sw f a b i : Int)) ∧ ∀ c, c ≠ 70 → G' c = G c) := by
  unfold P_X11_turns
  refine Ok.ld a rfl (by omega) (by omega) ?_
  refine Ok.ld b rfl (by omega) (by omega) ?_
  refine Ok.sto a rfl (by omega) (by omega) ?_
  refine Ok.sto b rfl (by omega) (by omega) (Ok.so ⟨fun i hi => ?_, fun c hc => by rw [up2_ne hc, up2_ne hc]⟩)
  rw [up2_eq, up2_eq, up1_if, up1_if, hf a ha, hf b hb, hf i hi]
  unfold sw
  by_cases e1 : i = b
  · rw [if_pos e1, if_pos e1]
  · rw [if_neg e1, if_neg e1]
    by_cases e2 : i = a
    · rw [if_pos e2, if_pos e2]
    · rw [if_neg e2, if_neg e2]
theorem M_nextRow {w : wS} {G : mG} (hw : Wok w) (hm : MD w (G 57)) {f : Nat → Nat} (hf : ∀ i, i < qN w → G 70 i = (f i : Int)) (hlt : ∀ i, i < qN w → f i < qN w) : Ok (P_X11_nextRow G) (fun z => (nxF (qN w) f = none → z.1 = false) ∧ (∀ g, nxF (qN w) f = some g → z.1 = true ∧ ∀ i, i < qN w → z.2 70 i = (g i : Int)) ∧ ∀ c, c ≠ 70 → z.2 c = G c) := by
  have hn := hw.n
  have hpl := pvF_le (f := f) (qN w - 1)
  have hnx : nxF (qN w) f = if pvF f (qN w - 1) = 0 then none else some (rvF 6 (sw f (pvF f (qN w - 1) - 1) (jxF f (pvF f (qN w - 1) - 1) (qN w - 1))) (pvF f (qN w - 1)) (qN w - 1)) := rfl
  unfold P_X11_nextRow
  refine Ok.ld 0 rfl (by omega) (by omega) ?_
  rw [hm.1, hn.1]
  refine Ok.jn1 (fun x => x = (pvF f (qN w - 1) : Int) - 1) (fun x hx => ?_) (fun k19 hk19 => ?_)
  · subst hx
    generalize pvF f (qN w - 1) = P at hpl hnx ⊢
    refine Ok.cd (ilt_id (by omega) (by omega) (by omega) (by omega)) (fun g => ?_) (fun g => ?_)
    · rw [if_pos (by omega)] at hnx
      exact Ok.so ⟨fun _ => rfl, fun g' h => by rw [hnx] at h; exact absurd h (by simp), fun _ _ => rfl⟩
    · rw [if_neg (by omega)] at hnx
      refine Ok.jn1 (fun x => x = (jxF f (P - 1) (qN w - 1) : Int) ∧ jxF f (P - 1) (qN w - 1) < qN w) (fun x hx => ?_) (fun k13 hk13 => ?_)
      · obtain ⟨rfl, hJ⟩ := hx
        have ei : (P : Int) - 1 = ((P - 1 : Nat) : Int) := by omega
        rw [ei]
        refine Ok.bind (M_turns (by omega) hf (show P - 1 < qN w by omega) hJ) (fun G6 hG6 => ?_)
        refine Ok.lp3 (fun M x y G9 => ∃ (a b : Nat) (g : Nat → Nat), x = (a : Int) ∧ y = (b : Int) ∧ b < qN w ∧ (b ≤ a + M ∧ a + M ≤ 100) ∧ (∀ i, i < qN w → G9 70 i = (g i : Int)) ∧ rvF M g a b = rvF 6 (sw f (P - 1) (jxF f (P - 1) (qN w - 1))) P (qN w - 1) ∧ ∀ c, c ≠ 70 → G9 c = G c) (fun M again x y G9 hI hk => ?_) LF 6 _ _ G6 (LF_lt (by omega)) ⟨P, qN w - 1, _, by omega, by omega, by omega, by omega, hG6.1, rfl, hG6.2⟩
        obtain ⟨a, b, g2, rfl, rfl, hb, hbM, hg, hrv, hfr⟩ := hI
        refine Ok.cd (ilt_nat (by omega) (by omega)) (fun g3 => ?_) (fun g3 => ?_)
        · match M, hbM, hrv, hk with
          | 0, hbM, _, _ => omega
          | M + 1, hbM, hrv, hk =>
            refine Ok.bind (M_turns (by omega) hg (show a < qN w by omega) hb) (fun G12 hG12 => ?_)
            refine hk M _ _ _ (Nat.lt_succ_self M) ⟨a + 1, b - 1, _, rfl, by omega, by omega, by omega, hG12.1, ?_, fun c hc => (hG12.2 c hc).trans (hfr c hc)⟩
            rw [← hrv]
            show _ = if a < b then rvF M (sw g2 a b) (a + 1) (b - 1) else g2
            rw [if_pos g3]
        · refine Ok.so ⟨fun h => by rw [hnx] at h; exact absurd h (by simp), fun g' h => ⟨rfl, fun i hi => ?_⟩, hfr⟩
          rw [hnx] at h
          have h := Option.some.inj h
          have e : rvF M g2 a b = g2 := by
            match M with
            | 0 => rfl
            | M + 1 => exact if_neg g3
          rw [← h, ← hrv, e]
          exact hg i hi
      · refine Ok.lp1 (fun M x => x = (M : Int) ∧ P - 1 ≤ M ∧ M < qN w ∧ jxF f (P - 1) M = jxF f (P - 1) (qN w - 1)) (fun M again x hI hk => ?_) LF (qN w - 1) _ (LF_lt (by omega)) ⟨by omega, by omega, by omega, rfl⟩
        obtain ⟨rfl, h1, h2, h3⟩ := hI
        have f1 := hlt M h2
        have f2 := hlt (P - 1) (by omega)
        refine Ok.ld M rfl (by omega) (by omega) ?_
        rw [hf M h2]
        refine Ok.ld (P - 1) (by omega) (by omega) (by omega) ?_
        rw [hf (P - 1) (by omega)]
        refine Ok.cd (ilt_nat (by omega) (by omega)) (fun g4 => ?_) (fun g4 => ?_)
        · have hne : M ≠ P - 1 := fun e => by
            rw [e] at g4
            omega
          match M, h1, h2, h3, hk, g4, hne with
          | 0, h1, _, _, _, _, hne => omega
          | M + 1, h1, h2, h3, hk, g4, hne =>
            refine hk M _ (Nat.lt_succ_self M) ⟨by omega, by omega, by omega, ?_⟩
            rw [← h3]
            exact (if_pos g4).symm
        · have e : jxF f (P - 1) M = M := by
            match M, g4 with
            | 0, _ => rfl
            | M + 1, g4 => exact if_neg g4
          rw [e] at h3
          exact hk13 _ ⟨by rw [h3], by omega⟩
  · refine Ok.lp1 (fun M x => x = (M : Int) - 1 ∧ M ≤ qN w - 1 ∧ pvF f M = pvF f (qN w - 1)) (fun M again x hI hk => ?_) LF (qN w - 1) _ (LF_lt (by omega)) ⟨by omega, by omega, rfl⟩
    obtain ⟨rfl, h1, h2⟩ := hI
    refine Ok.cd (ilt_id (by omega) (by omega) (by omega) (by omega)) (fun g => ?_) (fun g => ?_)
    · have : M = 0 := by omega
      subst this
      refine hk19 _ ?_
      rw [← h2]
      rfl
    · match M, h1, h2, hk, g with
      | 0, _, _, _, g => omega
      | M + 1, h1, h2, hk, _ =>
        have f1 := hlt M (by omega)
        have f2 := hlt (M + 1) (by omega)
        refine Ok.ld M (by omega) (by omega) (by omega) ?_
        rw [hf M (by omega)]
        refine Ok.ld (M + 1) (by omega) (by omega) (by omega) ?_
        rw [hf (M + 1) (by omega)]
        have e : pvF f (M + 1) = if f (M + 1) < f M then pvF f M else M + 1 := rfl
        refine Ok.cd (ilt_nat (by omega) (by omega)) (fun g4 => ?_) (fun g4 => ?_)
        · rw [if_pos g4] at e
          exact hk M _ (Nat.lt_succ_self M) ⟨by omega, by omega, e.symm.trans h2⟩
        · rw [if_neg g4] at e
          refine hk19 _ ?_
          rw [← h2, e]
theorem hb_dr {w : wS} {n i : Nat} {r : List Nat} (hlen : r.length = n) (h : i + 1 < n) : hb w (r.drop (n - 1 - (i + 1))) = hb w (r.drop (n - 1 - i)) + qSu w (qKd w (fr n r i)) (qKd w (fr n r (i + 1))) := by
  have h1 : n - 1 - (i + 1) < r.length := by omega
  have h2 : n - 1 - i < r.length := by omega
  have e0 : n - 1 - (i + 1) + 1 = n - 1 - i := by omega
  have d1 : r.drop (n - 1 - (i + 1)) = r[n - 1 - (i + 1)] :: r.drop (n - 1 - i) := by
    rw [List.drop_eq_getElem_cons h1, e0]
  have d2 : r.drop (n - 1 - i) = r[n - 1 - i] :: r.drop (n - 1 - i + 1) := List.drop_eq_getElem_cons h2
  have f1 : fr n r (i + 1) = r[n - 1 - (i + 1)] := by
    unfold fr
    rw [List.getD_eq_getElem?_getD, List.getElem?_eq_getElem h1]
    rfl
  have f2 : fr n r i = r[n - 1 - i] := by
    unfold fr
    rw [List.getD_eq_getElem?_getD, List.getElem?_eq_getElem h2]
    rfl
  rw [d1]
  show hb w (r.drop (n - 1 - i)) + hl w r[n - 1 - (i + 1)] (r.drop (n - 1 - i)) = _
  rw [f1, f2, d2]
  rfl
theorem hb_one {w : wS} {n : Nat} {r : List Nat} (hl : r.length = n) (h : 0 < n) : hb w (r.drop (n - 1 - 0)) = 0 := by
  have h1 : n - 1 - 0 < r.length := by omega
  rw [List.drop_eq_getElem_cons h1, show n - 1 - 0 + 1 = r.length by omega, List.drop_length]
  rfl
theorem M_setup {w : wS} {G : mG} (hw : Wok w) (hm : MD w (G 57)) : Ok (P_X11_setup G) (fun z => z.1 = (vT w).1 ∧ (∀ i, i < qN w → z.2 71 i = (fr (qN w) (vT w).2 i : Int)) ∧ ∀ b, b ≠ 70 → b ≠ 71 → z.2 b = G b) := by
  have hn := hw.n
  have hpos := vT_pos hw
  have hchk := chk0_n hw
  have hmem : ∀ r, r ∈ dK (qN w) (qN w) [] → LN (qN w) r ∧ r.length = qN w := fun r hr => by
    have := dK_in hw (LN0 _) hr
    exact ⟨this.1, this.2.1⟩
  unfold P_X11_setup
  refine Ok.jn1 (fun G1 => (∀ i, i < qN w → G1 70 i = (i : Int)) ∧ ∀ b, b ≠ 70 → G1 b = G b) (fun G1 h1 => ?_) (fun k29 hk29 => ?_)
  · obtain ⟨l0, hl0⟩ : ∃ l0, l0 = dK (qN w) (qN w) [] := ⟨_, rfl⟩
    have hT : vT w = l0.foldl (tS w) (-1, []) := by
      rw [hl0]
      rfl
    rw [← hl0] at hmem
    unfold chk0 at hchk
    rw [← hl0] at hchk
    refine Ok.lp3 (fun M x y G5 => ∃ (t : Int × List Nat) (l : List (List Nat)), M = l.length ∧ l.foldl (tS w) t = vT w ∧ x = t.1 ∧ -1 ≤ t.1 ∧ t.1 ≤ 1000 ∧ (0 ≤ t.1 → ∀ i, i < qN w → G5 71 i = (fr (qN w) t.2 i : Int)) ∧ (∀ r, r ∈ l → LN (qN w) r ∧ r.length = qN w) ∧ chk (qN w) l = true ∧ ((l = [] ∧ y = 0) ∨ ∃ r l', l = r :: l' ∧ y = 1 ∧ ∀ i, i < qN w → G5 70 i = (fr (qN w) r i : Int)) ∧ ∀ b, b ≠ 70 → b ≠ 71 → G5 b = G b) (fun M again x y G5 hI hk => ?_) LF l0.length (-1) 1 G1 (LF_lt ?_) ⟨(-1, []), l0, rfl, hT.symm, rfl, Int.le_refl _, by dsimp only; omega, fun h => absurd h (by dsimp only; omega), hmem, ?_, Or.inr ?_, fun b b1 b2 => h1.2 b b1⟩
    · obtain ⟨t, l, rfl, hfold, rfl, ht1, ht2, h71, hall, hc, hcase, hfr⟩ := hI
      rcases hcase with ⟨rfl, rfl⟩ | ⟨r, l', rfl, rfl, h70⟩
      · refine Ok.iteT rfl ?_
        have hfold : t = vT w := hfold
        rw [hfold] at h71 ⊢
        exact Ok.so ⟨rfl, h71 hpos, hfr⟩
      · refine Ok.iteF rfl ?_
        have hr := hall r (List.mem_cons_self ..)
        have hbd := hb_bd hw hr.1
        have hfold : l'.foldl (tS w) (tS w t r) = vT w := hfold
        have hc : (allB (qN w) (fun i => Nat.blt (fr (qN w) r i) (qN w)) && chkP (qN w) (nxF (qN w) (fr (qN w) r)) l' && chk (qN w) l') = true := hc
        rw [Bool.and_eq_true, Bool.and_eq_true] at hc
        have hlt : ∀ i, i < qN w → fr (qN w) r i < qN w := fun i hi => Nat.blt_eq.mp (allB_at hc.1.1 i hi)
        have hm5 : MD w (G5 57) := by
          rw [hfr 57 (by omega) (by omega)]
          exact hm
        refine Ok.jn1 (fun v => v = hb w r) (fun v hv => ?_) (fun k18 hk18 => ?_)
        · subst hv
          refine Ok.jn2 (fun v G11 => v = (tS w t r).1 ∧ (0 ≤ (tS w t r).1 → ∀ i, i < qN w → G11 71 i = (fr (qN w) (tS w t r).2 i : Int)) ∧ (∀ i, i < qN w → G11 70 i = (fr (qN w) r i : Int)) ∧ ∀ b, b ≠ 70 → b ≠ 71 → G11 b = G b) (fun v G11 hv => ?_) (fun k14 hk14 => ?_)
          · obtain ⟨rfl, v1, v2, v3⟩ := hv
            have hm11 : MD w (G11 57) := by
              rw [v3 57 (by omega) (by omega)]
              exact hm
            refine Ok.bind (M_nextRow hw hm11 v2 hlt) (fun z13 hz => ?_)
            obtain ⟨z1, z2, z3⟩ := hz
            have htS : -1 ≤ (tS w t r).1 ∧ (tS w t r).1 ≤ 1000 := by
              unfold tS
              split
              · dsimp only
                omega
              · exact ⟨ht1, ht2⟩
            have hz71 : 0 ≤ (tS w t r).1 → ∀ i, i < qN w → z13.2 71 i = (fr (qN w) (tS w t r).2 i : Int) := fun h i hi => by
              rw [z3 71 (by omega)]
              exact v1 h i hi
            have hzf : ∀ b, b ≠ 70 → b ≠ 71 → z13.2 b = G b := fun b b1 b2 => (z3 b b1).trans (v3 b b1 b2)
            have hall' : ∀ r', r' ∈ l' → LN (qN w) r' ∧ r'.length = qN w := fun r' h => hall r' (List.mem_cons_of_mem _ h)
            have hc2 := hc.1.2
            refine hk l'.length _ _ _ (Nat.lt_succ_self _) ⟨tS w t r, l', rfl, hfold, rfl, htS.1, htS.2, hz71, hall', hc.2, ?_, hzf⟩
            rcases chkP_c hc2 with ⟨hnx, e0⟩ | ⟨g, r', l2, hnx, e0, hg⟩
            · exact Or.inl ⟨e0, by rw [z1 hnx]; rfl⟩
            · obtain ⟨e1, e2⟩ := z2 g hnx
              refine Or.inr ⟨r', l2, e0, by rw [e1]; rfl, fun i hi => ?_⟩
              have := Nat.eq_of_beq_eq_true (allB_at hg i hi)
              rw [e2 i hi, this]
          · refine Ok.jnP (t.1 = -1 ∨ hb w r < t.1) (fun hg => ?_) (fun k17 hk17 => ?_)
            · refine Ok.ac 0 0 6 rfl rfl rfl (by omega) (by omega) (by omega) (by omega) ?_
              have e : tS w t r = (hb w r, r) := by
                unfold tS
                rw [if_pos hg]
              rw [e] at hk14
              refine hk14 _ _ ⟨rfl, fun _ i hi => ?_, fun i hi => ?_, fun b b1 b2 => ?_⟩
              · rw [upG_eq]
                unfold cpyF
                rw [if_pos (by omega), show 0 + (i - 0) = i by omega]
                exact h70 i hi
              · rw [upG_ne (by omega)]
                exact h70 i hi
              · rw [upG_ne b2]
                exact hfr b b1 b2
            · refine Ok.cd (ieq_id (by omega) (by omega) (by omega) (by omega)) (fun g => hk17 (Or.inl g)) (fun g => ?_)
              refine Ok.cd (ilt_id (by omega) (by omega) (by omega) (by omega)) (fun g2 => hk17 (Or.inr g2)) (fun g2 => ?_)
              have e : tS w t r = t := by
                unfold tS
                rw [if_neg (fun h => by omega)]
              rw [e] at hk14
              exact hk14 _ _ ⟨rfl, h71, h70, hfr⟩
        · refine Ok.lp2 (fun M x y => ∃ i : Nat, y = (i : Int) + 1 ∧ i + M + 1 = qN w ∧ x = hb w (r.drop (qN w - 1 - i))) (fun M again2 x y hI2 hk2 => ?_) LF (qN w - 1) 0 1 (LF_lt (by omega)) ⟨0, rfl, by omega, (hb_one hr.2 (by omega)).symm⟩
          obtain ⟨i, rfl, hiM, rfl⟩ := hI2
          refine Ok.ld 0 rfl (by omega) (by omega) ?_
          rw [hm5.1, hn.1]
          refine Ok.cd (ilt_id (by omega) (by omega) (by omega) (by omega)) (fun g => ?_) (fun g => ?_)
          · have hi1 := hlt i (by omega)
            have hi2 := hlt (i + 1) (by omega)
            have k1 := hw.kd hi1
            have k2 := hw.kd hi2
            refine Ok.ld i (by omega) (by omega) (by omega) ?_
            rw [h70 i (by omega)]
            refine Ok.eq (M_kd hw hm5 hi1) ?_
            refine Ok.ld (i + 1) (by omega) (by omega) (by omega) ?_
            rw [h70 (i + 1) (by omega)]
            refine Ok.eq (M_kd hw hm5 hi2) ?_
            refine Ok.ld (45 + (4 * qKd w (fr (qN w) r i) + qKd w (fr (qN w) r (i + 1)))) (by omega) (by omega) (by omega) ?_
            rw [hm5.su hw k1.2 k2.2]
            refine hk2 (M - 1) _ _ (by omega) ⟨i + 1, rfl, by omega, ?_⟩
            exact (hb_dr hr.2 (by omega)).symm
          · refine hk18 _ ?_
            rw [show qN w - 1 - i = 0 by omega]
            rfl
    · have : ∀ n : Fin 4, (dK (n.1 + 3) (n.1 + 3) []).length < 1000 := by decide +kernel
      have h := this ⟨qN w - 3, by omega⟩
      dsimp only at h
      rw [show qN w - 3 + 3 = qN w by omega, ← hl0] at h
      omega
    · match l0, hchk with
      | r :: l, hchk =>
        have h : (allB (qN w) (fun i => Nat.beq (fr (qN w) r i) i) && chk (qN w) (r :: l)) = true := hchk
        rw [Bool.and_eq_true] at h
        exact h.2
    · match l0, hchk with
      | r :: l, hchk =>
        have h : (allB (qN w) (fun i => Nat.beq (fr (qN w) r i) i) && chk (qN w) (r :: l)) = true := hchk
        rw [Bool.and_eq_true] at h
        refine ⟨r, l, rfl, rfl, fun i hi => ?_⟩
        have := Nat.eq_of_beq_eq_true (allB_at h.1 i hi)
        rw [this]
        exact h1.1 i hi
  · refine Ok.forC (fun k G' => (∀ i, i < k → G' 70 i = (i : Int)) ∧ ∀ b, b ≠ 70 → G' b = G b) (qN w) LF (LF_lt (by omega)) ⟨fun i hi => absurd hi (Nat.not_lt_zero _), fun _ _ => rfl⟩ (fun k hkn again G' hI hk => ?_) (fun again G' hI => ?_)
    · refine Ok.ld 0 rfl (by omega) (by omega) ?_
      rw [hI.2 57 (by omega), hm.1, hn.1]
      refine Ok.condT (ilt_nat (by omega) (by omega)) hkn ?_
      refine Ok.sto k rfl (by omega) (by omega) ?_
      refine hk _ ⟨fun i hi => ?_, fun b hb => by rw [up2_ne hb]; exact hI.2 b hb⟩
      rw [up2_eq, up1_if]
      by_cases e : i = k
      · rw [if_pos e, e]
      · rw [if_neg e]
        exact hI.1 i (by omega)
    · refine Ok.ld 0 rfl (by omega) (by omega) ?_
      rw [hI.2 57 (by omega), hm.1, hn.1]
      refine Ok.condF (ilt_nat (by omega) (by omega)) (by omega) ?_
      exact hk29 _ hI
theorem Q_leastSetup : CaseQ P_X10_leastSetup P_X11_leastSetup := by
  refine Q_of (fun w => (vT w).1) (fun w h len a np G hI => ?_) (fun w G hw hp hm => ?_)
  · unfold P_X10_leastSetup
    refine Ok.bind (S_tourSearch hI.1.1 hI.2.1) (fun G1 hG1 => Ok.so ⟨hG1.2.2, ?_⟩)
    dsimp only
    rw [hG1.1]
  · unfold P_X11_leastSetup
    refine Ok.pu ?_
    have hm1 : MD w ((up2 G 56 3 0) 57) := by
      rw [up2_ne (by omega)]
      exact hm.1
    refine Ok.bind (M_setup hw hm1) (fun z2 hz => Ok.so ⟨(KQ.up3 G 0).tr (KQ.of (fun b hb => hz.2.2 b (by omega) (by omega))), ?_⟩)
    dsimp only
    rw [hz.1]
theorem C_setupAt {p1 : Int} (i1 : I32 p1) : CaseX (P_X10_setupAt p1) (fun E => if E = 0 then 1 else 0) (P_X11_setupAt p1) := by
  refine CaseY_of (fun w => 0 ≤ p1 ∧ p1 < (qN w : Int)) (fun _ => True) (fun _ => True) (fun w => (fr (qN w) (vT w).2 p1.toNat : Int)) (fun w h len a np G hI => ?_) (fun w h len a np G n k hI => ?_)
  · have hw := hI.1.1
    have hm := hI.2.2.2.2.1.1
    have hn := hw.n
    unfold P_X11_setupAt
    refine Ok.ld 0 rfl (by omega) (by omega) ?_
    rw [hm.1, hn.1, M_in i1 (i32_k (by omega)) (i32_k (by omega))]
    refine Ok.eq rfl ?_
    refine QM.fits (c1 := 0 ≤ p1 ∧ p1 < (qN w : Int)) (by rw [show decide (0 ≤ p1 ∧ p1 ≤ (qN w : Int) - 1) = decide (0 ≤ p1 ∧ p1 < (qN w : Int)) from decide_eq_decide.mpr (by omega)]) T_T T_T (fun _ => rfl) (KF.rf G) (fun h1 _ _ => ?_)
    refine Ok.iteT rfl ?_
    have hm6 : MD w ((up2 G 56 3 0) 57) := by
      rw [up2_ne (by omega)]
      exact hm
    refine Ok.bind (M_setup hw hm6) (fun z5 hz => ?_)
    refine Ok.ld p1.toNat (by omega) (by omega) (by omega) ?_
    rw [hz.2.1 _ (by omega)]
    exact Ok.so ⟨rfl, KF.of (fun b hb => hz.2.2 b (by omega) (by omega)), congrFun (hz.2.2 56 (by omega) (by omega)) 3⟩
  · have hw := hI.1.1
    have hx := hI.2.1
    have hn := hw.n
    unfold P_X10_setupAt
    refine Ok.need (needPlaceOfJob_eq hw hx i1) (fun h1 => ?_) (fun h1 => QC.e1 0 (by omega) rfl h1)
    refine Ok.bind (S_tourSearch hw hx) (fun G4 hG4 => ?_)
    refine Ok.ld p1.toNat (by omega) (by omega) (by omega) ?_
    rw [hG4.2.1 _ (by omega)]
    exact Ok.so ⟨G4, hG4.2.2, Or.inl ⟨h1, trivial, trivial, rfl⟩⟩
