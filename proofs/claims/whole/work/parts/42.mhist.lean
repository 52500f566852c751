/-! ===== what the model keeps of earlier states ===== -/
def MPl (w : wS) (f : Nat → Int) : Prop := f 151 = w 1 15 ∧ OT w (qRw w) (qLn w) (tOd (qS w D0 (qRw w) (qLn w))) f 152
def MA (w : wS) (f : Nat → Int) : Prop := MD w f ∧ MPl w f
theorem MD_cong {w : wS} (hw : Wok w) {f g : Nat → Int} (h : ∀ k, k < 282 → ¬ (151 ≤ k ∧ k < 276) → g k = f k) (hm : MD w f) : MD w g := by
  have hn := hw.n
  obtain ⟨h1, h2, h3, h4, h5, h6, h7⟩ := hm
  refine ⟨(h 0 (by omega) (by omega)).trans h1, fun m hm => ?_, fun m c hm hc => ?_, fun i hi => ?_, fun j hj => ?_, fun j s hj hs => ?_, fun u hu => ?_⟩
  · rw [h _ (by omega) (by omega), h _ (by omega) (by omega), h _ (by omega) (by omega)]
    exact h2 m hm
  · have := (hw.cn hm).2
    rw [h _ (by omega) (by omega), h _ (by omega) (by omega)]
    exact h3 m c hm hc
  · rw [h _ (by omega) (by omega)]
    exact h4 i hi
  · rw [h _ (by omega) (by omega), h _ (by omega) (by omega), h _ (by omega) (by omega), h _ (by omega) (by omega), h _ (by omega) (by omega)]
    exact h5 j hj
  · have := (hw.st hj).2
    rw [h _ (by omega) (by omega), h _ (by omega) (by omega)]
    exact h6 j s hj hs
  · rw [h _ (by omega) (by omega)]
    exact h7 u hu
theorem OT_cong {w : wS} {r : Nat → Nat} {n p : Nat} {od : Nat → Nat → Nat} {f g : Nat → Int} (hc : ∀ m, m < 4 → rC w r n m ≤ 30) (h : ∀ k, p ≤ k → k < p + 124 → g k = f k) (hO : OT w r n od f p) : OT w r n od g p := fun m hm => by
  obtain ⟨h1, h2⟩ := hO m hm
  have := hc m hm
  refine ⟨(h _ (by omega) (by omega)).trans h1, fun k hk => (h _ (by omega) (by omega)).trans (h2 k hk)⟩
theorem MA_cong {w : wS} (hw : Wok w) (hp : Pok w) {f g : Nat → Int} (h : ∀ k, k < 282 → g k = f k) (hm : MA w f) : MA w g := by
  refine ⟨MD_cong hw (fun k h1 _ => h k h1) hm.1, (h 151 (by omega)).trans hm.2.1, OT_cong (fun m hm => ?_) (fun k _ h2 => h k (by omega)) hm.2.2⟩
  exact rC_30 hw (Pok.v hw hp) m
def MH (h : Nat → wS) (len : Nat) (G : mG) : Prop := G 56 2 = (len : Int) ∧ len ≤ 8 ∧ ∀ i, i < len → MA (h i) (fun k => G 58 (282 * (len - 1 - i) + k))
theorem acp_of {G : mG} {a0 n0 a1 n1 : Nat} {sp dp n : Int} (s d m : Nat) (es : sp = (s : Int)) (ed : dp = (d : Int)) (em : n = (m : Int)) (h0 : s + m ≤ n0) (h1 : d + m ≤ n1) (hn0 : n0 ≤ 10000) (hn1 : n1 ≤ 10000) : acp G a0 n0 sp a1 n1 dp n = some (upG G a1 (cpyF (G a0) (G a1) s d m)) := by
  subst es ed em
  have e1 : w32 (s : Int) = (s : Int) := w32_id (by omega) (by omega)
  have e2 : w32 (d : Int) = (d : Int) := w32_id (by omega) (by omega)
  have e3 : w32 (m : Int) = (m : Int) := w32_id (by omega) (by omega)
  unfold acp
  rw [e1, e2, e3, mIx_nat (by omega), mIx_nat (by omega), mIx_nat (by omega)]
  have h3 : decide (0 ≤ (s : Int) ∧ 0 ≤ (d : Int) ∧ 0 ≤ (m : Int) ∧ (s : Int) + (m : Int) ≤ (n0 : Int) ∧ (d : Int) + (m : Int) ≤ (n1 : Int)) = true := decide_eq_true ⟨by omega, by omega, by omega, by omega, by omega⟩
  rw [h3]
  rfl
theorem Ok.ac {X : Type} {Q : X → Prop} {G : mG} {a0 n0 a1 n1 : Nat} {sp dp n : Int} {f : mG → Option X} (s d m : Nat) (es : sp = (s : Int)) (ed : dp = (d : Int)) (em : n = (m : Int)) (h0 : s + m ≤ n0) (h1 : d + m ≤ n1) (hn0 : n0 ≤ 10000) (hn1 : n1 ≤ 10000) (c : Ok (f (upG G a1 (cpyF (G a0) (G a1) s d m))) Q) : Ok ((acp G a0 n0 sp a1 n1 dp n).bind f) Q := Ok.eq (acp_of s d m es ed em h0 h1 hn0 hn1) c
theorem M_keeps {w : wS} {h : Nat → wS} {len : Nat} {G : mG} (hw : Wok w) (hp : Pok w) (hm : MA w (G 57)) (hH : MH h len G) (hok : ∀ i, i < len → Wok (h i) ∧ Pok (h i)) : Ok (P_X11_keeps G) (fun G' => MH (psh w h) (min (len + 1) 8) G' ∧ (∀ b, b ≠ 56 → b ≠ 58 → G' b = G b) ∧ (∀ k, k ≠ 2 → G' 56 k = G 56 k)) := by
  obtain ⟨h1, h2, h3⟩ := hH
  unfold P_X11_keeps
  refine Ok.jn1 (fun G1 => ∃ l, l < 8 ∧ l + 1 = min (len + 1) 8 ∧ G1 56 2 = (l : Int) ∧ (∀ i, i < l → MA (h i) (fun k => G1 58 (282 * (l - 1 - i) + k))) ∧ (∀ b, b ≠ 56 → b ≠ 58 → G1 b = G b) ∧ (∀ k, k ≠ 2 → G1 56 k = G 56 k)) (fun G1 hG1 => ?_) (fun k5 hk5 => ?_)
  · obtain ⟨l, g1, g2, g3, g4, g5, g6⟩ := hG1
    refine Ok.ac 0 (282 * l) 282 rfl (by rw [g3]; omega) rfl (by omega) (by omega) (by omega) (by omega) ?_
    refine Ok.pu (Ok.so ⟨⟨?_, by omega, fun i hi => ?_⟩, fun b hb1 hb2 => ?_, fun k hk => ?_⟩)
    · rw [up2_eq, up1_eq, upG_ne (by omega), g3]
      omega
    · rw [← g2]
      cases i with
      | zero =>
        refine MA_cong hw hp (fun k hk => ?_) hm
        show up2 (upG G1 58 (cpyF (G1 57) (G1 58) 0 (282 * l) 282)) 56 2 _ 58 (282 * (l + 1 - 1 - 0) + k) = G 57 k
        rw [up2_ne (by omega), upG_eq]
        unfold cpyF
        rw [if_pos ⟨by omega, by omega⟩, g5 57 (by omega) (by omega)]
        congr 1
        omega
      | succ i =>
        have hi' : i < l := by omega
        refine MA_cong (hok i (by omega)).1 (hok i (by omega)).2 (fun k hk => ?_) (g4 i hi')
        show up2 (upG G1 58 (cpyF (G1 57) (G1 58) 0 (282 * l) 282)) 56 2 _ 58 (282 * (l + 1 - 1 - (i + 1)) + k) = G1 58 (282 * (l - 1 - i) + k)
        rw [up2_ne (by omega), upG_eq]
        unfold cpyF
        rw [if_neg (by omega)]
        congr 1
        omega
    · rw [up2_ne hb1, upG_ne hb2]
      exact g5 b hb1 hb2
    · rw [up2_eq, up1_ne hk, upG_ne (by omega)]
      exact g6 k hk
  · rw [h1]
    refine Ok.cd (ieq_id (by omega) (by omega) (by omega) (by omega)) (fun hl => ?_) (fun hl => ?_)
    · have hl8 : len = 8 := by omega
      subst hl8
      refine Ok.ac 282 0 1974 rfl rfl rfl (by omega) (by omega) (by omega) (by omega) ?_
      refine Ok.pu (hk5 _ ⟨7, by omega, by omega, ?_, fun i hi => ?_, fun b hb1 hb2 => ?_, fun k hk => ?_⟩)
      · rw [up2_eq, up1_eq, upG_ne (by omega), h1]
        rfl
      · refine MA_cong (hok i (by omega)).1 (hok i (by omega)).2 (fun k hk => ?_) (h3 i (by omega))
        show up2 (upG G 58 (cpyF (G 58) (G 58) 282 0 1974)) 56 2 _ 58 (282 * (7 - 1 - i) + k) = G 58 (282 * (8 - 1 - i) + k)
        rw [up2_ne (by omega), upG_eq]
        unfold cpyF
        rw [if_pos ⟨by omega, by omega⟩]
        congr 1
        omega
      · rw [up2_ne hb1, upG_ne hb2]
      · rw [up2_eq, up1_ne hk, upG_ne (by omega)]
    · exact hk5 _ ⟨len, by omega, by omega, h1, h3, fun _ _ _ => rfl, fun _ _ => rfl⟩
theorem M_undo {h : Nat → wS} {len : Nat} {G : mG} (hH : MH h len G) (hok : ∀ i, i < len → Wok (h i) ∧ Pok (h i)) : Ok (P_X11_undo G) (fun z => (len = 0 ∧ z.1 = -1 ∧ (∀ b, b ≠ 56 → z.2 b = G b) ∧ z.2 56 2 = G 56 2) ∨ (0 < len ∧ z.1 = ((len - 1 : Nat) : Int) ∧ MH (fun i => h (i + 1)) (len - 1) z.2 ∧ MA (h 0) (z.2 57) ∧ (∀ b, b ≠ 56 → b ≠ 57 → z.2 b = G b))) := by
  obtain ⟨h1, h2, h3⟩ := hH
  unfold P_X11_undo
  refine Ok.pu ?_
  have e1 : up2 G 56 3 0 56 2 = (len : Int) := by
    rw [up2_eq, up1_ne (by omega)]
    exact h1
  rw [e1]
  refine Ok.cd (ieq_id (by omega) (by omega) (by omega) (by omega)) (fun hl => ?_) (fun hl => ?_)
  · refine Ok.so (Or.inl ⟨by omega, rfl, fun b hb => up2_ne hb, ?_⟩)
    dsimp only
    rw [e1, h1]
  · refine Ok.pu ?_
    have e2 : up2 (up2 G 56 3 0) 56 2 ((len : Int) - 1) 56 2 = ((len - 1 : Nat) : Int) := by
      rw [up2_eq, up1_eq]
      omega
    refine Ok.ac (282 * (len - 1)) 0 282 (by rw [e2]; omega) rfl rfl (by omega) (by omega) (by omega) (by omega) (Ok.so (Or.inr ⟨by omega, ?_, ⟨?_, by omega, fun i hi => ?_⟩, ?_, fun b hb1 hb2 => ?_⟩))
    · rw [upG_ne (by omega)]
      exact e2
    · rw [upG_ne (by omega)]
      exact e2
    · refine MA_cong (hok (i + 1) (by omega)).1 (hok (i + 1) (by omega)).2 (fun k hk => ?_) (h3 (i + 1) (by omega))
      dsimp only
      rw [upG_ne (by omega), up2_ne (by omega), up2_ne (by omega)]
      congr 1
      omega
    · refine MA_cong (hok 0 (by omega)).1 (hok 0 (by omega)).2 (fun k hk => ?_) (h3 0 (by omega))
      dsimp only
      rw [upG_eq]
      unfold cpyF
      rw [if_pos ⟨by omega, by omega⟩, up2_ne (by omega), up2_ne (by omega)]
      congr 1
    · dsimp only
      rw [upG_ne hb2, up2_ne hb1, up2_ne hb1]
