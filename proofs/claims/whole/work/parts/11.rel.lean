/-! ===== how the small machine's states lie in the big one's ===== -/
def mExt (ws ws' : va_W) : Prop := ∀ (a : Nat) (q : Nat × va_E), ws[a]? = some q → ∃ e : va_E, ws'[a]? = some (q.1, e)
theorem mExt.rf (ws : va_W) : mExt ws ws := fun _ q h => ⟨q.2, h⟩
theorem mExt.tr {w1 w2 w3 : va_W} (h : mExt w1 w2) (h2 : mExt w2 w3) : mExt w1 w3 := fun a q hq => by
  obtain ⟨e, he⟩ := h a q hq
  obtain ⟨e2, he2⟩ := h2 a (q.1, e) he
  exact ⟨e2, he2⟩
theorem mExt.set {ws : va_W} {a ad : Nat} {e0 : va_E} (h : ws[a]? = some (ad, e0)) (e : va_E) : mExt ws (ws.set a (ad, e)) := by
  intro b q hq
  by_cases hb : b = a
  · subst hb
    rw [h] at hq
    cases hq
    exact ⟨e, by rw [List.getElem?_set_self (List.getElem?_eq_some_iff.mp h).1]⟩
  · exact ⟨q.2, by rw [List.getElem?_set_ne (Ne.symm hb)]; exact hq⟩
theorem mExt.app (ws ws2 : va_W) : mExt ws (ws ++ ws2) := fun _ q h => ⟨q.2, by rw [List.getElem?_append_left (List.getElem?_eq_some_iff.mp h).1]; exact h⟩
theorem mExt.len {ws ws' : va_W} (h : mExt ws ws') : ws.length ≤ ws'.length := by
  by_cases h0 : ws.length = 0
  · omega
  · have h1 : ws.length - 1 < ws.length := by omega
    obtain ⟨e, he⟩ := h (ws.length - 1) _ (List.getElem?_eq_getElem h1)
    have := (List.getElem?_eq_some_iff.mp he).1
    omega
def vrel (ws : va_W) (v : mV) (x : Value) : Prop := match v with
  | .inl z => x = .int (Int32.ofInt z)
  | .inr (.inl z) => x = .long (Int64.ofInt z)
  | .inr (.inr (.inl a)) => ∃ q : Nat × va_E, ws[a]? = some q ∧ x = .ref q.1
  | .inr (.inr (.inr (.retAddr _))) => ∃ q : Nat, x = .ref q
  | .inr (.inr (.inr v)) => x = v
theorem vrel.mono {ws ws' : va_W} (h : mExt ws ws') : ∀ {v : mV} {x : Value}, vrel ws v x → vrel ws' v x
  | .inl _, _, hv => hv
  | .inr (.inl _), _, hv => hv
  | .inr (.inr (.inl a)), _, ⟨q, h1, h2⟩ => by
    obtain ⟨e, he⟩ := h a q h1
    exact ⟨(q.1, e), he, h2⟩
  | .inr (.inr (.inr (.retAddr _))), _, hv => hv
  | .inr (.inr (.inr (.int _))), _, hv => hv
  | .inr (.inr (.inr (.long _))), _, hv => hv
  | .inr (.inr (.inr (.float _))), _, hv => hv
  | .inr (.inr (.inr (.double _))), _, hv => hv
  | .inr (.inr (.inr .null)), _, hv => hv
  | .inr (.inr (.inr (.ref _))), _, hv => hv
theorem vrel.cat {ws : va_W} : ∀ {v : mV} {x : Value}, vrel ws v x → x.category = mcat v
  | .inl _, _, hv => by rw [show _ = _ from hv]; rfl
  | .inr (.inl _), _, hv => by rw [show _ = _ from hv]; rfl
  | .inr (.inr (.inl a)), _, ⟨q, _, h2⟩ => by rw [h2]; rfl
  | .inr (.inr (.inr (.retAddr _))), _, ⟨q, h2⟩ => by rw [h2]; rfl
  | .inr (.inr (.inr (.int _))), _, hv => by rw [show _ = _ from hv]; rfl
  | .inr (.inr (.inr (.long _))), _, hv => by rw [show _ = _ from hv]; rfl
  | .inr (.inr (.inr (.float _))), _, hv => by rw [show _ = _ from hv]; rfl
  | .inr (.inr (.inr (.double _))), _, hv => by rw [show _ = _ from hv]; rfl
  | .inr (.inr (.inr .null)), _, hv => by rw [show _ = _ from hv]; rfl
  | .inr (.inr (.inr (.ref _))), _, hv => by rw [show _ = _ from hv]; rfl
theorem mcat_12 (v : mV) : mcat v = 1 ∨ mcat v = 2 := by
  match v with
  | .inl _ => exact Or.inl rfl
  | .inr (.inl _) => exact Or.inr rfl
  | .inr (.inr (.inl _)) => exact Or.inl rfl
  | .inr (.inr (.inr (.retAddr _))) => exact Or.inl rfl
  | .inr (.inr (.inr (.int _))) => exact Or.inl rfl
  | .inr (.inr (.inr (.long _))) => exact Or.inr rfl
  | .inr (.inr (.inr (.float _))) => exact Or.inl rfl
  | .inr (.inr (.inr (.double _))) => exact Or.inr rfl
  | .inr (.inr (.inr .null)) => exact Or.inl rfl
  | .inr (.inr (.inr (.ref _))) => exact Or.inl rfl
def strel (ws : va_W) : List mV → List Value → Prop
  | [], [] => True
  | v :: r, x :: r' => vrel ws v x ∧ strel ws r r'
  | _, _ => False
theorem strel.mono {ws ws' : va_W} (h : mExt ws ws') : ∀ {a : List mV} {b : List Value}, strel ws a b → strel ws' a b
  | [], [], _ => trivial
  | _ :: _, _ :: _, hs => ⟨hs.1.mono h, strel.mono h hs.2⟩
  | [], _ :: _, hs => hs
  | _ :: _, [], hs => hs
theorem strel.nil {ws : va_W} : ∀ {b : List Value}, strel ws [] b → b = []
  | [], _ => rfl
  | _ :: _, h => h.elim
theorem strel.cons {ws : va_W} {v : mV} {r : List mV} : ∀ {b : List Value}, strel ws (v :: r) b → ∃ x r', b = x :: r' ∧ vrel ws v x ∧ strel ws r r'
  | [], h => h.elim
  | x :: r', h => ⟨x, r', rfl, h.1, h.2⟩
theorem strel.len {ws : va_W} : ∀ {a : List mV} {b : List Value}, strel ws a b → a.length = b.length
  | [], [], _ => rfl
  | _ :: _, _ :: _, h => by simp [strel.len h.2]
  | [], _ :: _, h => h.elim
  | _ :: _, [], h => h.elim
theorem strel.app {ws : va_W} : ∀ {a : List mV} {b : List Value} {a2 : List mV} {b2 : List Value}, strel ws a b → strel ws a2 b2 → strel ws (a ++ a2) (b ++ b2)
  | [], [], _, _, _, h2 => h2
  | _ :: _, _ :: _, _, _, h, h2 => ⟨h.1, strel.app h.2 h2⟩
  | [], _ :: _, _, _, h, _ => h.elim
  | _ :: _, [], _, _, h, _ => h.elim
theorem strel.rev {ws : va_W} : ∀ {a : List mV} {b : List Value}, strel ws a b → strel ws a.reverse b.reverse
  | [], [], _ => trivial
  | v :: r, x :: r', h => by
    simp only [List.reverse_cons]
    exact strel.app (strel.rev h.2) ⟨h.1, trivial⟩
  | [], _ :: _, h => h.elim
  | _ :: _, [], h => h.elim
theorem strel.take {ws : va_W} : ∀ (n : Nat) {a : List mV} {b : List Value}, strel ws a b → strel ws (a.take n) (b.take n)
  | 0, _, _, _ => trivial
  | _ + 1, [], [], _ => trivial
  | n + 1, _ :: _, _ :: _, h => ⟨h.1, strel.take n h.2⟩
  | _ + 1, [], _ :: _, h => h.elim
  | _ + 1, _ :: _, [], h => h.elim
theorem strel.drop {ws : va_W} : ∀ (n : Nat) {a : List mV} {b : List Value}, strel ws a b → strel ws (a.drop n) (b.drop n)
  | 0, _, _, h => h
  | _ + 1, [], [], _ => trivial
  | n + 1, _ :: _, _ :: _, h => strel.drop n h.2
  | _ + 1, [], _ :: _, h => h.elim
  | _ + 1, _ :: _, [], h => h.elim
theorem strel.cats {ws : va_W} : ∀ {a : List mV} {b : List Value}, strel ws a b → (b.map fun v => v.category).sum = mWd a
  | [], [], _ => rfl
  | v :: r, x :: r', h => by
    have h1 := strel.cats h.2
    have h2 := h.1.cat
    simp only [List.map_cons, List.sum_cons, mWd]
    omega
  | [], _ :: _, h => h.elim
  | _ :: _, [], h => h.elim
-- locals
theorem mSt_len : ∀ (l : mL) (i : Nat) (v : mV), (mSt l i v).length = l.length
  | [], _, _ => rfl
  | _ :: _, 0, _ => rfl
  | o :: r, 1, v => by simp [mSt, mSt_len r 0 v]
  | o :: r, i + 2, v => by simp [mSt, mSt_len r (i + 1) v]
theorem mNar_some {o : Option mV} {w : mV} (h : mNar o = some w) : o = some w ∧ mcat w = 1 := by
  unfold mNar at h
  cases o with
  | none => exact nomatch h
  | some v =>
    simp only at h
    rcases mcat_12 v with e | e
    · simp only [e] at h
      cases h
      exact ⟨rfl, e⟩
    · simp only [e] at h
      exact nomatch h
theorem mSt_get : ∀ (l : mL) (i : Nat) (v : mV) (j : Nat) (w : mV), (mSt l i v)[j]? = some (some w) → (j = i ∧ w = v) ∨ (j ≠ i ∧ l[j]? = some (some w) ∧ (j + 1 = i → mcat w = 1))
  | [], _, _, _, _, h => by simp [mSt] at h
  | _ :: _, 0, _, 0, _, h => by
    simp [mSt] at h
    exact Or.inl ⟨rfl, h.symm⟩
  | _ :: _, 0, _, j + 1, _, h => by
    simp [mSt] at h
    exact Or.inr ⟨by omega, by simpa using h, fun h => absurd h (by omega)⟩
  | o :: r, 1, v, 0, w, h => by
    simp [mSt] at h
    obtain ⟨h1, h2⟩ := mNar_some h
    exact Or.inr ⟨by omega, by simp [h1], fun _ => h2⟩
  | o :: r, 1, v, j + 1, w, h => by
    simp only [mSt, List.getElem?_cons_succ] at h
    rcases mSt_get r 0 v j w h with ⟨h1, h2⟩ | ⟨h1, h2, h3⟩
    · exact Or.inl ⟨by omega, h2⟩
    · exact Or.inr ⟨by omega, by simpa using h2, fun q => absurd q (by omega)⟩
  | o :: r, i + 2, v, 0, w, h => by
    simp [mSt] at h
    exact Or.inr ⟨by omega, by simp [h], fun q => absurd q (by omega)⟩
  | o :: r, i + 2, v, j + 1, w, h => by
    simp only [mSt, List.getElem?_cons_succ] at h
    rcases mSt_get r (i + 1) v j w h with ⟨h1, h2⟩ | ⟨h1, h2, h3⟩
    · exact Or.inl ⟨by omega, h2⟩
    · exact Or.inr ⟨by omega, by simpa using h2, fun q => h3 (by omega)⟩
theorem mSt2_len : ∀ (l : mL) (i : Nat) (v : mV), i + 1 < l.length → (mSt2 l i v).length = l.length
  | [], _, _, h => absurd h (Nat.not_lt_zero _)
  | [_], 0, _, h => by simp at h
  | _ :: _ :: _, 0, _, _ => rfl
  | o :: r, 1, v, h => by
    have : 0 + 1 < r.length := by simp only [List.length_cons] at h; omega
    simp [mSt2, mSt2_len r 0 v this]
  | o :: r, i + 2, v, h => by
    have : i + 1 + 1 < r.length := by simp only [List.length_cons] at h; omega
    simp [mSt2, mSt2_len r (i + 1) v this]
theorem mSt2_get : ∀ (l : mL) (i : Nat) (v : mV) (j : Nat) (w : mV), (mSt2 l i v)[j]? = some (some w) → (j = i ∧ w = v) ∨ (j ≠ i ∧ j ≠ i + 1 ∧ l[j]? = some (some w) ∧ (j + 1 = i → mcat w = 1))
  | [], _, _, _, _, h => by simp [mSt2] at h
  | [_], 0, _, _, _, h => by simp [mSt2] at h
  | _ :: _ :: _, 0, _, 0, _, h => by
    simp [mSt2] at h
    exact Or.inl ⟨rfl, h.symm⟩
  | _ :: _ :: _, 0, _, 1, _, h => by simp [mSt2] at h
  | _ :: _ :: _, 0, _, j + 2, _, h => by
    simp [mSt2] at h
    exact Or.inr ⟨by omega, by omega, by simpa using h, fun h => absurd h (by omega)⟩
  | o :: r, 1, v, 0, w, h => by
    simp [mSt2] at h
    obtain ⟨h1, h2⟩ := mNar_some h
    exact Or.inr ⟨by omega, by omega, by simp [h1], fun _ => h2⟩
  | o :: r, 1, v, j + 1, w, h => by
    simp only [mSt2, List.getElem?_cons_succ] at h
    rcases mSt2_get r 0 v j w h with ⟨h1, h2⟩ | ⟨h1, h2, h3, h4⟩
    · exact Or.inl ⟨by omega, h2⟩
    · exact Or.inr ⟨by omega, by omega, by simpa using h3, fun q => absurd q (by omega)⟩
  | o :: r, i + 2, v, 0, w, h => by
    simp [mSt2] at h
    exact Or.inr ⟨by omega, by omega, by simp [h], fun q => absurd q (by omega)⟩
  | o :: r, i + 2, v, j + 1, w, h => by
    simp only [mSt2, List.getElem?_cons_succ] at h
    rcases mSt2_get r (i + 1) v j w h with ⟨h1, h2⟩ | ⟨h1, h2, h3, h4⟩
    · exact Or.inl ⟨by omega, h2⟩
    · exact Or.inr ⟨by omega, by omega, by simpa using h3, fun q => h4 (by omega)⟩
def mLocR (ws : va_W) (lA : mL) (ls : Array Slot) : Prop := ls.size = lA.length ∧ lv_wf ls ∧ ∀ (i : Nat) (v : mV), lA[i]? = some (some v) → ∃ x, vrel ws v x ∧ ls[i]? = some (.val x)
theorem mLocR.mono {ws ws' : va_W} (h : mExt ws ws') {lA : mL} {ls : Array Slot} (hl : mLocR ws lA ls) : mLocR ws' lA ls := ⟨hl.1, hl.2.1, fun i v hv => by
  obtain ⟨x, h1, h2⟩ := hl.2.2 i v hv
  exact ⟨x, h1.mono h, h2⟩⟩
def lvFull (ls : Array Slot) : List (Nat × Value) := (List.range ls.size).filterMap (fun i => match (ls[i]? : Option Slot) with
  | some (Slot.val x) => some (i, x)
  | _ => none)
theorem lvFull_mem {ls : Array Slot} {i : Nat} {x : Value} : (i, x) ∈ lvFull ls ↔ ls[i]? = some (.val x) := by
  unfold lvFull
  rw [List.mem_filterMap]
  constructor
  · rintro ⟨j, hj, h⟩
    split at h
    · next y hy =>
      cases h
      exact hy
    · exact nomatch h
  · intro h
    refine ⟨i, List.mem_range.mpr (Array.getElem?_eq_some_iff.mp h).1, ?_⟩
    rw [h]
theorem lvFull_has {ls : Array Slot} (hw : lv_wf ls) : lv_has ls ls.size (lvFull ls) := ⟨rfl, hw, fun q hq => lvFull_mem.mp hq⟩
theorem mLocR.st1 {ws : va_W} {lA : mL} {ls ls' : Array Slot} {i : Nat} {v : mV} {x : Value} (hl : mLocR ws lA ls) (hv : vrel ws v x) (h : lv_has ls' ls.size ((i, x) :: (lvFull ls).filter (fun q => !(q.1 == i) && !(q.1 + 1 == i && q.2.category == 2)))) : mLocR ws (mSt lA i v) ls' := by
  refine ⟨by rw [mSt_len, h.1, hl.1], h.2.1, fun j w hj => ?_⟩
  rcases mSt_get lA i v j w hj with ⟨rfl, rfl⟩ | ⟨h1, h2, h3⟩
  · exact ⟨x, hv, h.2.2 (j, x) List.mem_cons_self⟩
  · obtain ⟨y, h4, h5⟩ := hl.2.2 j w h2
    refine ⟨y, h4, h.2.2 (j, y) (List.mem_cons_of_mem _ (List.mem_filter.mpr ⟨lvFull_mem.mpr h5, ?_⟩))⟩
    have hc := h4.cat
    by_cases h6 : j + 1 = i
    · have h7 := h3 h6
      simp [h1, hc, h7]
    · simp [h1, h6]
theorem mLocR.st2 {ws : va_W} {lA : mL} {ls ls' : Array Slot} {i : Nat} {v : mV} {x : Value} (hl : mLocR ws lA ls) (hi : i + 1 < lA.length) (hv : vrel ws v x) (h : lv_has ls' ls.size ((i, x) :: (lvFull ls).filter (fun q => !(q.1 == i) && (!(q.1 == i + 1) && !(q.1 + 1 == i && q.2.category == 2))))) : mLocR ws (mSt2 lA i v) ls' := by
  refine ⟨by rw [mSt2_len _ _ _ hi, h.1, hl.1], h.2.1, fun j w hj => ?_⟩
  rcases mSt2_get lA i v j w hj with ⟨rfl, rfl⟩ | ⟨h1, h1', h2, h3⟩
  · exact ⟨x, hv, h.2.2 (j, x) List.mem_cons_self⟩
  · obtain ⟨y, h4, h5⟩ := hl.2.2 j w h2
    refine ⟨y, h4, h.2.2 (j, y) (List.mem_cons_of_mem _ (List.mem_filter.mpr ⟨lvFull_mem.mpr h5, ?_⟩))⟩
    have hc := h4.cat
    by_cases h6 : j + 1 = i
    · have h7 := h3 h6
      simp [h1, h1', hc, h7]
    · simp [h1, h1', h6]
-- the entry's locals
theorem mArgs_get {ws : va_W} : ∀ (as : List mV) (xs : List Value) (k : Nat), strel ws as xs → ∀ (i : Nat) (v : mV), (mArgs as)[i]? = some (some v) → ∃ x, vrel ws v x ∧ (k + i, x) ∈ lv_args k xs
  | [], [], _, _, i, v, h => by simp [mArgs] at h
  | a :: as, x :: xs, k, hs, i, v, h => by
    have hc := hs.1.cat
    rcases mcat_12 a with e | e
    · simp only [mArgs, e] at h
      cases i with
      | zero =>
        simp at h
        subst h
        exact ⟨x, hs.1, List.mem_cons_self⟩
      | succ i =>
        simp only [List.getElem?_cons_succ] at h
        obtain ⟨y, h1, h2⟩ := mArgs_get as xs (k + 1) hs.2 i v h
        refine ⟨y, h1, List.mem_cons_of_mem _ ?_⟩
        have hn : ¬ x.category = 2 := by omega
        rw [if_neg hn]
        rw [show k + (i + 1) = k + 1 + i by omega]
        exact h2
    · simp only [mArgs, e] at h
      match i, h with
      | 0, h =>
        simp at h
        subst h
        exact ⟨x, hs.1, List.mem_cons_self⟩
      | 1, h => simp at h
      | i + 2, h =>
        simp only [List.getElem?_cons_succ] at h
        obtain ⟨y, h1, h2⟩ := mArgs_get as xs (k + 2) hs.2 i v h
        refine ⟨y, h1, List.mem_cons_of_mem _ ?_⟩
        have hn : x.category = 2 := by omega
        rw [if_pos hn]
        rw [show k + (i + 2) = k + 2 + i by omega]
        exact h2
  | [], _ :: _, _, hs, _, _, _ => hs.elim
  | _ :: _, [], _, hs, _, _, _ => hs.elim
theorem mArgs_len {ws : va_W} : ∀ (as : List mV) (xs : List Value), strel ws as xs → (lg_sl xs).length = (mArgs as).length
  | [], [], _ => rfl
  | a :: as, x :: xs, hs => by
    have hc := hs.1.cat
    have ih := mArgs_len as xs hs.2
    have e1 : lg_sl (x :: xs) = (if x.category = 2 then [.val x, .second] else [.val x]) ++ lg_sl xs := by simp [lg_sl]
    rw [e1, List.length_append, ih]
    rcases mcat_12 a with e | e
    · have hn : ¬ x.category = 2 := by omega
      simp only [mArgs, e]
      rw [if_neg hn]
      simp
      omega
    · have hn : x.category = 2 := by omega
      simp only [mArgs, e]
      rw [if_pos hn]
      simp
      omega
  | [], _ :: _, hs => hs.elim
  | _ :: _, [], hs => hs.elim
theorem mLoc_entry {ws : va_W} {as : List mV} {xs : List Value} {n : Nat} (hs : strel ws as xs) (hn : (mArgs as).length ≤ n) : mLocR ws (mLoc n as) ((lg_sl xs ++ List.replicate (n - (lg_sl xs).length) Slot.unset).toArray) := by
  have hlen := mArgs_len as xs hs
  have h := lv_entry xs (n := n) (by omega)
  refine ⟨by rw [h.1]; simp [mLoc]; omega, h.2.1, fun i v hv => ?_⟩
  have hi : (mArgs as)[i]? = some (some v) := by
    unfold mLoc at hv
    by_cases h1 : i < (mArgs as).length
    · rw [List.getElem?_append_left h1] at hv
      exact hv
    · rw [List.getElem?_append_right (Nat.not_lt.mp h1)] at hv
      have := List.mem_of_getElem? hv
      have := List.eq_of_mem_replicate this
      exact nomatch this
  obtain ⟨x, h1, h2⟩ := mArgs_get as xs 0 hs i v hi
  rw [Nat.zero_add] at h2
  exact ⟨x, h1, h.2.2 _ h2⟩
