/-! TERMS OF THE CLASS: a term's number, what symbols build, numbers anew -/
theorem nI_g {i N : Nat} (hi : i < N) (hN : N < 2 ^ 31) : ¬ (nI i < 0 ∨ N ≤ i) := fun h => h.elim (nI_pos (by omega)) (by omega)
def sec (x : Nat × Nat × Nat) : Int32 := if x.1 = 2 then nI x.2.2 else -2000000001
def CT (S : St) (q : Nat) (tb : Tb) : Prop := TbWf tb ∧ tb.1 ≤ 10 ∧ S.1 q 4 = nI tb.1 ∧ (∀ t, t < tb.1 → S.1 (q + 1) t = nI (tb.2 t).1) ∧ (∀ t, 5 ≤ t → t < tb.1 → S.1 (q + 2) t = nI (tb.2 t).2.1 ∧ S.1 (q + 3) t = sec (tb.2 t) ∧ S.1 (q + 4) t = if (tb.2 t).1 = 1 then S.1 (q + 4) (tb.2 t).2.1 + 3 else S.1 (q + 4) (tb.2 t).2.1 + S.1 (q + 4) (tb.2 t).2.2 + 4) ∧ ∀ t, t < 5 → S.1 (q + 2) t = -2000000001 ∧ S.1 (q + 3) t = -2000000001 ∧ S.1 (q + 4) t = 1
theorem CT.keep {S T : St} {q : Nat} {tb : Tb} (h : CT S q tb) (e0 : T.1 q 4 = S.1 q 4) (e1 : T.1 (q + 1) = S.1 (q + 1)) (e2 : T.1 (q + 2) = S.1 (q + 2)) (e3 : T.1 (q + 3) = S.1 (q + 3)) (e4 : T.1 (q + 4) = S.1 (q + 4)) : CT T q tb := by
  unfold CT; rw [e0, e1, e2, e3, e4]; exact h
/-- what is there before stays, where the size goes back -/
theorem CT.cut {S T : St} {q : Nat} {tb tb2 : Tb} (hw : TbWf tb) (h : CT S q tb2) (he : Ext tb tb2) (e0 : T.1 q 4 = nI tb.1) (e1 : T.1 (q + 1) = S.1 (q + 1)) (e2 : T.1 (q + 2) = S.1 (q + 2)) (e3 : T.1 (q + 3) = S.1 (q + 3)) (e4 : T.1 (q + 4) = S.1 (q + 4)) : CT T q tb := by
  obtain ⟨h1, h2, h3, h4, h5, h6⟩ := h
  have hl := he.1
  refine ⟨hw, by omega, e0, fun t ht => ?_, fun t h5t ht => ?_, fun t ht => ?_⟩
  · rw [e1, ← he.2 t ht]; exact h4 t (by omega)
  · rw [e2, e3, e4, ← he.2 t ht]; exact h5 t h5t (by omega)
  · rw [e2, e3, e4]; exact h6 t ht
theorem sec_eq {n : Nat} (hn : n < 2 ^ 31) {x y : Nat × Nat × Nat} (hx : EOk n x) (hy : EOk n y) : (nI x.1 = nI y.1 ∧ nI x.2.1 = nI y.2.1 ∧ sec x = sec y) ↔ x = y := by
  constructor
  · rintro ⟨a, b, c⟩
    obtain ⟨k, f, s⟩ := x
    obtain ⟨k', f', s'⟩ := y
    dsimp only at a b
    have hk : k < 2 ^ 31 ∧ k' < 2 ^ 31 := by
      rcases hx with ⟨p, -, -⟩ | ⟨p, -, -⟩ <;> rcases hy with ⟨q, -, -⟩ | ⟨q, -, -⟩ <;> (dsimp only at p q; omega)
    have hf : f < 2 ^ 31 ∧ f' < 2 ^ 31 := by
      rcases hx with ⟨-, p, -⟩ | ⟨-, p, -⟩ <;> rcases hy with ⟨-, q, -⟩ | ⟨-, q, -⟩ <;> (dsimp only at p q; omega)
    rw [nI_eq hk.1 hk.2] at a
    rw [nI_eq hf.1 hf.2] at b
    subst a b
    rcases hx with ⟨p, -, p2⟩ | ⟨p, -, p2⟩ <;> rcases hy with ⟨q, -, q2⟩ | ⟨q, -, q2⟩ <;> dsimp only at p q p2 q2
    · rw [p2, q2]
    · omega
    · omega
    · unfold sec at c
      dsimp only at c
      rw [if_pos p, if_pos p, nI_eq (by omega) (by omega)] at c
      rw [c]
  · rintro rfl; exact ⟨rfl, rfl, rfl⟩
theorem length7 {n q : Nat} {S : St} {N t : Nat} (hS : S.1 q 4 = nI N) (hN : N ≤ 10) (ht : t < N) : f_X7_lengthOf n q S (nI t) = some (S.1 (q + 4) t, S) := by
  unfold f_X7_lengthOf
  rw [bo_some (has7 hS hN ht), if_neg (by decide), if_neg (nI_bad (by omega) (by omega)), nI_c (by omega)]
theorem CT.push {S T : St} {q : Nat} {tb : Tb} {x : Nat × Nat × Nat} (h : CT S q tb) (hx : EOk tb.1 x) (h10 : tb.1 < 10) (hw : TbWf (pushT tb x)) (e0 : T.1 q 4 = nI (tb.1 + 1)) (e1 : ∀ t, T.1 (q + 1) t = if t = tb.1 then nI x.1 else S.1 (q + 1) t) (e2 : ∀ t, T.1 (q + 2) t = if t = tb.1 then nI x.2.1 else S.1 (q + 2) t) (e3 : ∀ t, T.1 (q + 3) t = if t = tb.1 then sec x else S.1 (q + 3) t)
    (e4 : ∀ t, T.1 (q + 4) t = if t = tb.1 then (if x.1 = 1 then S.1 (q + 4) x.2.1 + 3 else S.1 (q + 4) x.2.1 + S.1 (q + 4) x.2.2 + 4) else S.1 (q + 4) t) : CT T q (pushT tb x) := by
  obtain ⟨h1, h2, h3, h4, h5, h6⟩ := h
  have hl := hx.lt (by have := h1.1; omega)
  have h15 := h1.1
  have ep : ∀ t, (pushT tb x).2 t = if t = tb.1 then x else tb.2 t := fun t => rfl
  refine ⟨hw, by show tb.1 + 1 ≤ 10; omega, e0, fun t ht => ?_, fun t h5t ht => ?_, fun t ht => ?_⟩
  · have ht' : t < tb.1 + 1 := ht
    rw [e1, ep]
    by_cases c : t = tb.1
    · rw [if_pos c, if_pos c]
    · rw [if_neg c, if_neg c]; exact h4 t (by omega)
  · have ht' : t < tb.1 + 1 := ht
    rw [e2, e3, e4 t, ep]
    by_cases c : t = tb.1
    · rw [if_pos c, if_pos c, if_pos c, if_pos c, e4 x.2.1, e4 x.2.2, if_neg (show ¬ x.2.1 = tb.1 by omega), if_neg (show ¬ x.2.2 = tb.1 by omega)]
      exact ⟨rfl, rfl, rfl⟩
    · rw [if_neg c, if_neg c, if_neg c, if_neg c]
      obtain ⟨a1, a2, a3⟩ := h5 t h5t (by omega)
      have kt := (h1.2.2.1 t h5t (by omega)).lt (by omega)
      refine ⟨a1, a2, ?_⟩
      rw [e4 (tb.2 t).2.1, e4 (tb.2 t).2.2, if_neg (show ¬ (tb.2 t).2.1 = tb.1 by omega), if_neg (show ¬ (tb.2 t).2.2 = tb.1 by omega)]; exact a3
  · rw [e2, e3, e4, if_neg (by omega), if_neg (by omega), if_neg (by omega)]; exact h6 t ht
theorem numberFor_c {n q : Nat} {S : St} {tb : Tb} {x : Nat × Nat × Nat} (hn : 12 ≤ n) (h : CT S q tb) (hx : EOk tb.1 x) :
    ∃ r T, f_X7_numberFor n q S (nI x.1) (nI x.2.1) (sec x) = some (r, T) ∧ (((num tb x).1.1 ≤ 10 ∧ r = nI (num tb x).2 ∧ CT T q (num tb x).1) ∨ (10 < (num tb x).1.1 ∧ r = -2000000001 ∧ T = S)) := by
  obtain ⟨h1, h2, h3, h4, h5, h6⟩ := id h
  have h15 := h1.1
  have hl := hx.lt (by omega)
  have nok := num_ok h1 hx
  unfold f_X7_numberFor
  simp only [bd]
  refine for_up (α := Int32 × St) (f_X7_numberFor_3 n q (nI x.1) (nI x.2.1) (sec x)) (fun _ _ => none) tb.1 (fun i T => T = S ∧ 5 ≤ i ∧ ∀ j, 5 ≤ j → j < i → tb.2 j ≠ x) (fun o => ∃ r T, o = some (r, T) ∧ (((num tb x).1.1 ≤ 10 ∧ r = nI (num tb x).2 ∧ CT T q (num tb x).1) ∨ (10 < (num tb x).1.1 ∧ r = -2000000001 ∧ T = S))) ?_ ?_ n 5 S (by omega) (by omega) ⟨rfl, by omega, fun j a b => by omega⟩
  · rintro i T k hi ⟨rfl, i5, hno⟩
    obtain ⟨g1, g2, -⟩ := h5 i i5 hi
    unfold f_X7_numberFor_3 f_X7_numberFor_55
    rw [h3, if_neg (by rw [nI_leI (by omega) (by omega)]; omega), if_neg (by rw [show (10 : Int32) = nI 10 from rfl, nI_leI (by omega) (by omega)]; omega), if_neg (nI_bad (by omega) (by omega)), nI_c (by omega), h4 i hi, g1, g2]
    have key := sec_eq (n := tb.1) (by omega) ((h1.2.2.1 i i5 hi).mono (by omega)) hx
    simp only [bd, if_neg (nI_g (show i < 10 by omega) (by omega)), nI_1]
    by_cases c : tb.2 i = x
    · left
      obtain ⟨k1, k2, k3⟩ := key.mpr c
      rw [if_pos k1, if_pos k2, if_pos k3]
      have ef : num tb x = (tb, i) := num_old (fnd_eq i5 hi c hno)
      rw [ef]
      exact ⟨_, T, rfl, Or.inl ⟨h2, rfl, h⟩⟩
    · right
      refine ⟨T, ⟨rfl, by omega, fun j a b => ?_⟩, ?_⟩
      · by_cases e : j = i
        · rw [e]; exact c
        · exact hno j a (by omega)
      · by_cases k1 : nI (tb.2 i).1 = nI x.1
        · rw [if_pos k1]
          by_cases k2 : nI (tb.2 i).2.1 = nI x.2.1
          · rw [if_pos k2, if_neg (fun k3 => c (key.mp ⟨k1, k2, k3⟩))]
          · rw [if_neg k2]
        · rw [if_neg k1]
  · rintro T k ⟨rfl, i5, hno⟩
    have ef : num tb x = (pushT tb x, tb.1) := num_new (fnd_no hno)
    have es : (num tb x).1.1 = tb.1 + 1 := by rw [ef]; rfl
    unfold f_X7_numberFor_3
    rw [h3, if_pos (by rw [nI_leI (by omega) (by omega)]; omega)]
    unfold f_X7_numberFor_61
    rw [h3, if_neg (by rw [show (5 : Int32) = nI 5 from rfl, nI_ltI (by omega) (by omega)]; omega)]
    by_cases c : tb.1 < 10
    · rw [if_pos (by rw [show (10 : Int32) = nI 10 from rfl, nI_ltI (by omega) (by omega)]; exact c), if_neg (nI_bad c (by omega)), nI_c (by omega)]
      simp only [bd]
      have s7 : ∀ v : Int32, (sI T (q + 1) tb.1 v).1 q 4 = nI tb.1 := fun v => by rw [← h3]; simp [sI]
      have s9 : ∀ v w : Int32, (sI (sI T (q + 1) tb.1 v) (q + 2) tb.1 w).1 q 4 = nI tb.1 := fun v w => by rw [← h3]; simp [sI]
      have s11 : ∀ v w z : Int32, (sI (sI (sI T (q + 1) tb.1 v) (q + 2) tb.1 w) (q + 3) tb.1 z).1 q 4 = nI tb.1 := fun v w z => by rw [← h3]; simp [sI]
      rw [s7, if_neg (nI_bad c (by omega)), nI_c (by omega), s9, if_neg (nI_bad c (by omega)), nI_c (by omega)]
      generalize hV : sI (sI (sI T (q + 1) tb.1 (nI x.1)) (q + 2) tb.1 (nI x.2.1)) (q + 3) tb.1 (sec x) = V
      have v0 : V.1 q 4 = nI tb.1 := by rw [← hV]; exact s11 _ _ _
      have v1 : ∀ t, V.1 (q + 1) t = if t = tb.1 then nI x.1 else T.1 (q + 1) t := fun t => by rw [← hV]; simp [sI]
      have v2 : ∀ t, V.1 (q + 2) t = if t = tb.1 then nI x.2.1 else T.1 (q + 2) t := fun t => by rw [← hV]; simp [sI]
      have v3 : ∀ t, V.1 (q + 3) t = if t = tb.1 then sec x else T.1 (q + 3) t := fun t => by rw [← hV]; simp [sI]
      have v4 : ∀ t, V.1 (q + 4) t = T.1 (q + 4) t := fun t => by rw [← hV]; simp [sI]
      have fin : ∀ w : Int32, (w = if x.1 = 1 then T.1 (q + 4) x.2.1 + 3 else T.1 (q + 4) x.2.1 + T.1 (q + 4) x.2.2 + 4) → ∃ r T', f_X7_numberFor_147 n q V (V.1 q 4) w = some (r, T') ∧ (((num tb x).1.1 ≤ 10 ∧ r = nI (num tb x).2 ∧ CT T' q (num tb x).1) ∨ (10 < (num tb x).1.1 ∧ r = -2000000001 ∧ T' = T)) := by
        intro w hw
        unfold f_X7_numberFor_147
        rw [v0, if_neg (nI_bad c (by omega)), nI_c (by omega)]
        simp only [bd]
        have w0 : (sI V (q + 4) tb.1 w).1 q 4 = nI tb.1 := by rw [← v0]; simp [sI]
        rw [w0, nI_1]
        have w1 : (sI (sI V (q + 4) tb.1 w) q 4 (nI (tb.1 + 1))).1 q 4 = nI (tb.1 + 1) := by simp [sI]
        rw [w1, nI_pred]
        refine ⟨_, _, rfl, Or.inl ⟨by omega, by rw [ef], ?_⟩⟩
        rw [ef]
        refine CT.push h hx c (by have := nok.1; rw [ef] at this; exact this) w1 (fun t => ?_) (fun t => ?_) (fun t => ?_) (fun t => ?_)
        · rw [← v1 t]; simp [sI]
        · rw [← v2 t]; simp [sI]
        · rw [← v3 t]; simp [sI]
        · by_cases e : t = tb.1
          · rw [if_pos e, ← hw, e]; simp [sI]
          · rw [if_neg e, ← v4 t]; simp [sI, e]
      by_cases c1 : x.1 = 1
      · rw [if_pos (by rw [c1]; rfl), bo_some (length7 v0 h2 hl.1)]
        exact fin _ (by rw [if_pos c1, v4])
      · have c2 : x.1 = 2 := by rcases hx with ⟨a, -⟩ | ⟨a, -⟩ <;> omega
        have e2 : sec x = nI x.2.2 := by unfold sec; rw [if_pos c2]
        rw [if_neg (by rw [show (1 : Int32) = nI 1 from rfl, nI_eq (by omega) (by omega)]; exact c1), bo_some (length7 v0 h2 hl.1), e2, bo_some (length7 v0 h2 hl.2)]
        exact fin _ (by rw [if_neg c1, v4, v4])
    · rw [if_neg (by rw [show (10 : Int32) = nI 10 from rfl, nI_ltI (by omega) (by omega)]; exact c)]
      exact ⟨_, T, rfl, Or.inr ⟨by omega, rfl, rfl⟩⟩
/-! building from symbols -/
theorem OkL_app : ∀ {p s : List Nat}, OkL (p ++ s) → OkL s
  | [], _, h => h
  | _ :: p, _, h => OkL_app (p := p) h.1
theorem ar_le : ∀ (l : List Nat), ar l ≤ l.length
  | [] => Nat.le_refl _
  | s :: r => by
    have := ar_le r
    simp only [ar, List.length_cons]
    split
    · omega
    · split <;> omega
theorem num_mono (tb : Tb) (x : Nat × Nat × Nat) : tb.1 ≤ (num tb x).1.1 := by
  cases e : fnd tb.2 x tb.1 with
  | some t => rw [num_old e]; exact Nat.le_refl _
  | none => rw [num_new e]; exact Nat.le_succ _
theorem bs_mono (q : Tb × List Nat) (s : Nat) : q.1.1 ≤ (bs q s).1.1 := by
  unfold bs
  split
  · exact Nat.le_refl _
  · split
    · split
      · exact num_mono _ _
      · exact Nat.le_refl _
    · split
      · exact num_mono _ _
      · exact Nat.le_refl _
theorem bl_mono : ∀ (l : List Nat) (q : Tb × List Nat), q.1.1 ≤ (bl l q).1.1
  | [], _ => Nat.le_refl _
  | s :: r, q => Nat.le_trans (bl_mono r q) (bs_mono _ s)
theorem snoc : ∀ (l : List Nat), l ≠ [] → ∃ p s, l = p ++ [s]
  | [], h => absurd rfl h
  | [x], _ => ⟨[], x, rfl⟩
  | x :: y :: r, _ => by
    obtain ⟨p, s, e⟩ := snoc (y :: r) (by simp)
    exact ⟨x :: p, s, by rw [e]; rfl⟩
theorem Stk_at {f : Nat → Int32} : ∀ {p s : List Nat} {x : Nat}, Stk f (p ++ x :: s) → f s.length = nI x
  | [], _, _, h => h.1
  | _ :: p, _, _, h => Stk_at (p := p) h.2
theorem BlOk.cons {tb0 tb : Tb} {suf st : List Nat} {s : Nat} (hw : TbWf tb0) (h : BlOk tb0 suf tb st) (ho : OkL (s :: suf)) : ∃ tb2 st2, BlOk tb0 (s :: suf) tb2 st2 ∧ bs (tb, st) s = (tb2, st2) := by
  obtain ⟨tb2, st2, g⟩ := bl_ok hw (s :: suf) ho
  refine ⟨tb2, st2, g, ?_⟩
  have e := g.1 []
  simp only [bl, List.append_nil] at e
  rw [h.1 [], List.append_nil] at e
  exact e
theorem take_b {n : Nat} {S : St} {a : Nat} {st : List Nat} (hl : st.length < 40) (h : S.1 2 9 = nI (a :: st).length) (hs : Stk (S.1 5) (a :: st)) : f_X5_takeBuilt n S = some (nI a, sI S 2 9 (nI st.length)) := by
  unfold f_X5_takeBuilt
  rw [List.length_cons] at h
  rw [h, if_neg (by rw [show (1 : Int32) = nI 1 from rfl, nI_ltI (by omega) (by omega)]; omega), if_pos (by rw [show (40 : Int32) = nI 40 from rfl, nI_leI (by omega) (by omega)]; omega)]
  simp only [bd]
  rw [nI_pred]
  have e : (sI S 2 9 (nI st.length)).1 2 9 = nI st.length := by simp [sI]
  rw [e, if_neg (nI_bad hl (by omega)), nI_c (by omega)]
  have e5 : (sI S 2 9 (nI st.length)).1 5 st.length = nI a := by rw [← hs.1]; simp [sI]
  rw [e5]
/-- what building leaves of the reader -/
def RK (S T : St) : Prop := T.1 4 = S.1 4 ∧ ∀ j, j ≠ 9 → T.1 2 j = S.1 2 j
theorem RK.rf {S : St} : RK S S := ⟨rfl, fun _ _ => rfl⟩
theorem RK.trans {S T V : St} (h : RK S T) (g : RK T V) : RK S V := ⟨g.1.trans h.1, fun j hj => (g.2 j hj).trans (h.2 j hj)⟩
theorem RK.s9 {S : St} {v : Int32} : RK S (sI S 2 9 v) := ⟨by funext j; simp [sI], fun j hj => by simp [sI, hj]⟩
theorem RK.s5 {S : St} {k : Nat} {v : Int32} : RK S (sI S 5 k v) := ⟨by funext j; simp [sI], fun j hj => by simp [sI]⟩
theorem RK.kp {S T : St} {q : Nat} (h : Keeps (wr_X7_numberFor 6) S T) : RK S T := ⟨(h 4 (by unfold wr_X7_numberFor; omega)).1, fun j _ => by rw [(h 2 (by unfold wr_X7_numberFor; omega)).1]⟩
def BI (tb0 : Tb) (S T : St) (suf : List Nat) : Prop := ∃ tb st, BlOk tb0 suf tb st ∧ CT T 6 tb ∧ T.1 2 9 = nI st.length ∧ Stk (T.1 5) st ∧ RK S T
theorem CT.k2 {S : St} {tb : Tb} {k : Nat} {v : Int32} (h : CT S 6 tb) : CT (sI S 2 k v) 6 tb := h.keep (by simp [sI]) (by funext j; simp [sI]) (by funext j; simp [sI]) (by funext j; simp [sI]) (by funext j; simp [sI])
theorem CT.k5 {S : St} {tb : Tb} {k : Nat} {v : Int32} (h : CT S 6 tb) : CT (sI S 5 k v) 6 tb := h.keep (by simp [sI]) (by funext j; simp [sI]) (by funext j; simp [sI]) (by funext j; simp [sI]) (by funext j; simp [sI])
theorem put_b {n i : Nat} {k : St → Int32 → Option (Int32 × St)} {S T : St} {tb0 tb : Tb} {suf : List Nat} {x : Nat} {st : List Nat} (hx : x < 2 ^ 31) (hl : st.length < 40) (hb : BlOk tb0 suf tb (x :: st)) (hc : CT T 6 tb) (h9 : T.1 2 9 = nI st.length) (h5 : Stk (T.1 5) st) (hr : RK S T) :
    ∃ V, f_X5_buildIn_72 n 6 k T (nI i) (nI x) = k V (nI (i + 1)) ∧ BI tb0 S V suf := by
  unfold f_X5_buildIn_72
  rw [if_neg (nI_none hx), h9, if_neg (nI_pos (by omega)), if_pos (by rw [show (40 : Int32) = nI 40 from rfl, nI_ltI (by omega) (by omega)]; exact hl), if_neg (nI_bad hl (by omega)), nI_c (by omega)]
  simp only [bd]
  have e : (sI T 5 st.length (nI x)).1 2 9 = nI st.length := by rw [← h9]; simp [sI]
  rw [e, nI_1, nI_1]
  refine ⟨_, rfl, tb, x :: st, hb, hc.k5.k2, by simp [sI], ?_, (hr.trans RK.s5).trans RK.s9⟩
  exact (Stk.push (x := x) h5).congr (fun i _ => by simp [sI])
theorem build_c {n : Nat} {S : St} {tb0 : Tb} {l : List Nat} (hn : 60 ≤ n) (hc : CT S 6 tb0) (hl : l.length ≤ 40) (h4 : S.1 2 4 = nI l.length) (hs : Stk (S.1 4) l) (ho : OkL l) (ha : ar l = 2) :
    ∃ r T, f_X5_buildIn n S 6 = some (r, T) ∧ RK S T ∧ ((r = 1 ∧ ∃ tb a b, BlOk tb0 l tb [b, a] ∧ CT T 6 tb ∧ T.1 2 9 = nI 2 ∧ T.1 5 0 = nI a ∧ T.1 5 1 = nI b) ∨ (r = 0 ∧ 10 < (bl l (tb0, [])).1.1 ∧ ∃ tb, Ext tb0 tb ∧ CT T 6 tb)) := by
  have hw := hc.1
  unfold f_X5_buildIn
  simp only [bd]
  refine for_up (α := Int32 × St) (f_X5_buildIn_7 n 6) (fun _ _ => none) l.length (fun i T => ∃ pre suf, l = pre ++ suf ∧ suf.length = i ∧ BI tb0 S T suf) (fun o => ∃ r T, o = some (r, T) ∧ RK S T ∧ ((r = 1 ∧ ∃ tb a b, BlOk tb0 l tb [b, a] ∧ CT T 6 tb ∧ T.1 2 9 = nI 2 ∧ T.1 5 0 = nI a ∧ T.1 5 1 = nI b) ∨ (r = 0 ∧ 10 < (bl l (tb0, [])).1.1 ∧ ∃ tb, Ext tb0 tb ∧ CT T 6 tb))) ?_ ?_ n 0 _ (by omega) (by omega) ⟨l, [], by simp, rfl, tb0, [], ⟨fun _ => rfl, rfl, hw, Ext.rf, by simp, by simp, rfl⟩, hc.k2, by simp [sI, nI_0], trivial, RK.s9⟩
  · rintro i T k hi ⟨pre, suf, e1, e2, tb, st, hb, hct, g9, g5, hr⟩
    have hp : pre ≠ [] := by
      rintro rfl
      rw [e1] at hi
      simp at hi
      omega
    obtain ⟨p, s, rfl⟩ := snoc pre hp
    have e1' : l = p ++ s :: suf := by rw [e1]; simp
    have hos : OkL (s :: suf) := by rw [e1'] at ho; exact OkL_app ho
    have hst : st.length = ar suf := hb.2.1
    have hal := ar_le suf
    have hsy : S.1 4 i = nI s := by rw [e1'] at hs; rw [← e2]; exact Stk_at hs
    have hs6 := hos.2.1
    unfold f_X5_buildIn_7
    rw [hr.2 4 (by decide), h4, if_neg (by rw [nI_leI (by omega) (by omega)]; omega), if_neg (by rw [show (40 : Int32) = nI 40 from rfl, nI_leI (by omega) (by omega)]; omega), if_neg (nI_bad (by omega) (by omega)), nI_c (by omega), hr.1, hsy]
    simp only [bd]
    obtain ⟨tb2, st2, b1, b2⟩ := hb.cons hw hos
    have nxt : ∀ V, BI tb0 S V (s :: suf) → ∃ pre suf, l = pre ++ suf ∧ suf.length = i + 1 ∧ BI tb0 S V suf := fun V hV => ⟨p, s :: suf, e1', by simp [e2], hV⟩
    have big : 10 < tb2.1 → 10 < (bl l (tb0, [])).1.1 := fun hq => by
      rw [e1', bl_app, b1.1 []]
      have := bl_mono p (tb2, st2 ++ [])
      exact Nat.lt_of_lt_of_le hq this
    have q5 : (nI s = (5 : Int32)) ↔ s = 5 := by rw [show (5 : Int32) = nI 5 from rfl, nI_eq (by omega) (by omega)]
    have q6 : (nI s = (6 : Int32)) ↔ s = 6 := by rw [show (6 : Int32) = nI 6 from rfl, nI_eq (by omega) (by omega)]
    by_cases c5 : s = 5
    · rw [if_pos (q5.mpr c5)]
      subst c5
      have hl1 := hos.2.2.1 rfl
      cases st with
      | nil => simp at hst; omega
      | cons a r1 =>
        simp only [List.length_cons] at hst
        rw [bo_some (take_b (by omega) g9 g5)]
        have hat : a < tb.1 := hb.2.2.2.2.1 a List.mem_cons_self
        have ht10 := hct.2.1
        obtain ⟨r, V, n1, n2⟩ := numberFor_c (n := n) (x := (1, a, 0)) (by omega) (CT.k2 (k := 9) (v := nI r1.length) hct) (Or.inl ⟨rfl, hat, rfl⟩)
        have es : sec (1, a, 0) = -2000000001 := rfl
        rw [es] at n1
        have n1' : f_X7_numberFor n 6 (sI T 2 9 (nI r1.length)) (1 : Int32) (nI a) (-2000000001) = some (r, V) := n1
        rw [bo_some n1']
        rw [bs_f] at b2
        have kp := fr_X7_numberFor n 6 _ _ _ _ _ _ n1'
        have rkv : RK S V := (hr.trans RK.s9).trans (RK.kp (q := 0) kp)
        rcases n2 with ⟨m1, m2, m3⟩ | ⟨m1, m2, m3⟩
        · right
          have nb := (num_ok hb.2.2.1 (x := (1, a, 0)) (Or.inl ⟨rfl, hat, rfl⟩))
          rw [m2]
          have x1 : tb2 = (num tb (1, a, 0)).1 := (congrArg Prod.fst b2).symm
          have x2 : st2 = (num tb (1, a, 0)).2 :: r1 := (congrArg Prod.snd b2).symm
          rw [x1, x2] at b1
          have hlt := nb.2.2.2.1
          obtain ⟨V2, v1, v2⟩ := put_b (n := n) (i := i) (k := k) (S := S) (T := V) (by omega) (by omega) b1 m3 (by rw [(kp 2 (by unfold wr_X7_numberFor; omega)).1]; simp [sI]) (by rw [(kp 5 (by unfold wr_X7_numberFor; omega)).1]; exact g5.2.congr (fun i _ => by simp [sI])) rkv
          exact ⟨V2, nxt V2 v2, v1⟩
        · left
          unfold f_X5_buildIn_72
          rw [m2, if_pos rfl]
          refine ⟨0, V, rfl, rkv, Or.inr ⟨rfl, big ?_, tb, hb.2.2.2.1, ?_⟩⟩
          · have e := congrArg Prod.fst b2; dsimp only at e; rw [← e]; exact m1
          · rw [m3]; exact hct.k2
    · rw [if_neg (fun hq => c5 (q5.mp hq))]
      by_cases c6 : s = 6
      · rw [if_pos (q6.mpr c6)]
        subst c6
        have hl2 := hos.2.2.2 rfl
        cases st with
        | nil => simp at hst; omega
        | cons b r0 =>
          cases r0 with
          | nil => simp at hst; omega
          | cons a r1 =>
            simp only [List.length_cons] at hst
            rw [bo_some (take_b (by simp only [List.length_cons]; omega) g9 g5)]
            have g9' : (sI T 2 9 (nI (a :: r1).length)).1 2 9 = nI (a :: r1).length := by simp [sI]
            have g5' : Stk ((sI T 2 9 (nI (a :: r1).length)).1 5) (a :: r1) := g5.2.congr (fun i _ => by simp [sI])
            rw [bo_some (take_b (by omega) g9' g5')]
            have hbt : b < tb.1 := hb.2.2.2.2.1 b List.mem_cons_self
            have hat : a < tb.1 := hb.2.2.2.2.1 a (List.mem_cons_of_mem _ List.mem_cons_self)
            have ht10 := hct.2.1
            obtain ⟨r, V, n1, n2⟩ := numberFor_c (n := n) (x := (2, a, b)) (by omega) (CT.k2 (k := 9) (v := nI r1.length) (CT.k2 (k := 9) (v := nI (a :: r1).length) hct)) (Or.inr ⟨rfl, hat, hbt⟩)
            have es : sec (2, a, b) = nI b := rfl
            rw [es] at n1
            have n1' : f_X7_numberFor n 6 (sI (sI T 2 9 (nI (a :: r1).length)) 2 9 (nI r1.length)) (2 : Int32) (nI a) (nI b) = some (r, V) := n1
            rw [bo_some n1']
            rw [bs_g] at b2
            have kp := fr_X7_numberFor n 6 _ _ _ _ _ _ n1'
            have rkv : RK S V := ((hr.trans RK.s9).trans RK.s9).trans (RK.kp (q := 0) kp)
            rcases n2 with ⟨m1, m2, m3⟩ | ⟨m1, m2, m3⟩
            · right
              have nb := (num_ok hb.2.2.1 (x := (2, a, b)) (Or.inr ⟨rfl, hat, hbt⟩))
              rw [m2]
              have x1 : tb2 = (num tb (2, a, b)).1 := (congrArg Prod.fst b2).symm
              have x2 : st2 = (num tb (2, a, b)).2 :: r1 := (congrArg Prod.snd b2).symm
              rw [x1, x2] at b1
              have hlt := nb.2.2.2.1
              obtain ⟨V2, v1, v2⟩ := put_b (n := n) (i := i) (k := k) (S := S) (T := V) (by omega) (by omega) b1 m3 (by rw [(kp 2 (by unfold wr_X7_numberFor; omega)).1]; simp [sI]) (by rw [(kp 5 (by unfold wr_X7_numberFor; omega)).1]; exact g5.2.2.congr (fun i _ => by simp [sI])) rkv
              exact ⟨V2, nxt V2 v2, v1⟩
            · left
              unfold f_X5_buildIn_72
              rw [m2, if_pos rfl]
              refine ⟨0, V, rfl, rkv, Or.inr ⟨rfl, big ?_, tb, hb.2.2.2.1, ?_⟩⟩
              · have e := congrArg Prod.fst b2; dsimp only at e; rw [← e]; exact m1
              · rw [m3]; exact hct.k2.k2
      · rw [if_neg (fun hq => c6 (q6.mp hq))]
        have cs : s < 5 := by omega
        right
        rw [bs_name cs] at b2
        have x1 : tb2 = tb := (congrArg Prod.fst b2).symm
        have x2 : st2 = s :: st := (congrArg Prod.snd b2).symm
        rw [x1, x2] at b1
        obtain ⟨V2, v1, v2⟩ := put_b (n := n) (i := i) (k := k) (S := S) (T := T) (by omega) (by omega) b1 hct g9 g5 hr
        exact ⟨V2, nxt V2 v2, v1⟩
  · rintro T k ⟨pre, suf, e1, e2, tb, st, hb, hct, g9, g5, hr⟩
    have hp : pre = [] := by
      have := congrArg List.length e1
      simp at this
      exact List.length_eq_zero_iff.mp (by omega)
    rw [hp, List.nil_append] at e1
    subst e1
    have hst : st.length = 2 := hb.2.1.trans ha
    unfold f_X5_buildIn_7
    rw [hr.2 4 (by decide), h4, if_pos (by rw [nI_leI (by omega) (by omega)]; omega)]
    unfold f_X5_buildIn_122
    rw [g9, hst, if_pos (by rfl)]
    cases st with
    | nil => simp at hst
    | cons b r0 =>
      cases r0 with
      | nil => simp at hst
      | cons a r1 =>
        cases r1 with
        | cons c r2 => simp at hst
        | nil => exact ⟨1, T, rfl, hr, Or.inl ⟨rfl, tb, a, b, hb, hct, by rw [g9]; rfl, g5.2.1, g5.1⟩⟩
