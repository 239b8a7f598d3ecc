/-! TERMS OF THE REFERENCE: a term's number, a literal's text laid -/
def MT (S : St) (tb : Tb) : Prop := TbWf tb ∧ tb.1 ≤ 60 ∧ S.1 28 18 = nI tb.1 ∧ (∀ t, t < tb.1 → S.1 35 t = nI (tb.2 t).1) ∧ (∀ t, 5 ≤ t → t < tb.1 → S.1 36 t = nI (tb.2 t).2.1 ∧ S.1 37 t = sec (tb.2 t)) ∧ ∀ t, t < 5 → S.1 36 t = -2000000001 ∧ S.1 37 t = -2000000001
theorem MT.keep {S T : St} {tb : Tb} (h : MT S tb) (e0 : T.1 28 18 = S.1 28 18) (e1 : T.1 35 = S.1 35) (e2 : T.1 36 = S.1 36) (e3 : T.1 37 = S.1 37) : MT T tb := by
  unfold MT; rw [e0, e1, e2, e3]; exact h
theorem MT.push {S T : St} {tb : Tb} {x : Nat × Nat × Nat} (h : MT S tb) (h10 : tb.1 < 60) (hw : TbWf (pushT tb x)) (e0 : T.1 28 18 = nI (tb.1 + 1)) (e1 : ∀ t, T.1 35 t = if t = tb.1 then nI x.1 else S.1 35 t) (e2 : ∀ t, T.1 36 t = if t = tb.1 then nI x.2.1 else S.1 36 t) (e3 : ∀ t, T.1 37 t = if t = tb.1 then sec x else S.1 37 t) : MT T (pushT tb x) := by
  obtain ⟨h1, h2, h3, h4, h5, h6⟩ := h
  have h15 := h1.1
  have ep : ∀ t, (pushT tb x).2 t = if t = tb.1 then x else tb.2 t := fun t => rfl
  refine ⟨hw, by show tb.1 + 1 ≤ 60; omega, e0, fun t ht => ?_, fun t h5t ht => ?_, fun t ht => ?_⟩
  · have ht' : t < tb.1 + 1 := ht
    rw [e1, ep]
    by_cases c : t = tb.1
    · rw [if_pos c, if_pos c]
    · rw [if_neg c, if_neg c]; exact h4 t (by omega)
  · have ht' : t < tb.1 + 1 := ht
    rw [e2, e3, ep]
    by_cases c : t = tb.1
    · rw [if_pos c, if_pos c, if_pos c]
      exact ⟨rfl, rfl⟩
    · rw [if_neg c, if_neg c, if_neg c]; exact h5 t h5t (by omega)
  · rw [e2, e3, if_neg (by omega), if_neg (by omega)]; exact h6 t ht
/-- what laying leaves alone -/
def TK (S T : St) : Prop := T.2 = S.2 ∧ ∀ c j, ¬ (c = 28 ∧ j = 18) → ¬ (35 ≤ c ∧ c ≤ 37) → T.1 c j = S.1 c j
theorem TK.rf {S : St} : TK S S := ⟨rfl, fun _ _ _ _ => rfl⟩
theorem termOf_m {n : Nat} {S : St} {tb : Tb} {x : Nat × Nat × Nat} (hn : 64 ≤ n) (h : MT S tb) (hx : EOk tb.1 x) (hb : tb.1 < 60) :
    ∃ T, f_X9_termOf n S (nI x.1) (nI x.2.1) (sec x) = some (nI (num tb x).2, T) ∧ MT T (num tb x).1 ∧ TK S T := by
  obtain ⟨h1, h2, h3, h4, h5, h6⟩ := id h
  have h15 := h1.1
  have nok := num_ok h1 hx
  unfold f_X9_termOf
  simp only [bd]
  refine for_up (α := Int32 × St) (f_X9_termOf_3 n (nI x.1) (nI x.2.1) (sec x)) (fun _ _ => none) tb.1 (fun i T => T = S ∧ 5 ≤ i ∧ ∀ j, 5 ≤ j → j < i → tb.2 j ≠ x) (fun o => ∃ T, o = some (nI (num tb x).2, T) ∧ MT T (num tb x).1 ∧ TK S T) ?_ ?_ n 5 S (by omega) (by omega) ⟨rfl, by omega, fun j a b => by omega⟩
  · rintro i T k hi ⟨rfl, i5, hno⟩
    obtain ⟨g1, g2⟩ := h5 i i5 hi
    unfold f_X9_termOf_3 f_X9_termOf_48
    rw [h3, if_neg (by rw [nI_leI (by omega) (by omega)]; omega), if_neg (nI_bad (by omega) (by omega)), nI_c (by omega), h4 i hi, g1, g2]
    have key := sec_eq (n := tb.1) (by omega) ((h1.2.2.1 i i5 hi).mono (by omega)) hx
    simp only [bd, if_neg (nI_g (show i < 64 by omega) (by omega)), nI_1]
    by_cases c : tb.2 i = x
    · left
      obtain ⟨k1, k2, k3⟩ := key.mpr c
      rw [if_pos k1, if_pos k2, if_pos k3]
      have ef : num tb x = (tb, i) := num_old (fnd_eq i5 hi c hno)
      rw [ef]
      exact ⟨T, rfl, h, TK.rf⟩
    · right
      refine ⟨T, ⟨rfl, by omega, fun j a b => ?_⟩, ?_⟩
      · by_cases e : j = i
        · rw [e]; exact c
        · exact hno j a (by omega)
      · by_cases k1 : nI (tb.2 i).1 = nI x.1
        · rw [if_pos k1]
          by_cases k2 : nI (tb.2 i).2.1 = nI x.2.1
          · rw [if_pos k2, if_neg (fun k3 => c (key.mp ⟨k1, k2, k3⟩))]
          · rw [if_neg k2]
        · rw [if_neg k1]
  · rintro T k ⟨rfl, i5, hno⟩
    have ef : num tb x = (pushT tb x, tb.1) := num_new (fnd_no hno)
    unfold f_X9_termOf_3
    rw [h3, if_pos (by rw [nI_leI (by omega) (by omega)]; omega), if_neg (nI_bad (by omega) (by omega)), nI_c (by omega)]
    simp only [bd]
    have s7 : ∀ v : Int32, (sI T 35 tb.1 v).1 28 18 = nI tb.1 := fun v => by rw [← h3]; simp [sI]
    have s9 : ∀ v w : Int32, (sI (sI T 35 tb.1 v) 36 tb.1 w).1 28 18 = nI tb.1 := fun v w => by rw [← h3]; simp [sI]
    have s11 : ∀ v w z : Int32, (sI (sI (sI T 35 tb.1 v) 36 tb.1 w) 37 tb.1 z).1 28 18 = nI tb.1 := fun v w z => by rw [← h3]; simp [sI]
    rw [s7, if_neg (nI_bad (by omega) (by omega)), nI_c (by omega), s9, if_neg (nI_bad (by omega) (by omega)), nI_c (by omega), s11, nI_1]
    generalize hV : sI (sI (sI T 35 tb.1 (nI x.1)) 36 tb.1 (nI x.2.1)) 37 tb.1 (sec x) = V
    have w1 : (sI V 28 18 (nI (tb.1 + 1))).1 28 18 = nI (tb.1 + 1) := by simp [sI]
    rw [w1, nI_pred, ef]
    refine ⟨_, rfl, ?_, ?_, ?_⟩
    · refine MT.push h hb (by have := nok.1; rw [ef] at this; exact this) w1 (fun t => ?_) (fun t => ?_) (fun t => ?_)
      · rw [← hV]; simp [sI]
      · rw [← hV]; simp [sI]
      · rw [← hV]; simp [sI]
    · rw [← hV]; rfl
    · intro c j a b
      rw [← hV]
      have x1 : ¬ c = 35 := by omega
      have x2 : ¬ c = 36 := by omega
      have x3 : ¬ c = 37 := by omega
      simp only [sI, a, x1, x2, x3, false_and, if_false]
/-! the ghost's arities -/
def c2 : List Nat → Nat
  | [] => 0
  | b :: r => (if b = 2 then 1 else 0) + c2 r
def Gar (g : Gs) : Prop := OkL g.2.1.1 ∧ OkL g.2.1.2 ∧ (g.1.2.2 = 3 → ar g.2.1.1 = (if 2 ≤ g.1.1 then 1 else 0) + c2 g.1.2.1) ∧ (g.1.2.2 ≠ 3 → ar g.2.1.1 = 1 ∧ ar g.2.1.2 = (if 2 ≤ g.1.1 then 1 else 0) + c2 g.1.2.1)
theorem Gar0 : Gar g0 := ⟨trivial, trivial, fun _ => rfl, fun h => absurd rfl h⟩
theorem Gar.push {w w2 kd s ng nm : Nat} {br br2 : List Nat} {l : List Nat × List Nat} (h : Gar ((w, br, kd), l, ng, nm)) (hs : s ≤ 6) (h5 : s = 5 → 1 ≤ (if 2 ≤ w then 1 else 0) + c2 br) (h6 : s = 6 → 2 ≤ (if 2 ≤ w then 1 else 0) + c2 br) (he : ∀ r, ar r = (if 2 ≤ w then 1 else 0) + c2 br → ar (s :: r) = (if 2 ≤ w2 then 1 else 0) + c2 br2) : Gar ((w2, br2, kd), gpush kd s l, ng, nm) := by
  obtain ⟨h1, h2, h3, h4⟩ := h
  obtain ⟨ls, rs⟩ := l
  dsimp only at h1 h2 h3 h4
  unfold gpush
  by_cases k : kd = 3
  · rw [if_pos k]
    have e := h3 k
    exact ⟨⟨h1, hs, fun q => by rw [e]; exact h5 q, fun q => by rw [e]; exact h6 q⟩, h2, fun _ => he ls e, fun q => absurd k q⟩
  · rw [if_neg k]
    obtain ⟨e1, e⟩ := h4 k
    exact ⟨h1, ⟨h2, hs, fun q => by rw [e]; exact h5 q, fun q => by rw [e]; exact h6 q⟩, fun q => absurd q k, fun _ => ⟨e1, he rs e⟩⟩
theorem Gar.head {w w2 kd ng ng2 nm nm2 : Nat} {br br2 : List Nat} {l : List Nat × List Nat} (h : Gar ((w, br, kd), l, ng, nm)) (he : (if 2 ≤ w then 1 else 0) + c2 br = (if 2 ≤ w2 then 1 else 0) + c2 br2) : Gar ((w2, br2, kd), l, ng2, nm2) := by
  obtain ⟨h1, h2, h3, h4⟩ := h
  exact ⟨h1, h2, fun k => (h3 k).trans he, fun k => ⟨(h4 k).1, (h4 k).2.trans he⟩⟩
theorem Gar.step {g g2 : Gs} {i c : Nat} (h : Gar g) (k : Gok g i) (e : gstep g c = some g2) : Gar g2 := by
  obtain ⟨⟨w, br, kd⟩, l, ng, nm⟩ := g
  have k9 := k.2.2.2.2.2.2.2.2.1
  have k10 := k.2.2.2.2.2.2.2.2.2.1
  have k6 := k.2.2.2.2.2.1
  dsimp only at k9 k10 k6
  unfold gstep at e
  dsimp only at e
  by_cases w0 : w = 0
  · subst w0
    rw [if_pos rfl] at e
    by_cases a1 : 97 ≤ c ∧ c ≤ 101
    · rw [if_pos a1] at e; cases e
      exact h.push (by omega) (fun q => by omega) (fun q => by omega) (fun r hr => by
        simp only [ar]; rw [if_pos (by omega), hr]; simp; omega)
    · rw [if_neg a1] at e
      by_cases a2 : c = 102
      · rw [if_pos a2] at e; cases e
        exact h.head (by simp [c2])
      · rw [if_neg a2] at e
        by_cases a3 : c = 103
        · rw [if_pos a3] at e; cases e
          exact h.head (by simp [c2])
        · rw [if_neg a3] at e; cases e
  · rw [if_neg w0] at e
    by_cases w1 : w = 1
    · subst w1
      rw [if_pos rfl] at e
      by_cases a1 : c = 40
      · rw [if_pos a1] at e; cases e
        exact h.head (by simp)
      · rw [if_neg a1] at e; cases e
    · rw [if_neg w1] at e
      by_cases w2 : w = 2
      · subst w2
        rw [if_pos rfl] at e
        cases br with
        | nil =>
          dsimp only at e
          by_cases k3 : kd = 3
          · rw [if_pos k3] at e
            by_cases s3 : gsign c = 3
            · rw [if_pos s3] at e; cases e
            · rw [if_neg s3] at e; cases e
              obtain ⟨h1, h2, h3, h4⟩ := h
              refine ⟨h1, h2, fun q => absurd q s3, fun _ => ⟨?_, ?_⟩⟩
              · have := h3 k3; simpa [c2] using this
              · have := k10 k3; dsimp only; rw [this]; simp [ar, c2]
          · rw [if_neg k3] at e
            by_cases k2 : kd = 2 ∧ (c = 43 ∨ c = 45)
            · rw [if_pos k2] at e; cases e
              exact h.head (by simp)
            · rw [if_neg k2] at e; cases e
        | cons b r =>
          dsimp only at e
          have hb := k9 b List.mem_cons_self
          by_cases b1 : b = 1
          · rw [if_pos b1] at e
            by_cases a1 : c = 44
            · rw [if_pos a1] at e; cases e
              exact h.head (by simp [c2, b1])
            · rw [if_neg a1] at e; cases e
          · rw [if_neg b1] at e
            by_cases a1 : c = 41
            · rw [if_pos a1] at e; cases e
              by_cases b0 : b = 0
              · rw [if_pos b0]
                refine h.push (by omega) (fun _ => ?_) (fun q => by omega) (fun r hr => ?_)
                · simp
                · simp only [ar]; rw [if_neg (by omega), if_pos trivial, hr]; simp [c2, b0]
              · have b2 : b = 2 := by omega
                rw [if_neg b0]
                refine h.push (by omega) (fun q => by omega) (fun _ => ?_) (fun r hr => ?_)
                · simp [c2, b2]; omega
                · simp only [ar]; rw [if_neg (by omega), if_neg (by omega), hr]; simp [c2, b2]
            · rw [if_neg a1] at e; cases e
      · rw [if_neg w2] at e
        have w3 : w = 3 := by omega
        split at e
        · cases e
          exact h.head (by rw [w3])
        · cases e
theorem grun_ar {pg : Nat → Nat} : ∀ {i : Nat} {g : Gs}, grun pg i = some g → Gar g
  | 0, g, h => by cases h; exact Gar0
  | i + 1, g, h => by
    simp only [grun] at h
    cases e : grun pg i with
    | none => rw [e] at h; cases h
    | some g1 => rw [e] at h; exact (grun_ar e).step (grun_ok e) h
theorem g3_stay {g g2 : Gs} {c : Nat} (h : g.1.1 = 3) (e : gstep g c = some g2) : g2.1.1 = 3 := by
  obtain ⟨⟨w, br, kd⟩, l, ng, nm⟩ := g
  dsimp only at h
  subst h
  unfold gstep at e
  dsimp only at e
  rw [if_neg (by decide), if_neg (by decide), if_neg (by decide)] at e
  split at e
  · cases e; rfl
  · cases e
/-- ahead of the end all is read, and no figures, if the end has none -/
theorem grun_pre {pg : Nat → Nat} : ∀ {j : Nat} {g : Gs}, grun pg j = some g → g.1.1 ≠ 3 → ∀ i, i ≤ j → ∃ g1, grun pg i = some g1 ∧ g1.1.1 ≠ 3
  | 0, g, h, hw, i, hi => by
    have : i = 0 := by omega
    subst this; exact ⟨g, h, hw⟩
  | j + 1, g, h, hw, i, hi => by
    by_cases e : i = j + 1
    · subst e; exact ⟨g, h, hw⟩
    · have h' := h
      simp only [grun] at h'
      cases e1 : grun pg j with
      | none => rw [e1] at h'; cases h'
      | some g1 =>
        rw [e1] at h'
        exact grun_pre e1 (fun q => hw (g3_stay q h')) i (by omega)
