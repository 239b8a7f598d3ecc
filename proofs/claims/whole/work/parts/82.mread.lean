/-! READING: the reference's parser does the same -/
def opn (x : Nat) : Nat := if x = 1 then 44 else 41
def sgn (k : Nat) : Nat := if k = 0 then 61 else if k = 1 then 35 else 60
def MG (S : St) (g : Gs) : Prop := S.1 28 10 = nI g.1.1 ∧ S.1 28 11 = nI g.1.2.1.length ∧ Stk (S.1 34) (g.1.2.1.map opn) ∧ S.1 28 13 = nI (if g.1.2.2 = 3 then 0 else 1) ∧ (g.1.2.2 ≠ 3 → S.1 28 14 = nI (sgn g.1.2.2)) ∧ S.1 28 15 = nI g.2.2.2 ∧ S.1 28 16 = nI g.2.2.1
/-- other fields of the reference stay -/
def FR (S T : St) : Prop := ∀ j, (j < 10 ∨ 16 < j) → T.1 28 j = S.1 28 j
theorem FR.rf {S : St} : FR S S := fun _ _ => rfl
theorem FR.trans {S T U : St} (h : FR S T) (g : FR T U) : FR S U := fun j hj => (g j hj).trans (h j hj)
theorem FR.fld {S T : St} {k : Nat} {v : Int32} (h : FR S T) (hk : 10 ≤ k ∧ k ≤ 16) : FR S (sI T 28 k v) := fun j hj => by
  have : ¬ j = k := by omega
  simp only [sI, this, and_false, if_false]; exact h j hj
theorem FR.arr {S T : St} {c k : Nat} {v : Int32} (h : FR S T) (hc : c ≠ 28) : FR S (sI T c k v) := fun j hj => by
  have : ¬ 28 = c := by omega
  simp only [sI, this, false_and, if_false]; exact h j hj
theorem within_m {n : Nat} {S : St} {c a b : Nat} (hc : c < 2 ^ 31) (ha : a < 2 ^ 31) (hb : b < 2 ^ 31) : f_X9_within n S (nI c) (nI a) (nI b) = some ((if a ≤ c ∧ c ≤ b then 1 else 0), S) := by
  unfold f_X9_within
  by_cases h1 : c < a
  · rw [if_pos (by rw [nI_ltI hc ha]; exact h1), if_neg (by omega)]
  · rw [if_neg (by rw [nI_ltI hc ha]; exact h1)]
    by_cases h2 : b < c
    · rw [if_pos (by rw [nI_ltI hb hc]; exact h2), if_neg (by omega)]
    · rw [if_neg (by rw [nI_ltI hb hc]; exact h2), if_pos (by omega)]
theorem nq {c k : Nat} (hc : c < 127) (hk : k < 127) : (nI c = nI k) ↔ c = k := nI_eq (by omega) (by omega)
def StepM (S : St) (g : Gs) (c : Nat) (o : Option (Int32 × St)) : Prop := ∃ v T, o = some (v, T) ∧ FR S T ∧ T.2 = S.2 ∧ ((v = 0 ∧ gstep g c = none) ∨ (v = 1 ∧ ∃ g2, gstep g c = some g2 ∧ MG T g2))
theorem term_m {n i c : Nat} {S : St} {br : List Nat} {kd ng nm : Nat} {l : List Nat × List Nat} (hi : i < 40) (hc : c < 127) (h : MG S ((0, br, kd), l, ng, nm)) (hg : Gok ((0, br, kd), l, ng, nm) i) : StepM S ((0, br, kd), l, ng, nm) c (f_X9_takesTerm n S (nI c)) := by
  obtain ⟨h0, h1, h2, h3, h4, h5, h6⟩ := h
  have k1 := hg.1
  dsimp only at h0 h1 h2 h3 h4 h5 h6 k1
  unfold StepM f_X9_takesTerm gstep
  dsimp only
  rw [show (97 : Int32) = nI 97 from rfl, show (101 : Int32) = nI 101 from rfl, bo_some (within_m (by omega) (by omega) (by omega)), if_pos (show (0 : Nat) = 0 from rfl)]
  by_cases c1 : 97 ≤ c ∧ c ≤ 101
  · rw [if_pos c1, if_neg (by decide), if_pos c1]
    simp only [bd]
    refine ⟨1, _, rfl, FR.rf.fld (by omega), rfl, Or.inr ⟨rfl, _, rfl, by simp [sI]; rfl, by rw [← h1]; simp [sI], h2.congr (fun i _ => by simp [sI]), by rw [← h3]; simp [sI], fun hk => by rw [← h4 hk]; simp [sI], by rw [← h5]; simp [sI], by rw [← h6]; simp [sI]⟩⟩
  · rw [if_neg c1, if_pos rfl, if_neg c1]
    have wr : ∀ b : Nat, ∃ T, f_X9_takesTerm_51 n S (S.1 28 11) (nI (opn b)) = some (1, T) ∧ FR S T ∧ T.2 = S.2 ∧ MG T ((1, b :: br, kd), l, ng, nm) := by
      intro b
      unfold f_X9_takesTerm_51
      rw [h1, if_neg (nI_bad (by omega) (by omega)), nI_c (by omega)]
      simp only [bd]
      have e : (sI S 34 br.length (nI (opn b))).1 28 11 = nI br.length := by rw [← h1]; simp [sI]
      rw [e, nI_1]
      have h2' := Stk.push (c := 34) (x := opn b) (S := S) h2
      rw [List.length_map] at h2'
      refine ⟨_, rfl, ((FR.rf.arr (by decide)).fld (by omega)).fld (by omega), rfl, by simp [sI]; rfl, by simp [sI], h2'.congr (fun i _ => by simp [sI]), by dsimp only; rw [← h3]; simp [sI], fun hk => by dsimp only; rw [← h4 hk]; simp [sI], by dsimp only; rw [← h5]; simp [sI], by dsimp only; rw [← h6]; simp [sI]⟩
    unfold f_X9_takesTerm_30
    by_cases c2 : c = 102
    · rw [if_pos (by rw [c2]; rfl), if_pos (by rw [c2]; rfl), if_pos c2]
      obtain ⟨T, a1, a2, a3, a4⟩ := wr 0
      exact ⟨1, T, a1, a2, a3, Or.inr ⟨rfl, _, rfl, a4⟩⟩
    · have n102 : ¬ nI c = (102 : Int32) := fun hq => c2 ((nq hc (by omega)).mp hq)
      rw [if_neg n102, if_neg c2]
      by_cases c3 : c = 103
      · rw [if_pos (by rw [c3]; rfl), if_neg n102, if_pos c3]
        obtain ⟨T, a1, a2, a3, a4⟩ := wr 1
        exact ⟨1, T, a1, a2, a3, Or.inr ⟨rfl, _, rfl, a4⟩⟩
      · rw [if_neg (fun hq : nI c = (103 : Int32) => c3 ((nq hc (show 103 < 127 by omega)).mp hq)), if_neg c3]
        exact ⟨0, S, rfl, FR.rf, rfl, Or.inl ⟨rfl, rfl⟩⟩
theorem behind_m {n i c : Nat} {S : St} {br : List Nat} {kd ng nm : Nat} {l : List Nat × List Nat} (hi : i < 40) (hc : c < 127) (h : MG S ((2, br, kd), l, ng, nm)) (hg : Gok ((2, br, kd), l, ng, nm) i) : StepM S ((2, br, kd), l, ng, nm) c (f_X9_takesBehind n S (nI c)) := by
  obtain ⟨h0, h1, h2, h3, h4, h5, h6⟩ := h
  obtain ⟨k1, -, -, k4, -, -, -, k8, k9, -⟩ := hg
  dsimp only at h0 h1 h2 h3 h4 h5 h6 k1 k4 k8 k9
  unfold StepM f_X9_takesBehind gstep
  dsimp only
  rw [if_neg (show ¬ ((2 : Nat) = 0) by decide), if_neg (show ¬ ((2 : Nat) = 1) by decide), if_pos (show (2 : Nat) = 2 from rfl), h1]
  cases br with
  | nil =>
    dsimp only
    rw [if_pos (by decide), h3]
    by_cases k3 : kd = 3
    · rw [if_pos k3, if_pos (by decide), if_pos k3]
      unfold f_X9_takesBehind_113 f_X9_takesSign f_X9_takesSign_25 f_X9_takesSign_29 f_X9_takesSign_30
      rw [h3, if_pos k3, if_pos (by decide)]
      simp only [bd]
      have yes : ∀ s : Nat, s ≤ 2 → sgn s = c → ∃ v T, (bo (if (1 : Int32) = 0 then (if ¬ ((1 : Int32) = 0 ∨ (1 : Int32) = 1) then none else some ((1 : Int32), S)) else (if ¬ ((1 : Int32) = 0 ∨ (1 : Int32) = 1) then none else some ((1 : Int32), sI (sI (sI S 28 14 (nI c)) 28 13 1) 28 10 0))) fun (r_1 : Int32) (S_2 : St) => if ¬ (r_1 = 0 ∨ r_1 = 1) then none else some (r_1, S_2)) = some (v, T) ∧ FR S T ∧ T.2 = S.2 ∧ v = 1 ∧ MG T ((0, [], s), l, ng, nm) := by
        intro s hs hsc
        rw [if_neg (by decide), if_neg (by decide)]
        simp only [bo]
        rw [if_neg (by decide)]
        refine ⟨1, _, rfl, ((FR.rf.fld (by omega)).fld (by omega)).fld (by omega), rfl, rfl, by simp [sI]; rfl, by dsimp only; rw [← h1]; simp [sI], trivial, ?_, fun _ => by rw [← hsc]; simp [sI], by dsimp only; rw [← h5]; simp [sI], by dsimp only; rw [← h6]; simp [sI]⟩
        dsimp only
        rw [if_neg (by omega)]; simp [sI]; rfl
      by_cases c1 : c = 61
      · rw [if_pos (by rw [c1]; rfl)]
        have e : gsign c = 0 := by unfold gsign; rw [if_pos c1]
        rw [e, if_neg (by decide)]
        obtain ⟨v, T, a1, a2, a3, a4, a5⟩ := yes 0 (by omega) (by rw [c1]; rfl)
        exact ⟨v, T, a1, a2, a3, Or.inr ⟨a4, _, rfl, a5⟩⟩
      · rw [if_neg (fun hq : nI c = (61 : Int32) => c1 ((nq hc (show 61 < 127 by omega)).mp hq))]
        by_cases c2 : c = 35
        · rw [if_pos (by rw [c2]; rfl)]
          have e : gsign c = 1 := by unfold gsign; rw [if_neg c1, if_pos c2]
          rw [e, if_neg (by decide)]
          obtain ⟨v, T, a1, a2, a3, a4, a5⟩ := yes 1 (by omega) (by rw [c2]; rfl)
          exact ⟨v, T, a1, a2, a3, Or.inr ⟨a4, _, rfl, a5⟩⟩
        · rw [if_neg (fun hq : nI c = (35 : Int32) => c2 ((nq hc (show 35 < 127 by omega)).mp hq))]
          by_cases c3 : c = 60
          · rw [if_pos (by rw [c3]; rfl)]
            have e : gsign c = 2 := by unfold gsign; rw [if_neg c1, if_neg c2, if_pos c3]
            rw [e, if_neg (by decide)]
            obtain ⟨v, T, a1, a2, a3, a4, a5⟩ := yes 2 (by omega) (by rw [c3]; rfl)
            exact ⟨v, T, a1, a2, a3, Or.inr ⟨a4, _, rfl, a5⟩⟩
          · rw [if_neg (fun hq : nI c = (60 : Int32) => c3 ((nq hc (show 60 < 127 by omega)).mp hq))]
            have e : gsign c = 3 := by unfold gsign; rw [if_neg c1, if_neg c2, if_neg c3]
            rw [e, if_pos rfl, if_pos trivial, if_neg (by decide)]
            simp only [bo]
            rw [if_neg (by decide)]
            exact ⟨0, S, rfl, FR.rf, rfl, Or.inl (by simp)⟩
    · rw [if_neg k3, if_neg (by decide), if_neg k3, h4 k3]
      have no : ∃ v T, f_X9_takesBehind_113 n S (nI c) = some (v, T) ∧ FR S T ∧ T.2 = S.2 ∧ v = 0 := by
        unfold f_X9_takesBehind_113 f_X9_takesSign f_X9_takesSign_29 f_X9_takesSign_30
        rw [h3, if_neg k3, if_neg (by decide)]
        simp only [bd]
        rw [if_pos trivial, if_neg (by decide)]
        simp only [bo]
        rw [if_neg (by decide)]
        exact ⟨0, S, rfl, FR.rf, rfl, rfl⟩
      obtain ⟨v0, T0, z1, z2, z3, z4⟩ := no
      have q60 : (nI (sgn kd) = (60 : Int32)) ↔ kd = 2 := by
        have : sgn kd < 127 := by unfold sgn; split; omega; split <;> omega
        rw [show (60 : Int32) = nI 60 from rfl, nq this (by omega)]
        unfold sgn
        by_cases e0 : kd = 0
        · rw [if_pos e0]; omega
        · rw [if_neg e0]
          by_cases e1 : kd = 1
          · rw [if_pos e1]; omega
          · rw [if_neg e1]; omega
      by_cases k2 : kd = 2
      · rw [if_pos (q60.mpr k2)]
        unfold f_X9_takesBehind_91
        have yes : ∀ t : Nat, t ≤ 1 → ∃ T, f_X9_takesBehind_103 n S (nI t) = some (1, T) ∧ FR S T ∧ T.2 = S.2 ∧ MG T ((3, [], kd), l, t, nm) := by
          intro t ht
          unfold f_X9_takesBehind_103
          have ht2 : t = 0 ∨ t = 1 := by omega
          rw [if_neg (by rcases ht2 with rfl | rfl <;> decide)]
          simp only [bd]
          refine ⟨_, rfl, (FR.rf.fld (by omega)).fld (by omega), rfl, by simp [sI]; rfl, by dsimp only; rw [← h1]; simp [sI], trivial, by dsimp only; rw [← h3]; simp [sI], fun hk => by dsimp only; rw [← h4 hk]; simp [sI], by dsimp only; rw [← h5]; simp [sI], by dsimp only; simp [sI]⟩
        by_cases c43 : c = 43
        · have e45 : ¬ c = 45 := by omega
          rw [if_pos (by rw [c43]; rfl), if_neg (fun hq : nI c = (45 : Int32) => e45 ((nq hc (show 45 < 127 by omega)).mp hq)), if_pos ⟨k2, Or.inl c43⟩, if_neg e45]
          obtain ⟨T, a1, a2, a3, a4⟩ := yes 0 (by omega)
          exact ⟨1, T, a1, a2, a3, Or.inr ⟨rfl, _, rfl, a4⟩⟩
        · rw [if_neg (fun hq : nI c = (43 : Int32) => c43 ((nq hc (show 43 < 127 by omega)).mp hq))]
          by_cases c45 : c = 45
          · rw [if_pos (by rw [c45]; rfl), if_pos (by rw [c45]; rfl), if_pos ⟨k2, Or.inr c45⟩, if_pos c45]
            obtain ⟨T, a1, a2, a3, a4⟩ := yes 1 (by omega)
            exact ⟨1, T, a1, a2, a3, Or.inr ⟨rfl, _, rfl, a4⟩⟩
          · rw [if_neg (fun hq : nI c = (45 : Int32) => c45 ((nq hc (show 45 < 127 by omega)).mp hq)), if_neg (by omega)]
            exact ⟨v0, T0, z1, z2, z3, Or.inl ⟨z4, rfl⟩⟩
      · rw [if_neg (fun hq => k2 (q60.mp hq)), if_neg (fun hq => k2 hq.1)]
        exact ⟨v0, T0, z1, z2, z3, Or.inl ⟨z4, rfl⟩⟩
  | cons b r =>
    simp only [List.length_cons] at h1 k1 ⊢
    have hb := k9 b (List.mem_cons_self)
    have e34 : S.1 34 r.length = nI (opn b) := by
      have := h2.1
      rw [List.length_map] at this
      exact this
    have h2r : Stk (S.1 34) (r.map opn) := h2.2
    have em : nI (r.length + 1) - (1 : Int32) = nI r.length := by rw [show (1 : Int32) = nI 1 from rfl, nI_sub (by omega)]; rfl
    have ho : opn b < 127 := by unfold opn; split <;> omega
    rw [if_neg (by rw [show (0 : Int32) = nI 0 from rfl, nI_leI (by omega) (by omega)]; omega), em, if_neg (nI_bad (by omega) (by omega)), nI_c (by omega), e34]
    by_cases b1 : b = 1
    · have eo : opn b = 44 := by unfold opn; rw [if_pos b1]
      rw [if_pos b1, eo]
      by_cases c2 : c = 44
      · rw [if_pos (by rw [c2]), if_pos (by rw [c2]; rfl), if_neg (fun hq => hq.elim (nI_pos (by omega)) (by omega)), if_pos c2]
        simp only [bd]
        refine ⟨1, _, rfl, (FR.rf.arr (by decide)).fld (by omega), rfl, Or.inr ⟨rfl, _, rfl, by simp [sI]; rfl, ?_, ?_, by dsimp only; rw [← h3]; simp [sI], fun hk => by dsimp only; rw [← h4 hk]; simp [sI], by dsimp only; rw [← h5]; simp [sI], by dsimp only; rw [← h6]; simp [sI]⟩⟩
        · simp only [List.length_cons]; rw [← h1]; simp [sI]
        · refine ⟨by rw [List.length_map]; simp [sI]; rfl, h2r.congr (fun i hi => ?_)⟩
          rw [List.length_map] at hi
          have : ¬ i = r.length := by omega
          simp [sI, this]
      · rw [if_neg (by rw [nq hc (by omega)]; exact c2), if_neg c2]
        exact ⟨0, S, rfl, FR.rf, rfl, Or.inl ⟨rfl, rfl⟩⟩
    · have eo : opn b = 41 := by unfold opn; rw [if_neg b1]
      rw [if_neg b1, eo]
      by_cases c2 : c = 41
      · rw [if_pos (by rw [c2]), if_neg (fun hq : nI c = (44 : Int32) => by have := (nq hc (show 44 < 127 by omega)).mp hq; omega), if_pos c2]
        simp only [bd]
        refine ⟨1, _, rfl, FR.rf.fld (by omega), rfl, Or.inr ⟨rfl, _, rfl, by dsimp only; rw [← h0]; simp [sI], by dsimp only; simp [sI], h2r.congr (fun i _ => by simp [sI]), by dsimp only; rw [← h3]; simp [sI], fun hk => by dsimp only; rw [← h4 hk]; simp [sI], by dsimp only; rw [← h5]; simp [sI], by dsimp only; rw [← h6]; simp [sI]⟩⟩
      · rw [if_neg (by rw [nq hc (by omega)]; exact c2), if_neg c2]
        exact ⟨0, S, rfl, FR.rf, rfl, Or.inl ⟨rfl, rfl⟩⟩
theorem figm {nm c : Nat} (h : 48 ≤ c) : (((10 : Int32) * nI nm) + nI c) - (48 : Int32) = nI (10 * nm + (c - 48)) := by
  rw [show (10 : Int32) = nI 10 from rfl, pk_mul, nI_add, show (48 : Int32) = nI 48 from rfl, nI_sub (by omega)]
  congr 1; omega
theorem figure_m {n i c : Nat} {S : St} {br : List Nat} {kd ng nm : Nat} {l : List Nat × List Nat} (hi : i < 40) (hc : c < 127) (h : MG S ((3, br, kd), l, ng, nm)) (hg : Gok ((3, br, kd), l, ng, nm) i) : StepM S ((3, br, kd), l, ng, nm) c (f_X9_takesFigure n S (nI c)) := by
  obtain ⟨h0, h1, h2, h3, h4, h5, h6⟩ := h
  have kn := hg.2.2.1
  dsimp only at h0 h1 h2 h3 h4 h5 h6 kn
  unfold StepM f_X9_takesFigure gstep
  dsimp only
  rw [if_neg (show ¬ ((3 : Nat) = 0) by decide), if_neg (show ¬ ((3 : Nat) = 1) by decide), if_neg (show ¬ ((3 : Nat) = 2) by decide)]
  rw [show (57 : Int32) = nI 57 from rfl, show f_X9_within n S (nI c) (48 : Int32) (nI 57) = f_X9_within n S (nI c) (nI 48) (nI 57) from rfl, bo_some (within_m (by omega) (by omega) (by omega)), h5]
  have no : ∃ T, f_X9_takesFigure_45 n S (nI c) = some (0, T) ∧ FR S T ∧ T.2 = S.2 := by
    unfold f_X9_takesFigure_45 f_X9_takesFigure_46 f_X9_takesFigure_71
    simp only [bd]
    rw [if_pos trivial, if_neg (by decide)]
    exact ⟨_, rfl, FR.rf.fld (by omega), rfl⟩
  obtain ⟨T0, z1, z2, z3⟩ := no
  by_cases c1 : 48 ≤ c ∧ c ≤ 57
  · rw [if_pos c1, if_neg (by decide)]
    have p24 : (0 < nm ∨ 48 < c) → ∃ v T, f_X9_takesFigure_24 n S (nI c) = some (v, T) ∧ FR S T ∧ T.2 = S.2 ∧ ((v = 0 ∧ (if 48 ≤ c ∧ c ≤ 57 ∧ (0 < nm ∨ 48 < c) ∧ 10 * nm + (c - 48) < 1000000 then some ((3, br, kd), l, ng, 10 * nm + (c - 48)) else none) = none) ∨ (v = 1 ∧ ∃ g2, (if 48 ≤ c ∧ c ≤ 57 ∧ (0 < nm ∨ 48 < c) ∧ 10 * nm + (c - 48) < 1000000 then some ((3, br, kd), l, ng, 10 * nm + (c - 48)) else none) = some g2 ∧ MG T g2)) := by
      intro hx
      unfold f_X9_takesFigure_24
      rw [h5, figm c1.1]
      by_cases c3 : 10 * nm + (c - 48) < 1000000
      · rw [if_neg (by rw [show (1000000 : Int32) = nI 1000000 from rfl, nI_leI (by omega) (by omega)]; omega), if_pos ⟨c1.1, c1.2, hx, c3⟩]
        unfold f_X9_takesFigure_46 f_X9_takesFigure_71
        simp only [bd]
        rw [if_neg (by decide), if_neg (by decide), h5, figm c1.1]
        refine ⟨1, _, rfl, FR.rf.fld (by omega), rfl, Or.inr ⟨rfl, _, rfl, by dsimp only; rw [← h0]; simp [sI], by dsimp only; rw [← h1]; simp [sI], h2.congr (fun i _ => by simp [sI]), by dsimp only; rw [← h3]; simp [sI], fun hk => by dsimp only; rw [← h4 hk]; simp [sI], by dsimp only; simp [sI], by dsimp only; rw [← h6]; simp [sI]⟩⟩
      · rw [if_pos (by rw [show (1000000 : Int32) = nI 1000000 from rfl, nI_leI (by omega) (by omega)]; omega), if_neg (fun hq => c3 hq.2.2.2)]
        exact ⟨0, T0, z1, z2, z3, Or.inl ⟨rfl, rfl⟩⟩
    by_cases c2 : 0 < nm
    · rw [if_pos (by rw [show (0 : Int32) = nI 0 from rfl, nI_ltI (by omega) (by omega)]; exact c2)]
      exact p24 (Or.inl c2)
    · rw [if_neg (by rw [show (0 : Int32) = nI 0 from rfl, nI_ltI (by omega) (by omega)]; exact c2)]
      by_cases c3 : c ≤ 48
      · rw [if_pos (by rw [show (48 : Int32) = nI 48 from rfl, nI_leI (by omega) (by omega)]; exact c3), if_neg (by omega)]
        exact ⟨0, T0, z1, z2, z3, Or.inl ⟨rfl, rfl⟩⟩
      · rw [if_neg (by rw [show (48 : Int32) = nI 48 from rfl, nI_leI (by omega) (by omega)]; exact c3)]
        exact p24 (Or.inr (by omega))
  · rw [if_neg c1, if_pos rfl, if_neg (fun hq => c1 ⟨hq.1, hq.2.1⟩)]
    exact ⟨0, T0, z1, z2, z3, Or.inl ⟨rfl, rfl⟩⟩
theorem takes_m {n i c : Nat} {S : St} {g : Gs} (hi : i < 40) (hc : c < 127) (h : MG S g) (hg : Gok g i) : StepM S g c (f_X9_takes n S (nI c)) := by
  obtain ⟨⟨w, br, kd⟩, l, ng, nm⟩ := g
  have h0 := h.1
  have k6 := hg.2.2.2.2.2.1
  dsimp only at h0 k6
  unfold f_X9_takes
  have ok : ∀ (x : Option (Int32 × St)), StepM S ((w, br, kd), l, ng, nm) c x → StepM S ((w, br, kd), l, ng, nm) c (bo x fun (r_2 : Int32) (S_3 : St) => if ¬ (r_2 = 0 ∨ r_2 = 1) then none else some (r_2, S_3)) := by
    rintro x ⟨v, T, a1, a2, a3, a4⟩
    rw [bo_some a1]
    refine ⟨v, T, ?_, a2, a3, a4⟩
    rw [if_neg (by rcases a4 with ⟨rfl, -⟩ | ⟨rfl, -⟩ <;> decide)]
  rw [h0]
  by_cases w0 : w = 0
  · subst w0
    rw [if_pos (by decide)]
    exact ok _ (term_m hi hc h hg)
  · rw [if_neg (by rw [show (0 : Int32) = nI 0 from rfl, nI_eq (by omega) (by omega)]; exact w0)]
    by_cases w1 : w = 1
    · subst w1
      rw [if_pos (by decide)]
      unfold f_X9_takes_36 StepM gstep
      dsimp only
      rw [if_neg (show ¬ ((1 : Nat) = 0) by decide), if_pos (show (1 : Nat) = 1 from rfl)]
      simp only [bd]
      obtain ⟨e0, e1, e2, e3, e4, e5, e6⟩ := h
      dsimp only at e0 e1 e2 e3 e4 e5 e6
      by_cases c2 : c = 40
      · rw [if_pos (by rw [c2]; rfl), if_pos (by rw [c2]; rfl), if_pos c2]
        exact ⟨1, _, rfl, FR.rf.fld (by omega), rfl, Or.inr ⟨rfl, _, rfl, by simp [sI]; rfl, by dsimp only; rw [← e1]; simp [sI], e2.congr (fun i _ => by simp [sI]), by dsimp only; rw [← e3]; simp [sI], fun hk => by dsimp only; rw [← e4 hk]; simp [sI], by dsimp only; rw [← e5]; simp [sI], by dsimp only; rw [← e6]; simp [sI]⟩⟩
      · have n40 : ¬ nI c = (40 : Int32) := fun hq => c2 ((nq hc (show 40 < 127 by omega)).mp hq)
        rw [if_neg n40, if_neg n40, if_neg c2]
        exact ⟨0, _, rfl, FR.rf.fld (by omega), rfl, Or.inl ⟨rfl, rfl⟩⟩
    · rw [if_neg (by rw [show (1 : Int32) = nI 1 from rfl, nI_eq (by omega) (by omega)]; exact w1)]
      by_cases w2 : w = 2
      · subst w2
        rw [if_pos (by decide)]
        exact ok _ (behind_m hi hc h hg)
      · have w3 : w = 3 := by omega
        subst w3
        rw [if_neg (by decide)]
        exact ok _ (figure_m hi hc h hg)
