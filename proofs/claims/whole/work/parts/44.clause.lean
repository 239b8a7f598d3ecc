/-! CLAUSES of the class's solver: what they say, when they are met, which ways are open -/
abbrev Cl : Type := (Nat × Nat) × (Nat × Nat) × Option (Nat × Nat)
def clSat (c : Cl) (v : Nat → Int) : Prop := v c.1.1 ≠ v c.1.2 ∨ v c.2.1.1 ≠ v c.2.1.2 ∨ ∃ p, c.2.2 = some p ∧ v p.1 = v p.2
def clWf (c : Cl) : Prop := c.1.1 < 10 ∧ c.1.2 < 10 ∧ c.2.1.1 < 10 ∧ c.2.1.2 < 10 ∧ ∀ p, c.2.2 = some p → p.1 < 10 ∧ p.2 < 10
/-- the cell q holds the clause c -/
def clAt (S : St) (q : Nat) (c : Cl) : Prop := clWf c ∧ S.1 q 0 = nI c.1.1 ∧ S.1 q 1 = nI c.1.2 ∧ S.1 q 2 = nI c.2.1.1 ∧ S.1 q 3 = nI c.2.1.2 ∧ (c.2.2 = none → S.1 q 4 = 0) ∧ ∀ p, c.2.2 = some p → S.1 q 4 = 1 ∧ S.1 q 5 = nI p.1 ∧ S.1 q 6 = nI p.2
def clMet (M : Mx) (c : Cl) : Prop := M c.1.1 c.1.2 < 0 ∨ M c.1.2 c.1.1 < 0 ∨ M c.2.1.1 c.2.1.2 < 0 ∨ M c.2.1.2 c.2.1.1 < 0 ∨ ∃ p, c.2.2 = some p ∧ M p.1 p.2 = 0 ∧ M p.2 p.1 = 0
/-- the ways to meet a clause -/
def clWay (c : Cl) (o : Nat) (v : Nat → Int) : Prop := match o with
  | 0 => v c.1.1 - v c.1.2 ≤ -1
  | 1 => v c.1.2 - v c.1.1 ≤ -1
  | 2 => v c.2.1.1 - v c.2.1.2 ≤ -1
  | 3 => v c.2.1.2 - v c.2.1.1 ≤ -1
  | _ => ∃ p, c.2.2 = some p ∧ v p.1 - v p.2 ≤ 0 ∧ v p.2 - v p.1 ≤ 0
theorem clSat_way {c : Cl} {v : Nat → Int} (h : clSat c v) : ∃ o, o < 5 ∧ clWay c o v := by
  rcases h with h | h | ⟨p, h, e⟩
  · by_cases q : v c.1.1 < v c.1.2
    · exact ⟨0, by omega, by show _ ≤ _; omega⟩
    · exact ⟨1, by omega, by show _ ≤ _; omega⟩
  · by_cases q : v c.2.1.1 < v c.2.1.2
    · exact ⟨2, by omega, by show _ ≤ _; omega⟩
    · exact ⟨3, by omega, by show _ ≤ _; omega⟩
  · exact ⟨4, by omega, p, h, by omega, by omega⟩
theorem clMet_sat {E : Ed} {M : Mx} (hM : Mat FC 10 E M) {c : Cl} (hw : clWf c) (h : clMet M c) {v : Nat → Int} (hv : Sat E v) : clSat c v := by
  have F0 : (0 : Int) < FC := by decide
  obtain ⟨w1, w2, w3, w4, w5⟩ := hw
  rcases h with h | h | h | h | ⟨p, h, e1, e2⟩
  · left; have := hM.sat hv w1 w2 (by omega); omega
  · left; have := hM.sat hv w2 w1 (by omega); omega
  · right; left; have := hM.sat hv w3 w4 (by omega); omega
  · right; left; have := hM.sat hv w4 w3 (by omega); omega
  · right; right
    obtain ⟨p1, p2⟩ := w5 p h
    have := hM.sat hv p1 p2 (by omega)
    have := hM.sat hv p2 p1 (by omega)
    exact ⟨p, h, by omega⟩
theorem nn {F : Int} {N : Nat} {E : Ed} {M : Mx} (h : Mat F N E M) {i j : Nat} (hi : i < N) (hj : j < N) (h1 : M i j < F) (h2 : M j i < F) : 0 ≤ M i j + M j i := by
  have := h.2.1 i i j hi hi hj h1 h2
  rw [h.1 i hi] at this
  exact this.2
/-- a clause that is met stays so in a table that says more -/
theorem clMet_mono {E G : Ed} {M K : Mx} (_hM : Mat FC 10 E M) (hK : Mat FC 10 G K) (hle : ∀ i j, i < 10 → j < 10 → K i j ≤ M i j) {c : Cl} (hw : clWf c) (h : clMet M c) : clMet K c := by
  have F0 : (0 : Int) < FC := by decide
  obtain ⟨w1, w2, w3, w4, w5⟩ := hw
  rcases h with h | h | h | h | ⟨p, h, e1, e2⟩
  · left; have := hle _ _ w1 w2; omega
  · right; left; have := hle _ _ w2 w1; omega
  · right; right; left; have := hle _ _ w3 w4; omega
  · right; right; right; left; have := hle _ _ w4 w3; omega
  · right; right; right; right
    obtain ⟨p1, p2⟩ := w5 p h
    have a := hle _ _ p1 p2
    have b := hle _ _ p2 p1
    have := nn hK p1 p2 (by omega) (by omega)
    exact ⟨p, h, by omega, by omega⟩
theorem between_c {n q : Nat} {S : St} {s t : Nat} (hs : s < 10) (ht : t < 10) : f_X1_between n q S (nI s) (nI t) = some (S.2 (q + 25) (s * 10 + t), S) := by
  have l1 : ∀ a : Nat, a < 10 → ¬ nI a < 0 := fun a h => nI_pos (by omega)
  have l2 : ∀ a : Nat, a < 10 → ¬ (10 : Int32) ≤ nI a := fun a h => by rw [show (10 : Int32) = nI 10 from rfl, nI_leI (by omega) (by omega)]; omega
  unfold f_X1_between
  rw [if_neg (l1 s hs), if_neg (l2 s hs), if_neg (l1 t ht), if_neg (l2 t ht), ix10 hs ht, if_neg (nI_bad (by omega) (by omega)), nI_c (by omega)]
/-- the mask of the open ways -/
def clRes (M : Mx) (r : Option (Nat × Nat)) : Nat := match r with
  | none => 0
  | some p => if 0 ≤ M p.1 p.2 ∧ 0 ≤ M p.2 p.1 then 16 else 0
def clMask (M : Mx) (c : Cl) : Nat := (if 0 < M c.1.2 c.1.1 then 1 else 0) + (if 0 < M c.1.1 c.1.2 then 2 else 0) + (if 0 < M c.2.1.2 c.2.1.1 then 4 else 0) + (if 0 < M c.2.1.1 c.2.1.2 then 8 else 0) + clRes M c.2.2
theorem z64 : (0 : Int64).toInt = 0 := by decide
theorem open_c {n q q1 : Nat} {S : St} {c : Cl} (hc : clAt S q c) {E : Ed} (hM : Mat FC 10 E (cM S q1)) : (clMet (cM S q1) c ∧ f_X0_openOptions n q S q1 = some (-1, S)) ∨ (¬ clMet (cM S q1) c ∧ f_X0_openOptions n q S q1 = some (nI (clMask (cM S q1) c), S)) := by
  obtain ⟨⟨w1, w2, w3, w4, w5⟩, h0, h1, h2, h3, h4, h5⟩ := hc
  obtain ⟨⟨a1, a2⟩, ⟨b1, b2⟩, res⟩ := c
  dsimp only at *
  have e1 : (S.2 (q1 + 25) (a1 * 10 + a2)).toInt = cM S q1 a1 a2 := rfl
  have e2 : (S.2 (q1 + 25) (a2 * 10 + a1)).toInt = cM S q1 a2 a1 := rfl
  have e3 : (S.2 (q1 + 25) (b1 * 10 + b2)).toInt = cM S q1 b1 b2 := rfl
  have e4 : (S.2 (q1 + 25) (b2 * 10 + b1)).toInt = cM S q1 b2 b1 := rfl
  unfold f_X0_openOptions
  simp only [h0, h1, h2, h3, between_c w1 w2, between_c w2 w1, between_c w3 w4, between_c w4 w3, bo, bd, c_lt, c_ge, c_le, z64, e1, e2, e3, e4]
  by_cases m1 : cM S q1 a1 a2 < 0
  · left; exact ⟨Or.inl m1, by rw [if_pos m1]⟩
  rw [if_neg m1]
  by_cases m2 : cM S q1 a2 a1 < 0
  · left; exact ⟨Or.inr (Or.inl m2), by rw [if_pos m2]⟩
  rw [if_neg m2]
  by_cases m3 : cM S q1 b1 b2 < 0
  · left; exact ⟨Or.inr (Or.inr (Or.inl m3)), by rw [if_pos m3]⟩
  rw [if_neg m3]
  by_cases m4 : cM S q1 b2 b1 < 0
  · left; exact ⟨Or.inr (Or.inr (Or.inr (Or.inl m4))), by rw [if_neg (by omega)]⟩
  rw [if_pos (by omega)]
  -- the last step, for a mask that the first four ways have made
  have last : ∀ (x : Nat) (t0 t1 : Int32), x < 16 → (t0 ||| t1) = nI x → ((t0 ||| t1) ||| 16) = nI (x + 16) → (clMet (cM S q1) ((a1, a2), (b1, b2), res) ∧ f_X0_openOptions_146 n q q1 S t0 t1 = some (-1, S)) ∨ (¬ clMet (cM S q1) ((a1, a2), (b1, b2), res) ∧ f_X0_openOptions_146 n q q1 S t0 t1 = some (nI (x + clRes (cM S q1) res), S)) := by
    intro x t0 t1 hx ht ht2
    unfold f_X0_openOptions_146
    simp only [bd]
    cases res with
    | none =>
      right
      refine ⟨?_, by rw [if_pos (h4 rfl), ht]; rfl⟩
      rintro (h | h | h | h | ⟨p, h, -⟩)
      · exact m1 h
      · exact m2 h
      · exact m3 h
      · exact m4 h
      · cases h
    | some p =>
      obtain ⟨g4, g5, g6⟩ := h5 p rfl
      obtain ⟨p1, p2⟩ := w5 p rfl
      have e5 : (S.2 (q1 + 25) (p.1 * 10 + p.2)).toInt = cM S q1 p.1 p.2 := rfl
      have e6 : (S.2 (q1 + 25) (p.2 * 10 + p.1)).toInt = cM S q1 p.2 p.1 := rfl
      rw [if_neg (by rw [g4]; decide)]
      simp only [g5, g6, between_c p1 p2, between_c p2 p1, bo, c_eq, z64, e5, e6]
      have rest : ¬ (cM S q1 p.1 p.2 = 0 ∧ cM S q1 p.2 p.1 = 0) → (clMet (cM S q1) ((a1, a2), (b1, b2), some p) ∧ f_X0_openOptions_203 n q q1 S (t0 ||| t1) (S.2 (q1 + 25) (p.1 * 10 + p.2)) (S.2 (q1 + 25) (p.2 * 10 + p.1)) = some (-1, S)) ∨ (¬ clMet (cM S q1) ((a1, a2), (b1, b2), some p) ∧ f_X0_openOptions_203 n q q1 S (t0 ||| t1) (S.2 (q1 + 25) (p.1 * 10 + p.2)) (S.2 (q1 + 25) (p.2 * 10 + p.1)) = some (nI (x + clRes (cM S q1) (some p)), S)) := by
        intro hne
        right
        constructor
        · rintro (h | h | h | h | ⟨p', h, r1, r2⟩)
          · exact m1 h
          · exact m2 h
          · exact m3 h
          · exact m4 h
          · cases h; exact hne ⟨r1, r2⟩
        · unfold f_X0_openOptions_203 clRes
          simp only [c_lt, z64, e5, e6]
          by_cases k1 : cM S q1 p.1 p.2 < 0
          · rw [if_pos k1, if_neg (by omega), ht]; rfl
          · rw [if_neg k1]
            by_cases k2 : cM S q1 p.2 p.1 < 0
            · rw [if_pos k2, if_neg (by omega), ht]; rfl
            · rw [if_neg k2, if_pos (by omega), ht2]
      by_cases z1 : cM S q1 p.1 p.2 = 0
      · rw [if_pos z1]
        by_cases z2 : cM S q1 p.2 p.1 = 0
        · rw [if_pos z2]
          left
          exact ⟨Or.inr (Or.inr (Or.inr (Or.inr ⟨p, rfl, z1, z2⟩))), rfl⟩
        · rw [if_neg z2]; exact rest (by omega)
      · rw [if_neg z1]; exact rest (by omega)
  unfold clMask
  simp only [f_X0_openOptions_96, f_X0_openOptions_111, f_X0_openOptions_128, bd, c_le, z64, e1, e2, e3, e4]
  have f1 : ∀ z : Int, z ≤ 0 ↔ ¬ 0 < z := fun z => by omega
  by_cases k1 : 0 < cM S q1 a2 a1 <;> by_cases k2 : 0 < cM S q1 a1 a2 <;> by_cases k3 : 0 < cM S q1 b2 b1 <;> by_cases k4 : 0 < cM S q1 b1 b2 <;> simp only [f1, k1, k2, k3, k4, not_true_eq_false, not_false_eq_true, if_true, if_false] <;> exact last _ _ _ (by decide) (by decide) (by decide)
