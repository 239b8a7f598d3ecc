/-! WHAT HOLDS BETWEEN CALLS -/
def allM (L : Nat) : Int32 := ((1 : Int32) <<< (nI L &&& 31)) - (1 : Int32)
/-- what is so, whoever holds it: literals; page; how many came, went; how often either was asked -/
abbrev Gh : Type := (Nat × Gl) × (Nat × (Nat → Nat)) × (Int32 × Int32 × Nat)
abbrev gP (g : Gh) : Pb := PbOf g.1.1 g.1.2
def Gd (g : Gh) : Prop := (g.1.1 ≤ 10 ∧ GOk g.1.2 g.1.1 ∧ NOk g.1.2 g.1.1 ∧ (tbl g.1.2 g.1.1).1 ≤ 10) ∧ (g.2.1.1 ≤ 40 ∧ ∀ i, i < g.2.1.1 → g.2.1.2 i < 127) ∧ g.2.2.2.2 ≤ 12
theorem Gd.wf {g : Gh} (h : Gd g) : PbWf (gP g) := PbOf_wf h.1.1 h.1.2.1 h.1.2.2.1 h.1.2.2.2
/-- names of two pairs, as ten times the lesser one and the other -/
def isCd (c : Nat) : Prop := c / 10 < c % 10 ∧ c % 10 < 5
def Ev (c : Nat) (v : Nat → Int) : Prop := v (c / 10) ≠ v (c % 10)
def E2 (P : (Nat → Int) → Prop) (c d : Nat) : Prop := (∃ v, P v ∧ Ev c v) ∧ (∃ v, P v ∧ Ev d v) ∧ ¬ ∃ v, P v ∧ Ev c v ∧ Ev d v
def EiA (P : (Nat → Int) → Prop) (a b : Int32) : Prop := (a = -2000000001 ∧ b = -2000000001 ∧ ∀ c d, isCd c → isCd d → c < d → ¬ E2 P c d) ∨ ∃ c d, isCd c ∧ isCd d ∧ c < d ∧ E2 P c d ∧ (∀ c' d', isCd c' → isCd d' → c' < d' → E2 P c' d' → c < c' ∨ (c = c' ∧ d ≤ d')) ∧ a = nI c ∧ b = nI d
def SoC (g : Gh) (S : St) : Prop := (S.1 0 14 = 1 ∧ ∃ v, Sol (gP g) (allM g.1.1) v) ∨ (S.1 0 14 = 0 ∧ ¬ ∃ v, Sol (gP g) (allM g.1.1) v)
def PaC (g : Gh) (S : St) : Prop := EiA (Sol (gP g) (allM g.1.1)) (S.1 26 2) (S.1 26 3)
def CCo (S : St) (g : Gh) : Prop := CT S 6 (tbl g.1.2 g.1.1) ∧ (S.1 16 4 = nI g.1.1 ∧ ∀ k, k < g.1.1 → S.1 17 k = nI (g.1.2 k).1 ∧ S.1 18 k = nI (lft g.1.2 k) ∧ S.1 19 k = nI (rgt g.1.2 k) ∧ (S.1 20 k).toInt = (g.1.2 k).2.2.2) ∧ (S.1 0 1 = nI g.2.1.1 ∧ ∀ i, i < g.2.1.1 → S.1 1 i = nI (g.2.1.2 i)) ∧ S.1 0 9 = g.2.2.1 ∧ S.1 0 10 = g.2.2.2.1 ∧ S.1 0 11 = nI g.2.2.2.2
abbrev CXg (g : Gh) (S : St) : Prop := CEx (gP g) (eqR (gP g) (nL (gP g))) 0 S
def CI (S : St) (g : Gh) : Prop := CCo S g ∧ (S.1 0 12 = 0 ∨ CXg g S) ∧ (S.1 0 13 = 0 ∨ SoC g S) ∧ (S.1 0 15 = 0 ∨ PaC g S)
def MI (S : St) (g : Gh) : Prop := MT S (tbl g.1.2 g.1.1) ∧ (S.1 28 2 = nI g.1.1 ∧ ∀ k, k < g.1.1 → S.1 32 k = nI (g.1.2 k).1 ∧ S.1 38 k = nI (lft g.1.2 k) ∧ S.1 39 k = nI (rgt g.1.2 k) ∧ (S.1 33 k).toInt = (g.1.2 k).2.2.2) ∧ (∀ k, k < g.1.1 → Txt S k (g.1.2 k).2.1 (g.1.2 k).2.2.1) ∧ (S.1 28 0 = nI g.2.1.1 ∧ ∀ i, i < g.2.1.1 → S.1 29 i = nI (g.2.1.2 i)) ∧ S.1 28 7 = g.2.2.1 ∧ S.1 28 8 = g.2.2.2.1 ∧ S.1 28 9 = nI g.2.2.2.2
def Inv (S : St) : Prop := ∃ g, Gd g ∧ CI S g ∧ MI S g
theorem CCo.keep {S T : St} {g : Gh} (h : CCo S g) (e : ∀ c, c = 1 ∨ (6 ≤ c ∧ c ≤ 10) ∨ (16 ≤ c ∧ c ≤ 20) → T.1 c = S.1 c) (e0 : ∀ j, j = 1 ∨ j = 9 ∨ j = 10 ∨ j = 11 → T.1 0 j = S.1 0 j) : CCo T g := by
  obtain ⟨a, ⟨b, c⟩, ⟨d, f⟩, x, y, z⟩ := h
  refine ⟨a.keep (by rw [e 6 (by omega)]) (e 7 (by omega)) (e 8 (by omega)) (e 9 (by omega)) (e 10 (by omega)), ⟨by rw [e 16 (by omega)]; exact b, fun k hk => ?_⟩, ⟨by rw [e0 1 (by omega)]; exact d, fun i hi => by rw [e 1 (by omega)]; exact f i hi⟩, by rw [e0 9 (by omega)]; exact x, by rw [e0 10 (by omega)]; exact y, by rw [e0 11 (by omega)]; exact z⟩
  rw [e 17 (by omega), e 18 (by omega), e 19 (by omega), e 20 (by omega)]; exact c k hk
theorem CEx.keep {p : Pb} {r : Nat → Nat} {b : Nat} {S T : St} (h : CEx p r b S) (e1 : T.1 21 = S.1 21) (e2 : T.1 22 = S.1 22) (e3 : T.2 121 = S.2 121) : CEx p r b T := by
  have e4 : cM T 96 = cM S 96 := cM_keep e3
  unfold CEx CSm at *
  rw [e1, e2, e4]; exact h
theorem CI.keep {S T : St} {g : Gh} (h : CI S g) (e : ∀ c, c ≤ 22 ∨ c = 26 → T.1 c = S.1 c) (e2 : T.2 121 = S.2 121) : CI T g := by
  obtain ⟨a, b, c, d⟩ := h
  have e0 := e 0 (by omega)
  refine ⟨a.keep (fun c hc => e c (by omega)) (fun j _ => by rw [e0]), ?_, ?_, ?_⟩
  · rw [e0]; exact b.imp id (fun h => h.keep (e 21 (by omega)) (e 22 (by omega)) e2)
  · unfold SoC at *; rw [e0]; exact c
  · unfold PaC at *; rw [e0, e 26 (by omega)]; exact d
theorem CI.kp {S T : St} {g : Gh} {w : Nat → Prop} (h : CI S g) (k : Keeps w S T) (hw : ∀ c, c ≤ 22 ∨ c = 26 ∨ c = 121 → ¬ w c) : CI T g := h.keep (fun c hc => (k c (hw c (by omega))).1) (k 121 (hw 121 (by omega))).2
theorem MI.keep {S T : St} {g : Gh} (h : MI S g) (e : ∀ c, 29 ≤ c ∧ c ≤ 39 → c ≠ 34 → T.1 c = S.1 c) (e1 : ∀ j, j = 0 ∨ j = 2 ∨ j = 7 ∨ j = 8 ∨ j = 9 ∨ j = 18 → T.1 28 j = S.1 28 j) : MI T g := by
  obtain ⟨a, ⟨b, c⟩, x, ⟨d, f⟩, y, z, w⟩ := h
  refine ⟨a.keep (e1 18 (by omega)) (e 35 (by omega) (by omega)) (e 36 (by omega) (by omega)) (e 37 (by omega) (by omega)), ⟨by rw [e1 2 (by omega)]; exact b, fun k hk => ?_⟩, fun k hk => (x k hk).keep (e 30 (by omega) (by omega)) (by rw [e 31 (by omega) (by omega)]), ⟨by rw [e1 0 (by omega)]; exact d, fun i hi => by rw [e 29 (by omega) (by omega)]; exact f i hi⟩, by rw [e1 7 (by omega)]; exact y, by rw [e1 8 (by omega)]; exact z, by rw [e1 9 (by omega)]; exact w⟩
  rw [e 32 (by omega) (by omega), e 33 (by omega) (by omega), e 38 (by omega) (by omega), e 39 (by omega) (by omega)]; exact c k hk
theorem MI.kp {S T : St} {g : Gh} {w : Nat → Prop} (h : MI S g) (k : Keeps w S T) (hw : ∀ c, 28 ≤ c ∧ c ≤ 39 → ¬ w c) : MI T g := h.keep (fun c hc _ => (k c (hw c (by omega))).1) (fun j _ => by rw [(k 28 (hw 28 (by omega))).1])
theorem CI.rep {S : St} {g : Gh} (hg : Gd g) (h : CI S g) : CRep S (gP g) := CT.rep hg.1.1 hg.1.2.1 hg.1.2.2.1 h.1.1 h.1.2.1.1 h.1.2.1.2
theorem MI.rep {S : St} {g : Gh} (hg : Gd g) (h : MI S g) : MRep S (gP g) := MT.rep hg.1.1 hg.1.2.1 hg.1.2.2.1 hg.1.2.2.2 h.1 h.2.1.1 h.2.1.2
/-- one call on both sides -/
def OpOk {α : Type} (fc fm : St → Option (α × St)) (S : St) : Prop := ∃ r T V, fc S = some (r, T) ∧ fm T = some (r, V) ∧ Inv V
/-- a question: what each side answers, from any state that holds g -/
def cqA (g : Gh) (f : St → Option (Int32 × St)) (v : Int32) : Prop := ∀ S, CI S g → ∃ T, f S = some (v, T) ∧ CI T g
def mqA (g : Gh) (f : St → Option (Int32 × St)) (v : Int32) : Prop := ∀ S, MI S g → ∃ T, f S = some (v, T) ∧ MI T g ∧ T.2 28 47 = S.2 28 47
theorem query {g : Gh} {S : St} {fc fm : St → Option (Int32 × St)} {wc wm : Nat → Prop} {v : Int32} (hg : Gd g) (hc : CI S g) (hm : MI S g) (qc : cqA g fc v) (qm : mqA g fm v) (kc : ∀ S r T, fc S = some (r, T) → Keeps wc S T) (hwc : ∀ c, 28 ≤ c ∧ c ≤ 39 → ¬ wc c) (km : ∀ S r T, fm S = some (r, T) → Keeps wm S T) (hwm : ∀ c, c ≤ 22 ∨ c = 26 ∨ c = 121 → ¬ wm c) : OpOk fc fm S := by
  obtain ⟨T, a, b⟩ := qc S hc
  obtain ⟨V, c, d, -⟩ := qm T (hm.kp (kc S v T a) hwc)
  exact ⟨v, T, V, a, c, g, hg, b.kp (km T v V c) hwm, d⟩
/-! numbers that are in a range, or not -/
theorem rng (a : Int32) (N : Nat) (hN : N < 2 ^ 31) : (∃ t, t < N ∧ a = nI t) ∨ (a < 0 ∨ nI N ≤ a) := by
  by_cases h : a < 0
  · exact Or.inr (Or.inl h)
  · obtain ⟨j, hj, rfl⟩ := nI_of h
    by_cases c : j < N
    · exact Or.inl ⟨j, c, rfl⟩
    · exact Or.inr (Or.inr (nI_le (by omega) hj))
theorem pred_lt {N j : Nat} (h : N ≤ j) (hj : j < 2 ^ 31) : nI N - 1 < nI j := by
  cases N with
  | zero =>
    rw [Int32.lt_iff_toInt_lt, nI_toInt hj, show (nI 0 - 1).toInt = -1 by decide]; omega
  | succ k => rw [nI_pred]; exact nI_lt (by omega) hj
theorem wi_in {n N t : Nat} {S : St} (ht : t < N) (hN : N < 2 ^ 31) : f_X9_within n S (nI t) (0 : Int32) (nI N - 1) = some (1, S) := by
  unfold f_X9_within
  rw [if_neg (nI_pos (by omega))]
  cases N with
  | zero => omega
  | succ k => rw [nI_pred, if_neg (nI_nlt (by omega) (by omega))]
theorem wi_out {n N : Nat} {S : St} {a : Int32} (h : a < 0 ∨ nI N ≤ a) (hN : N < 2 ^ 31) : f_X9_within n S a (0 : Int32) (nI N - 1) = some (0, S) := by
  unfold f_X9_within
  by_cases c : a < 0
  · rw [if_pos c]
  · rw [if_neg c]
    obtain ⟨j, hj, rfl⟩ := nI_of c
    have h2 := h.resolve_left c
    rw [nI_leI hN hj] at h2
    rw [if_pos (pred_lt h2 hj)]
theorem has7_out {n N : Nat} {S : St} {a : Int32} (hS : S.1 6 4 = nI N) (h : a < 0 ∨ nI N ≤ a) : f_X7_has n 6 S a = some (0, S) := by
  unfold f_X7_has
  by_cases c : a < 0
  · rw [if_pos c]
  · rw [if_neg c, hS, if_pos (h.resolve_left c)]
theorem has3_out {n N : Nat} {S : St} {a : Int32} (hS : S.1 16 4 = nI N) (h : a < 0 ∨ nI N ≤ a) : f_X3_has n S a = some (0, S) := by
  unfold f_X3_has
  by_cases c : a < 0
  · rw [if_pos c]
  · rw [if_neg c, hS, if_pos (h.resolve_left c)]
theorem out_ne {a : Int32} {N k : Nat} (hN : N < 2 ^ 31) (hk : k < N) (h : a < 0 ∨ nI N ≤ a) : ¬ a = nI k := by
  rintro rfl
  rcases h with h | h
  · exact nI_pos (by omega) h
  · rw [nI_leI hN (by omega)] at h; omega
theorem q_count {n : Nat} {g : Gh} (a : Int32) : ∃ v, cqA g (fun S => f_X8_count n S a) v ∧ mqA g (fun S => f_X9_count n S a) v := by
  refine ⟨if a = 0 then nI g.1.1 else if a = 1 then nI (tbl g.1.2 g.1.1).1 else if a = 2 then nI g.2.1.1 else if a = 3 then g.2.2.1 else if a = 4 then g.2.2.2.1 else if a = 5 then nI g.2.2.2.2 else -2000000003, fun S h => ⟨S, ?_, h⟩, fun S h => ⟨S, ?_, h, rfl⟩⟩
  · obtain ⟨⟨a1, ⟨a2, -⟩, ⟨a3, -⟩, a4, a5, a6⟩, -⟩ := h
    show f_X8_count n S a = _
    unfold f_X8_count f_X3_size f_X7_size
    simp only [bo, a1.2.2.1, a2, a3, a4, a5, a6]
    by_cases h0 : a = 0
    · rw [if_pos h0, if_pos h0]
    · rw [if_neg h0, if_neg h0]
      by_cases h1 : a = 1
      · rw [if_pos h1, if_pos h1]
      · rw [if_neg h1, if_neg h1]
        by_cases h2 : a = 2
        · rw [if_pos h2, if_pos h2]
        · rw [if_neg h2, if_neg h2]
          by_cases h3 : a = 3
          · rw [if_pos h3, if_pos h3]
          · rw [if_neg h3, if_neg h3]
            by_cases h4 : a = 4
            · rw [if_pos h4, if_pos h4]
            · rw [if_neg h4, if_neg h4]
              by_cases h5 : a = 5
              · rw [if_pos h5, if_pos h5]
              · rw [if_neg h5, if_neg h5]
  · obtain ⟨a1, ⟨a2, -⟩, -, ⟨a3, -⟩, a4, a5, a6⟩ := h
    show f_X9_count n S a = _
    unfold f_X9_count f_X9_howMany
    simp only [a1.2.2.1, a2, a3, a4, a5, a6]
    by_cases h0 : a = 0
    · rw [if_pos h0, if_pos h0]; rfl
    · rw [if_neg h0, if_neg h0]
      by_cases h1 : a = 1
      · rw [if_pos h1, if_pos h1]; rfl
      · rw [if_neg h1, if_neg h1]
        by_cases h2 : a = 2
        · rw [if_pos h2, if_pos h2]; rfl
        · rw [if_neg h2, if_neg h2]
          by_cases h3 : a = 3
          · rw [if_pos h3, if_pos h3]; rfl
          · rw [if_neg h3, if_neg h3]
            by_cases h4 : a = 4
            · rw [if_pos h4, if_pos h4]; rfl
            · rw [if_neg h4, if_neg h4]
              by_cases h5 : a = 5
              · rw [if_pos h5, if_pos h5]; rfl
              · rw [if_neg h5, if_neg h5]; rfl
theorem of_toInt {x : Int32} {z : Int} (h : x.toInt = z) : x = Int32.ofInt z := by rw [← h, Int32.ofInt_toInt]
theorem q_literal {n : Nat} {g : Gh} (hg : Gd g) (a w : Int32) : ∃ v, cqA g (fun S => f_X8_literal n S a w) v ∧ mqA g (fun S => f_X9_literal n S a w) v := by
  have hL := hg.1.1
  have c3 : nI 4 - 1 = (3 : Int32) := by decide
  rcases rng a g.1.1 (by omega) with ⟨t, ht, rfl⟩ | ho
  · rcases rng w 4 (by omega) with ⟨j, hj, rfl⟩ | hw
    · refine ⟨if j = 0 then nI (g.1.2 t).1 else if j = 1 then nI (lft g.1.2 t) else if j = 2 then nI (rgt g.1.2 t) else Int32.ofInt (g.1.2 t).2.2.2, fun S h => ⟨S, ?_, h⟩, fun S h => ⟨S, ?_, h, rfl⟩⟩
      · obtain ⟨⟨-, ⟨a2, a3⟩, -⟩, -⟩ := h
        obtain ⟨b1, b2, b3, b4⟩ := a3 t ht
        show f_X8_literal n S (nI t) (nI j) = _
        unfold f_X8_literal
        rw [bo_some (has3 a2 hL ht), if_neg (by decide)]
        rw [kind3 a2 hL ht, left3 a2 hL ht, right3 a2 hL ht, number3 a2 hL ht, b1, b2, b3, of_toInt b4]
        have : j = 0 ∨ j = 1 ∨ j = 2 ∨ j = 3 := by omega
        rcases this with rfl | rfl | rfl | rfl <;> rfl
      · obtain ⟨-, ⟨a2, a3⟩, -⟩ := h
        obtain ⟨b1, b2, b3, b4⟩ := a3 t ht
        show f_X9_literal n S (nI t) (nI j) = _
        unfold f_X9_literal f_X9_isLiteral
        have w1 := wi_in (n := n) (S := S) (t := j) (N := 4) hj (by omega)
        rw [c3] at w1
        rw [a2, wi_in ht (by omega)]
        simp only [bo]
        rw [if_neg (by decide)]
        simp only []
        rw [if_neg (by decide), w1]
        simp only []
        rw [if_neg (by decide)]
        unfold f_X9_literalNow
        simp only [if_neg (nI_g (show t < 10 by omega) (by omega)), nI_c (show t < 2 ^ 31 by omega)]
        rw [b1, b2, b3, of_toInt b4]
        have : j = 0 ∨ j = 1 ∨ j = 2 ∨ j = 3 := by omega
        rcases this with rfl | rfl | rfl | rfl <;> rfl
    · refine ⟨-2000000003, fun S h => ⟨S, ?_, h⟩, fun S h => ⟨S, ?_, h, rfl⟩⟩
      · obtain ⟨⟨-, ⟨a2, a3⟩, -⟩, -⟩ := h
        show f_X8_literal n S (nI t) w = _
        unfold f_X8_literal
        rw [bo_some (has3 a2 hL ht), if_neg (by decide), if_neg (show ¬ w = (0 : Int32) from out_ne (k := 0) (by omega) (by omega) hw), if_neg (show ¬ w = (1 : Int32) from out_ne (k := 1) (by omega) (by omega) hw), if_neg (show ¬ w = (2 : Int32) from out_ne (k := 2) (by omega) (by omega) hw), if_neg (show ¬ w = (3 : Int32) from out_ne (k := 3) (by omega) (by omega) hw)]
      · obtain ⟨-, ⟨a2, a3⟩, -⟩ := h
        show f_X9_literal n S (nI t) w = _
        unfold f_X9_literal f_X9_isLiteral
        have w1 := wi_out (n := n) (S := S) (N := 4) hw (by omega)
        rw [c3] at w1
        rw [a2, wi_in ht (by omega)]
        simp only [bo]
        rw [if_neg (by decide)]
        simp only []
        rw [if_neg (by decide), w1]
        simp only []
        first | rw [if_pos rfl] | rw [if_pos trivial]
  · refine ⟨-2000000002, fun S h => ⟨S, ?_, h⟩, fun S h => ⟨S, ?_, h, rfl⟩⟩
    · obtain ⟨⟨-, ⟨a2, a3⟩, -⟩, -⟩ := h
      show f_X8_literal n S a w = _
      unfold f_X8_literal
      rw [bo_some (has3_out a2 ho), if_pos rfl]
    · obtain ⟨-, ⟨a2, a3⟩, -⟩ := h
      show f_X9_literal n S a w = _
      unfold f_X9_literal f_X9_isLiteral
      rw [a2, wi_out ho (by omega)]
      simp only [bo]
      rw [if_neg (by decide)]
      simp only []
      first | rw [if_pos rfl] | rw [if_pos trivial]
