/-! THE PROBLEM: terms and literals, solutions; what the class's solver is loaded with -/
abbrev Pb : Type := (Nat × (Nat → Nat × Nat × Nat)) × (Nat × (Nat → Nat × Nat × Nat × Int))
def nT (p : Pb) : Nat := p.1.1
def tm (p : Pb) (t : Nat) : Nat × Nat × Nat := p.1.2 t
def nL (p : Pb) : Nat := p.2.1
def lit (p : Pb) (k : Nat) : Nat × Nat × Nat × Int := p.2.2 k
def PbWf (p : Pb) : Prop := 5 ≤ nT p ∧ nT p ≤ 10 ∧ nL p ≤ 10 ∧ (∀ t, t < 5 → (tm p t).1 = 0) ∧ (∀ t, 5 ≤ t → t < nT p → ((tm p t).1 = 1 ∧ (tm p t).2.1 < t) ∨ ((tm p t).1 = 2 ∧ (tm p t).2.1 < t ∧ (tm p t).2.2 < t)) ∧ (∀ k, k < nL p → (lit p k).1 ≤ 2 ∧ (lit p k).2.1 < nT p ∧ (lit p k).2.2.1 < nT p ∧ -2000000000 ≤ (lit p k).2.2.2 ∧ (lit p k).2.2.2 ≤ 2000000000)
def litSat (l : Nat × Nat × Nat × Int) (v : Nat → Int) : Prop := if l.1 = 0 then v l.2.1 = v l.2.2.1 else if l.1 = 1 then v l.2.1 ≠ v l.2.2.1 else v l.2.1 - v l.2.2.1 ≤ l.2.2.2
def cong1 (p : Pb) (s t : Nat) (v : Nat → Int) : Prop := (tm p s).1 = (tm p t).1 → v (tm p s).2.1 = v (tm p t).2.1 → ((tm p s).1 = 2 → v (tm p s).2.2 = v (tm p t).2.2) → v s = v t
def congSat (p : Pb) (v : Nat → Int) : Prop := ∀ s t, 5 ≤ s → s < t → t < nT p → cong1 p s t v
def onB (m : Int32) (k : Nat) : Prop := ((m >>> (nI k &&& 31)) &&& (1 : Int32)) = (1 : Int32)
def Sol (p : Pb) (m : Int32) (v : Nat → Int) : Prop := (∀ k, k < nL p → onB m k → litSat (lit p k) v) ∧ congSat p v
/-- the class's cells hold the problem -/
def CRep (S : St) (p : Pb) : Prop := PbWf p ∧ S.1 6 4 = nI (nT p) ∧ (∀ t, t < nT p → S.1 7 t = nI (tm p t).1) ∧ (∀ t, 5 ≤ t → t < nT p → S.1 8 t = nI (tm p t).2.1 ∧ S.1 9 t = if (tm p t).1 = 2 then nI (tm p t).2.2 else -2000000001) ∧ (∀ t, t < 5 → S.1 8 t = -2000000001 ∧ S.1 9 t = -2000000001) ∧ S.1 16 4 = nI (nL p) ∧ ∀ k, k < nL p → S.1 17 k = nI (lit p k).1 ∧ S.1 18 k = nI (lit p k).2.1 ∧ S.1 19 k = nI (lit p k).2.2.1 ∧ (S.1 20 k).toInt = (lit p k).2.2.2
theorem CRep.keep {S T : St} {p : Pb} (h : CRep S p) (e : ∀ c, c = 6 ∨ c = 7 ∨ c = 8 ∨ c = 9 ∨ c = 16 ∨ c = 17 ∨ c = 18 ∨ c = 19 ∨ c = 20 → T.1 c = S.1 c) : CRep T p := by
  unfold CRep
  rw [e 6 (by omega), e 7 (by omega), e 8 (by omega), e 9 (by omega), e 16 (by omega), e 17 (by omega), e 18 (by omega), e 19 (by omega), e 20 (by omega)]
  exact h
/-- what the solver holds before it is asked -/
def Ld (S : St) (cc : Nat) (P : (Nat → Int) → Prop) : Prop := ∃ C E, clsAt S cc C ∧ MOK W0 E S 72 ∧ S.1 23 7 = 0 ∧ ((S.1 23 6 = 0 ∧ ∀ v, P v ↔ Sat E v ∧ allCl cc C v) ∨ (S.1 23 6 = 1 ∧ ∀ v, ¬ P v))
def Go (S T : St) : Prop := T.1 23 8 = S.1 23 8 ∧ T.1 23 9 = S.1 23 9
theorem Ld.congr {S : St} {cc : Nat} {P Q : (Nat → Int) → Prop} (h : Ld S cc P) (e : ∀ v, P v ↔ Q v) : Ld S cc Q := by
  obtain ⟨C, E, h1, h2, h3, h4⟩ := h
  refine ⟨C, E, h1, h2, h3, ?_⟩
  rcases h4 with ⟨a, b⟩ | ⟨a, b⟩
  · exact Or.inl ⟨a, fun v => by rw [← e v]; exact b v⟩
  · exact Or.inr ⟨a, fun v => by rw [← e v]; exact b v⟩
theorem W0ok : 30 * W0 < FC := by decide
theorem atMost_c {n cc : Nat} {S : St} {P : (Nat → Int) → Prop} (hn : 30 ≤ n) (h : Ld S cc P) {s t : Nat} (hs : s < 10) (ht : t < 10) {w : Int32} (hw : -2000000000 ≤ w.toInt ∧ w.toInt ≤ 2000000000) :
    ∃ T, f_X6_demandAtMost n S (nI s) (nI t) w = some ((), T) ∧ Go S T ∧ Ld T cc (fun v => P v ∧ v s - v t ≤ w.toInt) := by
  have W0v : W0 = 2000000000 := rfl
  obtain ⟨C, E, h1, h2, h3, h4⟩ := h
  unfold f_X6_demandAtMost
  rw [if_neg (by decide)]
  have e0 : (72 + ((0 : Int32)).toNatClampNeg) = 72 := by decide
  rw [e0]
  have ew : (w.toInt64).toInt = w.toInt := i2l w
  obtain ⟨r, T, a1, a2, a3⟩ := bound_w (n := n) (w := w.toInt64) (by omega) (W := W0) (by decide) W0ok h2 hs ht (by rw [ew]; omega)
  rw [bo_some a1]
  have hcl : clsAt T cc C := h1.keep (by rw [(a2 23 (by unfold wr_X1_bound; omega)).1]) (fun k hk => (a2 (50 + k) (by unfold wr_X1_bound; omega)).1)
  have h23 : T.1 23 = S.1 23 := (a2 23 (by unfold wr_X1_bound; omega)).1
  rcases a3 with ⟨rfl, rfl, b1, b2⟩ | ⟨rfl, b1, -⟩
  · rw [if_pos rfl]
    simp only [bd]
    refine ⟨_, rfl, ⟨rfl, rfl⟩, C, E, ?_, h2, h3, Or.inr ⟨by simp [sI], fun v hv => ?_⟩⟩
    · exact h1.keep (by simp [sI]) (fun k hk => by funext j; simp only [sI]; rw [if_neg (by omega)])
    · rcases h4 with ⟨-, hP⟩ | ⟨-, hP⟩
      · have := bound_no h2 hs ht b1 b2 ((hP v).mp hv.1).1
        rw [ew] at this
        exact this hv.2
      · exact hP v hv.1
  · rw [if_neg (by decide)]
    rw [ew] at b1
    refine ⟨T, rfl, ⟨by rw [h23], by rw [h23]⟩, C, _, hcl, b1, by rw [h23]; exact h3, ?_⟩
    rcases h4 with ⟨a, hP⟩ | ⟨a, hP⟩
    · refine Or.inl ⟨by rw [h23]; exact a, fun v => ?_⟩
      dsimp only
      rw [sat_ad, hP v]
      exact ⟨fun ⟨⟨x, y⟩, z⟩ => ⟨⟨x, z⟩, y⟩, fun ⟨⟨x, z⟩, y⟩ => ⟨⟨x, y⟩, z⟩⟩
    · exact Or.inr ⟨by rw [h23]; exact a, fun v hv => hP v hv.1⟩
theorem equal_c {n cc : Nat} {S : St} {P : (Nat → Int) → Prop} (hn : 30 ≤ n) (h : Ld S cc P) {s t : Nat} (hs : s < 10) (ht : t < 10) :
    ∃ T, f_X6_demandEqual n S (nI s) (nI t) = some ((), T) ∧ Go S T ∧ Ld T cc (fun v => P v ∧ v s = v t) := by
  have W0v : W0 = 2000000000 := rfl
  obtain ⟨C, E, h1, h2, h3, h4⟩ := h
  unfold f_X6_demandEqual
  rw [if_neg (by decide)]
  have e0 : (72 + ((0 : Int32)).toNatClampNeg) = 72 := by decide
  rw [e0]
  unfold f_X1_equate
  obtain ⟨r, T, a1, a2, a3⟩ := bound_w (n := n) (w := (0 : Int64)) (by omega) (W := W0) (by decide) W0ok h2 hs ht (by rw [z64]; omega)
  rw [bo_some a1]
  have h23 : T.1 23 = S.1 23 := (a2 23 (by unfold wr_X1_bound; omega)).1
  have hcl : clsAt T cc C := h1.keep (by rw [h23]) (fun k hk => (a2 (50 + k) (by unfold wr_X1_bound; omega)).1)
  rcases a3 with ⟨rfl, rfl, b1, b2⟩ | ⟨rfl, b1, -⟩
  · rw [if_pos rfl]
    simp only [bo, bd]
    refine ⟨_, rfl, ⟨rfl, rfl⟩, C, E, ?_, h2, h3, Or.inr ⟨by simp [sI], fun v hv => ?_⟩⟩
    · exact h1.keep (by simp [sI]) (fun k hk => by funext j; simp only [sI]; rw [if_neg (by omega)])
    · rcases h4 with ⟨-, hP⟩ | ⟨-, hP⟩
      · have := bound_no h2 hs ht b1 b2 ((hP v).mp hv.1).1
        rw [z64] at this
        have := hv.2
        omega
      · exact hP v hv.1
  · rw [if_neg (by decide)]
    rw [z64] at b1
    obtain ⟨r, U, c1, c2, c3⟩ := bound_w (n := n) (w := (0 : Int64)) (by omega) (W := W0) (by decide) W0ok b1 ht hs (by rw [z64]; omega)
    rw [bo_some c1]
    have u23 : U.1 23 = T.1 23 := (c2 23 (by unfold wr_X1_bound; omega)).1
    have hcu : clsAt U cc C := hcl.keep (by rw [u23]) (fun k hk => (c2 (50 + k) (by unfold wr_X1_bound; omega)).1)
    rcases c3 with ⟨rfl, rfl, d1, d2⟩ | ⟨rfl, d1, -⟩
    · rw [if_pos rfl]
      simp only [bo, bd]
      refine ⟨_, rfl, ⟨by rw [← h23]; simp [sI], by rw [← h23]; simp [sI]⟩, C, _, ?_, b1, by rw [← h3, ← h23]; simp [sI], Or.inr ⟨by simp [sI], fun v hv => ?_⟩⟩
      · exact hcl.keep (by simp [sI]) (fun k hk => by funext j; simp only [sI]; rw [if_neg (by omega)])
      · rcases h4 with ⟨-, hP⟩ | ⟨-, hP⟩
        · have := bound_no b1 ht hs d1 d2 (sat_ad.mpr ⟨((hP v).mp hv.1).1, by have := hv.2; omega⟩)
          rw [z64] at this
          have := hv.2
          omega
        · exact hP v hv.1
    · rw [if_neg (by decide)]
      rw [z64] at d1
      simp only [bo]
      refine ⟨U, rfl, ⟨by rw [u23, h23], by rw [u23, h23]⟩, C, _, hcu, d1, by rw [u23, h23]; exact h3, ?_⟩
      rcases h4 with ⟨a, hP⟩ | ⟨a, hP⟩
      · refine Or.inl ⟨by rw [u23, h23]; exact a, fun v => ?_⟩
        dsimp only
        rw [sat_ad, sat_ad, hP v]
        exact ⟨fun ⟨⟨x, y⟩, z⟩ => ⟨⟨⟨x, by omega⟩, by omega⟩, y⟩, fun ⟨⟨⟨x, z1⟩, z2⟩, y⟩ => ⟨⟨x, y⟩, by omega⟩⟩
      · exact Or.inr ⟨by rw [u23, h23]; exact a, fun v hv => hP v hv.1⟩
/-- one more clause -/
theorem Ld.clause {S T : St} {cc : Nat} {P : (Nat → Int) → Prop} (h : Ld S cc P) (hcc : cc < 22) {c : Cl} (h1 : T.1 23 3 = nI (cc + 1)) (h2 : ∀ k, k < 22 → k ≠ cc → T.1 (50 + k) = S.1 (50 + k)) (h3 : clAt T (50 + cc) c) (h4 : T.2 = S.2) (h5 : T.1 23 6 = S.1 23 6) (h6 : T.1 23 7 = S.1 23 7) : Ld T (cc + 1) (fun v => P v ∧ clSat c v) := by
  obtain ⟨C, E, g1, g2, g3, g4⟩ := h
  refine ⟨fun k => if k = cc then c else C k, E, ⟨by omega, h1, fun k hk => ?_⟩, g2.keep (by rw [h4]), h6.trans g3, ?_⟩
  · by_cases e : k = cc
    · subst e; simpa using h3
    · simp only [if_neg e]
      exact (g1.2.2 k (by omega)).keep (h2 k (by omega) e)
  · have key : ∀ v, allCl (cc + 1) (fun k => if k = cc then c else C k) v ↔ allCl cc C v ∧ clSat c v := by
      intro v
      constructor
      · intro h
        refine ⟨fun k hk => ?_, ?_⟩
        · have := h k (by omega); dsimp only at this; rw [if_neg (by omega)] at this; exact this
        · have := h cc (by omega); dsimp only at this; rw [if_pos rfl] at this; exact this
      · rintro ⟨a, b⟩ k hk
        by_cases e : k = cc
        · simp only [if_pos e]; exact b
        · simp only [if_neg e]; exact a k (by omega)
    rcases g4 with ⟨a, hP⟩ | ⟨a, hP⟩
    · refine Or.inl ⟨h5.trans a, fun v => ?_⟩
      dsimp only
      rw [key v, hP v]
      exact ⟨fun ⟨⟨x, y⟩, z⟩ => ⟨x, y, z⟩, fun ⟨x, y, z⟩ => ⟨⟨x, y⟩, z⟩⟩
    · exact Or.inr ⟨h5.trans a, fun v hv => hP v hv.1⟩
theorem differ_c {n cc : Nat} {S : St} {P : (Nat → Int) → Prop} (h : Ld S cc P) (hcc : cc < 22) {s t : Nat} (hs : s < 10) (ht : t < 10) :
    ∃ T, f_X6_demandDifferent n S (nI s) (nI t) = some ((), T) ∧ Go S T ∧ Ld T (cc + 1) (fun v => P v ∧ v s ≠ v t) := by
  have hc3 : S.1 23 3 = nI cc := by obtain ⟨C, E, h1, -⟩ := h; exact h1.2.1
  unfold f_X6_demandDifferent
  rw [hc3, if_neg (nI_pos (by omega)), if_neg (by rw [show (22 : Int32) = nI 22 from rfl, nI_leI (by omega) (by omega)]; omega), if_neg (nI_bad (by omega) (by omega)), nI_c (by omega)]
  unfold f_X0_setInequality f_X0_clearSecond
  simp only [bd, bo]
  have n23 : ¬ (23 = 50 + cc) := by omega
  refine ⟨_, rfl, ⟨by simp [sI, n23], by simp [sI, n23]⟩, ?_⟩
  refine (Ld.clause (c := ((s, t), (0, 0), none)) h hcc ?_ ?_ ?_ ?_ ?_ ?_).congr (fun v => ?_)
  · simp [sI, n23, hc3, nI_1]
  · intro k hk hne
    funext j
    have e1 : ¬ (50 + k = 23) := by omega
    have e2 : ¬ (50 + k = 50 + cc) := by omega
    simp only [sI, e1, e2, false_and, if_false]
  · have e1 : ¬ (50 + cc = 23) := by omega
    refine ⟨⟨hs, ht, by show 0 < 10; decide, by show 0 < 10; decide, fun p hp => by cases hp⟩, ?_, ?_, ?_, ?_, fun _ => ?_, fun p hp => by cases hp⟩ <;> simp [sI, e1, nI_0]
  · rfl
  · simp [sI, n23]
  · simp [sI, n23]
  · unfold clSat
    simp
/-! reading terms and literals -/
theorem size7 {n : Nat} {S : St} {p : Pb} (h : CRep S p) : f_X7_size n 6 S = some (nI (nT p), S) := by
  unfold f_X7_size; rw [h.2.1]
theorem size3 {n : Nat} {S : St} {p : Pb} (h : CRep S p) : f_X3_size n S = some (nI (nL p), S) := by
  unfold f_X3_size; rw [h.2.2.2.2.2.1]
theorem has7 {n q : Nat} {S : St} {N t : Nat} (hS : S.1 q 4 = nI N) (hN : N ≤ 10) (ht : t < N) : f_X7_has n q S (nI t) = some (1, S) := by
  unfold f_X7_has
  rw [if_neg (nI_pos (by omega)), hS, if_neg (by rw [nI_leI (by omega) (by omega)]; omega), if_neg (by rw [show (10 : Int32) = nI 10 from rfl, nI_leI (by omega) (by omega)]; omega)]
theorem first7 {n q : Nat} {S : St} {N t : Nat} (hS : S.1 q 4 = nI N) (hN : N ≤ 10) (ht : t < N) : f_X7_firstOf n q S (nI t) = some (S.1 (q + 2) t, S) := by
  unfold f_X7_firstOf
  rw [bo_some (has7 hS hN ht), if_neg (by decide), if_neg (nI_bad (by omega) (by omega)), nI_c (by omega)]
theorem kind7 {n q : Nat} {S : St} {N t : Nat} (hS : S.1 q 4 = nI N) (hN : N ≤ 10) (ht : t < N) : f_X7_kindOf n q S (nI t) = some (S.1 (q + 1) t, S) := by
  unfold f_X7_kindOf
  rw [bo_some (has7 hS hN ht), if_neg (by decide), if_neg (nI_bad (by omega) (by omega)), nI_c (by omega)]
theorem second7 {n q : Nat} {S : St} {N t : Nat} (hS : S.1 q 4 = nI N) (hN : N ≤ 10) (ht : t < N) : f_X7_secondOf n q S (nI t) = some (S.1 (q + 3) t, S) := by
  unfold f_X7_secondOf
  rw [bo_some (has7 hS hN ht), if_neg (by decide), if_neg (nI_bad (by omega) (by omega)), nI_c (by omega)]
theorem has3 {n : Nat} {S : St} {N k : Nat} (hS : S.1 16 4 = nI N) (hN : N ≤ 10) (hk : k < N) : f_X3_has n S (nI k) = some (1, S) := by
  unfold f_X3_has
  rw [if_neg (nI_pos (by omega)), hS, if_neg (by rw [nI_leI (by omega) (by omega)]; omega), if_neg (by rw [show (10 : Int32) = nI 10 from rfl, nI_leI (by omega) (by omega)]; omega)]
theorem kind3 {n : Nat} {S : St} {N k : Nat} (hS : S.1 16 4 = nI N) (hN : N ≤ 10) (hk : k < N) : f_X3_kindOf n S (nI k) = some (S.1 17 k, S) := by
  unfold f_X3_kindOf
  rw [bo_some (has3 hS hN hk), if_neg (by decide), if_neg (nI_bad (by omega) (by omega)), nI_c (by omega)]
theorem left3 {n : Nat} {S : St} {N k : Nat} (hS : S.1 16 4 = nI N) (hN : N ≤ 10) (hk : k < N) : f_X3_leftOf n S (nI k) = some (S.1 18 k, S) := by
  unfold f_X3_leftOf
  rw [bo_some (has3 hS hN hk), if_neg (by decide), if_neg (nI_bad (by omega) (by omega)), nI_c (by omega)]
theorem right3 {n : Nat} {S : St} {N k : Nat} (hS : S.1 16 4 = nI N) (hN : N ≤ 10) (hk : k < N) : f_X3_rightOf n S (nI k) = some (S.1 19 k, S) := by
  unfold f_X3_rightOf
  rw [bo_some (has3 hS hN hk), if_neg (by decide), if_neg (nI_bad (by omega) (by omega)), nI_c (by omega)]
theorem number3 {n : Nat} {S : St} {N k : Nat} (hS : S.1 16 4 = nI N) (hN : N ≤ 10) (hk : k < N) : f_X3_numberOf n S (nI k) = some (S.1 20 k, S) := by
  unfold f_X3_numberOf
  rw [bo_some (has3 hS hN hk), if_neg (by decide), if_neg (nI_bad (by omega) (by omega)), nI_c (by omega)]
theorem literal_c {n cc : Nat} {S : St} {p : Pb} {P : (Nat → Int) → Prop} (hn : 30 ≤ n) (hp : CRep S p) (h : Ld S cc P) (hcc : cc < 22) {k : Nat} (hk : k < nL p) :
    ∃ T c2, f_X6_demandLiteral n S (nI k) = some ((), T) ∧ Go S T ∧ CRep T p ∧ c2 ≤ cc + 1 ∧ Ld T c2 (fun v => P v ∧ litSat (lit p k) v) := by
  obtain ⟨hwf, -, -, -, -, hsz, hl⟩ := id hp
  have hN : nL p ≤ 10 := hwf.2.2.1
  have hT10 : nT p ≤ 10 := hwf.2.1
  obtain ⟨g1, g2, g3, g4, g5⟩ := hwf.2.2.2.2.2 k hk
  obtain ⟨e1, e2, e3, e4⟩ := hl k hk
  have hkeep : ∀ T, f_X6_demandLiteral n S (nI k) = some ((), T) → CRep T p := fun T hT => hp.keep (fun c hc => (fr_X6_demandLiteral n S _ _ T hT c (by unfold wr_X6_demandLiteral; omega)).1)
  suffices hh : ∃ T c2, f_X6_demandLiteral n S (nI k) = some ((), T) ∧ Go S T ∧ c2 ≤ cc + 1 ∧ Ld T c2 (fun v => P v ∧ litSat (lit p k) v) by
    obtain ⟨T, c2, a, b, c, d⟩ := hh
    exact ⟨T, c2, a, b, hkeep T a, c, d⟩
  unfold f_X6_demandLiteral
  rw [bo_some (left3 hsz hN hk)]
  simp only [bd]
  rw [bo_some (right3 hsz hN hk), bo_some (kind3 hsz hN hk), e1, e2, e3]
  by_cases k0 : (lit p k).1 = 0
  · rw [k0, if_pos (by decide)]
    obtain ⟨T, a, b, c⟩ := equal_c hn h (s := (lit p k).2.1) (t := (lit p k).2.2.1) (by omega) (by omega)
    rw [bo_some a]
    exact ⟨T, cc, rfl, b, by omega, c.congr (fun v => by unfold litSat; rw [if_pos k0])⟩
  · rw [if_neg (by rw [show (0 : Int32) = nI 0 from rfl, nI_eq (by omega) (by omega)]; exact k0), bo_some (kind3 hsz hN hk), e1]
    by_cases k1 : (lit p k).1 = 1
    · rw [k1, if_pos (by decide)]
      obtain ⟨T, a, b, c⟩ := differ_c (n := n) h hcc (s := (lit p k).2.1) (t := (lit p k).2.2.1) (by omega) (by omega)
      rw [bo_some a]
      exact ⟨T, cc + 1, rfl, b, by omega, c.congr (fun v => by unfold litSat; rw [if_neg k0, if_pos k1])⟩
    · rw [if_neg (by rw [show (1 : Int32) = nI 1 from rfl, nI_eq (by omega) (by omega)]; exact k1), bo_some (number3 hsz hN hk)]
      obtain ⟨T, a, b, c⟩ := atMost_c hn h (s := (lit p k).2.1) (t := (lit p k).2.2.1) (by omega) (by omega) (w := S.1 20 k) (by rw [e4]; omega)
      rw [bo_some a]
      exact ⟨T, cc, rfl, b, by omega, c.congr (fun v => by unfold litSat; rw [if_neg k0, if_neg k1, e4])⟩
