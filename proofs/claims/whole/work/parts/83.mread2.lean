/-! READING: the reference goes along a page; what is whole -/
/-- so far go both sides of the literal -/
def gse (pg : Nat → Nat) : Nat → Nat
  | 0 => 0
  | i + 1 => match grun pg (i + 1) with
    | some g => if g.1.1 = 3 then gse pg i else i + 1
    | none => gse pg i
theorem gse_ok {pg : Nat → Nat} : ∀ (i : Nat) (g : Gs), grun pg i = some g → (g.1.1 ≠ 3 → gse pg i = i) ∧ (g.1.1 = 3 → gse pg i < i ∧ ∃ g2, grun pg (gse pg i) = some g2 ∧ g2.1.1 = 2 ∧ g2.1.2.1 = [] ∧ g2.1.2.2 = g.1.2.2 ∧ g2.2.1 = g.2.1)
  | 0, g, h => by cases h; exact ⟨fun _ => rfl, fun h => by simp [g0] at h⟩
  | i + 1, g, h => by
    have h' := h
    simp only [grun] at h'
    cases e : grun pg i with
    | none => rw [e] at h'; cases h'
    | some g1 =>
      rw [e] at h'
      have ih := gse_ok i g1 e
      have es : gse pg (i + 1) = if g.1.1 = 3 then gse pg i else i + 1 := by
        simp only [gse, h]
      refine ⟨fun hw => by rw [es, if_neg hw], fun hw => ?_⟩
      rw [es, if_pos hw]
      have h2 : gstep g1 (pg i) = some g := h'
      obtain ⟨⟨w, br, kd⟩, l, ng, nm⟩ := g1
      unfold gstep at h2
      dsimp only at h2 ih
      by_cases w0 : w = 0
      · rw [if_pos w0] at h2
        split at h2
        · cases h2; simp at hw
        · split at h2
          · cases h2; simp at hw
          · split at h2
            · cases h2; simp at hw
            · cases h2
      · rw [if_neg w0] at h2
        by_cases w1 : w = 1
        · rw [if_pos w1] at h2
          split at h2
          · cases h2; simp at hw
          · cases h2
        · rw [if_neg w1] at h2
          by_cases w2 : w = 2
          · rw [if_pos w2] at h2
            have e1 := ih.1 (by omega)
            cases br with
            | nil =>
              dsimp only at h2
              split at h2
              · split at h2
                · cases h2
                · cases h2; simp at hw
              · split at h2
                · cases h2
                  exact ⟨by omega, ((w, [], kd), l, ng, nm), by rw [e1]; exact e, w2, rfl, rfl, rfl⟩
                · cases h2
            | cons b r =>
              dsimp only at h2
              split at h2
              · split at h2
                · cases h2; simp at hw
                · cases h2
              · split at h2
                · cases h2; simp at hw
                · cases h2
          · rw [if_neg w2] at h2
            have ok := grun_ok e
            have k6 := ok.2.2.2.2.2.1
            dsimp only at k6
            have w3 : w = 3 := by omega
            obtain ⟨i1, g2, i2, i3, i4, i5, i6⟩ := ih.2 w3
            split at h2
            · cases h2
              exact ⟨by omega, g2, i2, i3, i4, i5, i6⟩
            · cases h2
theorem gse_le {pg : Nat → Nat} {i : Nat} {g : Gs} (h : grun pg i = some g) : gse pg i ≤ i := by
  have := gse_ok i g h
  by_cases e : g.1.1 = 3
  · have := (this.2 e).1; omega
  · rw [this.1 e]; omega
/-- the same, and where the sides end -/
def FA (S T : St) : Prop := ∀ j, (j < 10 ∨ 17 < j) → T.1 28 j = S.1 28 j
theorem FR.fa {S T : St} (h : FR S T) : FA S T := fun j hj => h j (by omega)
theorem FA.trans {S T U : St} (h : FA S T) (g : FA T U) : FA S U := fun j hj => (g j hj).trans (h j hj)
theorem FA.rf {S : St} : FA S S := fun _ _ => rfl
theorem FA.fld {S T : St} {k : Nat} {v : Int32} (h : FA S T) (hk : 10 ≤ k ∧ k ≤ 17) : FA S (sI T 28 k v) := fun j hj => by
  have : ¬ j = k := by omega
  simp only [sI, this, and_false, if_false]; exact h j hj
theorem along_m {n L : Nat} {S : St} {pg : Nat → Nat} (hn : 60 ≤ n) (hL : L ≤ 40) (h0 : S.1 28 0 = nI L) (hp : ∀ i, i < L → S.1 29 i = nI (pg i) ∧ pg i < 127) : ∃ f T, f_X9_goAlong n S = some (nI f, T) ∧ FA S T ∧ T.2 = S.2 ∧ isFault pg L f ∧ (f = L → ∃ g, grun pg L = some g ∧ MG T g ∧ T.1 28 17 = nI (gse pg L)) := by
  unfold f_X9_goAlong f_X9_begins
  simp only [bd, bo]
  refine for_up (α := Int32 × St) (f_X9_goAlong_11 n) (fun _ _ => none) L (fun i T => (∃ g, grun pg i = some g ∧ MG T g) ∧ T.1 28 17 = nI (gse pg i) ∧ FA S T ∧ T.2 = S.2 ∧ T.1 29 = S.1 29) (fun o => ∃ f T, o = some (nI f, T) ∧ FA S T ∧ T.2 = S.2 ∧ isFault pg L f ∧ (f = L → ∃ g, grun pg L = some g ∧ MG T g ∧ T.1 28 17 = nI (gse pg L))) ?_ ?_ n 0 _ (by omega) (by omega) ⟨⟨g0, rfl, ?_⟩, by simp [sI, gse, nI_0], ?_, rfl, by funext j; simp [sI]⟩
  · rintro i T k hi ⟨⟨g, q1, q2⟩, q3, q4, q5, q6⟩
    unfold f_X9_goAlong_11
    rw [q4 0 (by omega), h0, if_neg (by rw [nI_leI (by omega) (by omega)]; omega), if_neg (nI_bad (by omega) (by omega)), nI_c (by omega), q6, (hp i hi).1]
    obtain ⟨v, U, a1, a2, a3, a4⟩ := takes_m (n := n) (by omega) (hp i hi).2 q2 (grun_ok q1)
    rw [bo_some a1]
    rcases a4 with ⟨rfl, a4⟩ | ⟨rfl, g2, a4, a5⟩
    · left
      rw [if_pos rfl]
      exact ⟨i, U, rfl, q4.trans a2.fa, a3.trans q5, ⟨by omega, g, q1, fun _ => a4⟩, fun e => by omega⟩
    · right
      rw [if_neg (by decide)]
      simp only [bd]
      rw [nI_1]
      have gr : grun pg (i + 1) = some g2 := by simp only [grun]; rw [q1]; exact a4
      have es : gse pg (i + 1) = if g2.1.1 = 3 then gse pg i else i + 1 := by simp only [gse, gr]
      have k6 := (grun_ok gr).2.2.2.2.2.1
      have u29 : U.1 29 = S.1 29 := by rw [(fr_X9_takes n T _ _ U a1 29 (by unfold wr_X9_takes; omega)).1, q6]
      have u17 : ∀ v : Int32, MG (sI U 28 17 v) g2 := fun v => by
        obtain ⟨e0, e1, e2, e3, e4, e5, e6⟩ := a5
        exact ⟨by rw [← e0]; simp [sI], by rw [← e1]; simp [sI], e2.congr (fun i _ => by simp [sI]), by rw [← e3]; simp [sI], fun hk => by rw [← e4 hk]; simp [sI], by rw [← e5]; simp [sI], by rw [← e6]; simp [sI]⟩
      have t17 : U.1 28 17 = T.1 28 17 := a2 17 (by omega)
      unfold f_X9_goAlong_52
      simp only [bd]
      rw [a5.1]
      by_cases e3 : g2.1.1 = 3
      · rw [if_pos (by rw [e3]; rfl)]
        refine ⟨_, ⟨⟨g2, gr, u17 _⟩, ?_, (q4.trans a2.fa).fld (by omega), a3.trans q5, by rw [← u29]; funext j; simp [sI]⟩, rfl⟩
        rw [es, if_pos e3, t17, q3]; simp [sI]
      · rw [if_neg (by rw [show (3 : Int32) = nI 3 from rfl, nI_eq (by omega) (by omega)]; exact e3)]
        refine ⟨_, ⟨⟨g2, gr, u17 _⟩, ?_, (q4.trans a2.fa).fld (by omega), a3.trans q5, by rw [← u29]; funext j; simp [sI]⟩, rfl⟩
        rw [es, if_neg e3]; simp [sI]
  · rintro T k ⟨⟨g, q1, q2⟩, q3, q4, q5, q6⟩
    unfold f_X9_goAlong_11
    rw [q4 0 (by omega), h0, if_pos (by rw [nI_leI (by omega) (by omega)]; omega)]
    exact ⟨L, T, rfl, q4, q5, ⟨by omega, g, q1, fun h => absurd h (Nat.lt_irrefl _)⟩, fun _ => ⟨g, q1, q2, q3⟩⟩
  · refine ⟨?_, ?_, trivial, ?_, fun hk => absurd rfl hk, ?_, ?_⟩ <;> (simp [sI, g0]; try rfl)
  · exact ((((((FA.rf.fld (by omega)).fld (by omega)).fld (by omega)).fld (by omega)).fld (by omega)).fld (by omega)).fld (by omega)
def gwh (g : Gs) : Prop := g.1.2.2 ≠ 3 ∧ g.1.2.1 = [] ∧ (g.1.1 = 2 ∨ (g.1.1 = 3 ∧ 0 < g.2.2.2))
theorem complete_c {n i : Nat} {S : St} {g : Gs} (hi : i ≤ 40) (h : CG S g) (hg : Gok g i) : ∃ r, f_X5_isComplete n S = some (r, S) ∧ ((r = 1 ∧ gwh g) ∨ (r = 0 ∧ ¬ gwh g)) := by
  obtain ⟨⟨w, br, kd⟩, l, ng, nm⟩ := g
  have h0 := h.1
  have h1 := h.2.1
  have h5 := h.2.2.2.2.2.1
  have k1 := hg.1
  have k4 := hg.2.2.2.1
  have k6 := hg.2.2.2.2.2.1
  have k7 := hg.2.2.2.2.2.2.1
  have kn := hg.2.2.1
  dsimp only at h0 h1 h5 k1 k4 k6 k7 kn
  unfold f_X5_isComplete f_X5_isComplete_27 f_X5_isComplete_28 f_X5_isComplete_41
  simp only [bd]
  have nil : (nI br.length = (0 : Int32)) ↔ br = [] := by
    rw [show (0 : Int32) = nI 0 from rfl, nI_eq (by omega) (by omega), List.length_eq_zero_iff]
  by_cases w2 : w = 2
  · subst w2
    rw [if_neg (by decide)] at h0
    rw [h0, if_pos (by decide), h1]
    by_cases b0 : br = []
    · rw [if_pos (nil.mpr b0), h5]
      by_cases k3 : kd = 3
      · rw [if_pos k3, if_pos rfl, if_pos trivial, if_neg (by decide)]
        exact ⟨0, rfl, Or.inr ⟨rfl, fun hq => hq.1 k3⟩⟩
      · rw [if_neg k3, if_neg (nm1 (by omega)), if_neg (by decide)]
        exact ⟨1, rfl, Or.inl ⟨rfl, k3, b0, Or.inl rfl⟩⟩
    · rw [if_neg (fun hq => b0 (nil.mp hq)), if_pos trivial, if_neg (by decide)]
      exact ⟨0, rfl, Or.inr ⟨rfl, fun hq => b0 hq.2.1⟩⟩
  · by_cases w3 : w = 3
    · subst w3
      rw [if_pos rfl] at h0
      by_cases m0 : nm = 0
      · rw [if_pos m0] at h0
        rw [h0, if_neg (by decide), if_pos trivial, if_neg (by decide)]
        refine ⟨0, rfl, Or.inr ⟨rfl, ?_⟩⟩
        rintro ⟨-, -, q | ⟨-, q⟩⟩
        · exact absurd (show (3 : Nat) = 2 from q) (by decide)
        · dsimp only at q; omega
      · rw [if_neg m0] at h0
        rw [h0, if_neg (by decide), if_pos trivial, if_pos (by decide)]
        obtain ⟨a, b⟩ := k7 rfl
        exact ⟨1, rfl, Or.inl ⟨rfl, by dsimp only; omega, a, Or.inr ⟨rfl, by dsimp only; omega⟩⟩⟩
    · rw [if_neg w3] at h0
      rw [h0, if_neg (by rw [show (2 : Int32) = nI 2 from rfl, nI_eq (by omega) (by omega)]; exact w2), if_pos trivial, if_neg (by rw [show (4 : Int32) = nI 4 from rfl, nI_eq (by omega) (by omega)]; omega)]
      refine ⟨0, rfl, Or.inr ⟨rfl, ?_⟩⟩
      rintro ⟨-, -, q | ⟨q, -⟩⟩
      · exact w2 q
      · exact w3 q
theorem whole_m {n i : Nat} {S : St} {g : Gs} (hi : i ≤ 40) (h : MG S g) (hg : Gok g i) : ∃ r, f_X9_isWhole n S = some (r, S) ∧ ((r = 1 ∧ gwh g) ∨ (r = 0 ∧ ¬ gwh g)) := by
  obtain ⟨⟨w, br, kd⟩, l, ng, nm⟩ := g
  obtain ⟨h0, h1, h2, h3, h4, h5, h6⟩ := h
  have k1 := hg.1
  have k6 := hg.2.2.2.2.2.1
  have kn := hg.2.2.1
  dsimp only at h0 h1 h3 h5 k1 k6 kn
  unfold f_X9_isWhole f_X9_isWhole_37
  have nil : (nI br.length = (0 : Int32)) ↔ br = [] := by
    rw [show (0 : Int32) = nI 0 from rfl, nI_eq (by omega) (by omega), List.length_eq_zero_iff]
  rw [h3, h1, h0, h5]
  by_cases k3 : kd = 3
  · rw [if_pos k3, if_pos (by decide)]
    exact ⟨0, rfl, Or.inr ⟨rfl, fun hq => hq.1 k3⟩⟩
  · rw [if_neg k3, if_neg (by decide)]
    by_cases b0 : br = []
    · rw [if_pos (nil.mpr b0)]
      by_cases w2 : w = 2
      · rw [if_pos (by rw [w2]; rfl)]
        exact ⟨1, rfl, Or.inl ⟨rfl, k3, b0, Or.inl w2⟩⟩
      · rw [if_neg (by rw [show (2 : Int32) = nI 2 from rfl, nI_eq (by omega) (by omega)]; exact w2)]
        by_cases w3 : w = 3
        · rw [if_pos (by rw [w3]; rfl)]
          by_cases m0 : nm = 0
          · rw [if_pos (by rw [m0]; decide)]
            refine ⟨0, rfl, Or.inr ⟨rfl, ?_⟩⟩
            rintro ⟨-, -, q | ⟨-, q⟩⟩
            · exact w2 q
            · dsimp only at q; omega
          · rw [if_neg (by rw [show (0 : Int32) = nI 0 from rfl, nI_leI (by omega) (by omega)]; omega)]
            exact ⟨1, rfl, Or.inl ⟨rfl, k3, b0, Or.inr ⟨w3, by dsimp only; omega⟩⟩⟩
        · rw [if_neg (by rw [show (3 : Int32) = nI 3 from rfl, nI_eq (by omega) (by omega)]; exact w3)]
          refine ⟨0, rfl, Or.inr ⟨rfl, ?_⟩⟩
          rintro ⟨-, -, q | ⟨q, -⟩⟩
          · exact w2 q
          · exact w3 q
    · rw [if_neg (fun hq => b0 (nil.mp hq))]
      exact ⟨0, rfl, Or.inr ⟨rfl, fun hq => b0 hq.2.1⟩⟩
