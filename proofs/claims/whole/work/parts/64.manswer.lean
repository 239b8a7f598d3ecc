/-! THE REFERENCE: what it answers to a question -/
def PM (p : Pb) (m : Int32) (mo : Option (Nat × (Nat × Nat))) (ot : Option (Nat × Nat)) (v : Nat → Int) : Prop := Sol p m v ∧ (∀ e, e ∈ mext mo ot → v e.1 ≠ v e.2) ∧ moSat mo v
theorem PM_iff {p : Pb} (hwf : PbWf p) {m : Int32} {mo : Option (Nat × (Nat × Nat))} {ot : Option (Nat × Nat)} {v : Nat → Int} : PM p m mo ot v ↔ ((∀ k, k < nL p → onB m k → litE (lit p k) v) ∧ moSat mo v) ∧ ∀ c, c ∈ clsM p m (mext mo ot) → clSat c v := by
  rw [clsM_sat hwf]
  unfold PM Sol litSat litE
  constructor
  · rintro ⟨⟨h1, h2⟩, h3, h4⟩
    refine ⟨⟨fun k hk hb => ⟨fun e => ?_, fun e => ?_⟩, h4⟩, fun k hk hb e => ?_, h3, h2⟩
    · have := h1 k hk hb; rw [if_pos e] at this; exact this
    · have := h1 k hk hb; rw [if_neg (by omega), if_neg (by omega)] at this; exact this
    · have := h1 k hk hb; rw [if_neg (by omega), if_pos e] at this; exact this
  · rintro ⟨⟨h1, h4⟩, h5, h3, h2⟩
    refine ⟨⟨fun k hk hb => ?_, h2⟩, h3, h4⟩
    have g := (hwf.2.2.2.2.2 k hk).1
    by_cases e0 : (lit p k).1 = 0
    · rw [if_pos e0]; exact (h1 k hk hb).1 e0
    · rw [if_neg e0]
      by_cases e1 : (lit p k).1 = 1
      · rw [if_pos e1]; exact h5 k hk hb e1
      · rw [if_neg e1]; exact (h1 k hk hb).2 (by omega)
/-- what a question leaves alone -/
def MKeep (S T : St) : Prop := (∀ c k, ¬ (c = 28 ∧ 31 ≤ k ∧ k ≤ 40) → ¬ (45 ≤ c ∧ c ≤ 48) → T.1 c k = S.1 c k) ∧ ∀ c k, ¬ (c = 28 ∧ k = 41) → c ≠ 43 → c ≠ 44 → T.2 c k = S.2 c k
theorem MKeep.rf {S : St} : MKeep S S := ⟨fun _ _ _ _ => rfl, fun _ _ _ _ _ => rfl⟩
theorem MKeep.trans {S T U : St} (h : MKeep S T) (g : MKeep T U) : MKeep S U := ⟨fun c k a b => (g.1 c k a b).trans (h.1 c k a b), fun c k a b d => (g.2 c k a b d).trans (h.2 c k a b d)⟩
theorem MKeep.rep {S T : St} (h : MKeep S T) {p : Pb} (g : MRep S p) : MRep T p := g.keep (fun c hc => by funext k; exact h.1 c k (by omega) (by omega)) (h.1 28 18 (by omega) (by omega)) (h.1 28 2 (by omega) (by omega))
theorem seek_m {n : Nat} {S : St} {p : Pb} (m : Int32) {mo : Option (Nat × (Nat × Nat))} {ot w : Option (Nat × Nat)} (hn : NB ≤ n) (hp : MRep S p) (hmo : More S (nT p) mo) (hot : Oth S (nT p) ot) (hw : Want S (nT p) w) :
    ∃ T, f_X9_seek n S m = some ((), T) ∧ (∀ c k, ¬ (c = 28 ∧ (k = 31 ∨ k = 39 ∨ k = 40)) → ¬ (45 ≤ c ∧ c ≤ 48) → T.1 c k = S.1 c k) ∧ (∀ c k, ¬ (c = 28 ∧ k = 41) → c ≠ 43 → c ≠ 44 → T.2 c k = S.2 c k) ∧ ((T.1 28 39 = 0 ∧ ¬ ∃ v, PM p m mo ot v) ∨ (T.1 28 39 = 1 ∧ (∃ v, PM p m mo ot v) ∧ ∀ q, w = some q → (T.1 28 40 = 0 ∧ isSup (PM p m mo ot) q.1 q.2 (some (T.2 28 41).toInt)) ∨ (T.1 28 40 = 1 ∧ isSup (PM p m mo ot) q.1 q.2 none))) := by
  have hn1 := NB110 hn
  have hwf := hp.1
  have hT10 : nT p ≤ 10 := hwf.2.1
  have hN : nL p ≤ 10 := hwf.2.2.1
  have hext : ∀ e, e ∈ mext mo ot → e.1 < nT p ∧ e.2 < nT p := by
    intro e he
    unfold mext at he
    rcases List.mem_append.mp he with h | h
    · unfold ext1 at h
      cases mo with
      | none => cases h
      | some q =>
        dsimp only at h
        by_cases k1 : q.1 = 1
        · rw [if_pos k1] at h
          rw [List.mem_singleton.mp h]
          exact ⟨hmo.2.1, hmo.2.2.1⟩
        · rw [if_neg k1] at h; cases h
    · unfold ext2 at h
      cases ot with
      | none => cases h
      | some q =>
        rw [List.mem_singleton.mp h]
        exact ⟨hot.1, hot.2.1⟩
  unfold f_X9_seek
  simp only [bd]
  generalize hS0 : sL (sI (sI (sI S 28 31 m) 28 39 0) 28 40 0) 28 41 0 = S0
  have k0 : (∀ c k, ¬ (c = 28 ∧ (k = 31 ∨ k = 39 ∨ k = 40)) → S0.1 c k = S.1 c k) ∧ ∀ c k, ¬ (c = 28 ∧ k = 41) → S0.2 c k = S.2 c k := by
    rw [← hS0]
    refine ⟨fun c k h => ?_, fun c k h => ?_⟩
    · have x1 : ¬ (c = 28 ∧ k = 31) := by omega
      have x2 : ¬ (c = 28 ∧ k = 39) := by omega
      have x3 : ¬ (c = 28 ∧ k = 40) := by omega
      simp only [sI, sL, x1, x2, x3, if_false]
    · simp only [sI, sL, h, if_false]
  have f0 : S0.1 28 31 = m ∧ S0.1 28 39 = 0 ∧ S0.1 28 40 = 0 := by rw [← hS0]; simp [sI, sL]
  have hA0 : AskOk S0 p m mo ot := by
    refine ⟨hp.keep (fun c hc => by funext k; exact k0.1 c k (by omega)) (k0.1 28 18 (by omega)) (k0.1 28 2 (by omega)), f0.1, ?_, ?_⟩
    · unfold More at hmo ⊢
      rw [k0.1 28 32 (by omega), k0.1 28 33 (by omega), k0.1 28 34 (by omega)]; exact hmo
    · unfold Oth at hot ⊢
      rw [k0.1 28 35 (by omega), k0.1 28 36 (by omega)]; exact hot
  have hw0 : Want S0 (nT p) w := by
    unfold Want at hw ⊢
    rw [k0.1 28 37 (by omega), k0.1 28 38 (by omega)]; exact hw
  obtain ⟨r, T, a1, a2, a3, a4⟩ := first_m (n := n) (by omega) hA0
  rw [bo_some a1]
  rcases a4 with ⟨rfl, hno⟩ | ⟨rfl, E, hE, hQ⟩
  · rw [if_pos rfl]
    refine ⟨T, rfl, fun c k h1 h2 => by rw [a2]; exact k0.1 c k h1, fun c k h1 h2 h3 => by rw [a3 c h2]; exact k0.2 c k h1, Or.inl ⟨by rw [a2]; exact f0.2.1, fun ⟨v, hv⟩ => hno v ((PM_iff hwf).mp hv).1⟩⟩
  · rw [if_neg (by decide)]
    unfold f_X9_explore
    simp only [bd]
    rw [if_neg (by decide)]
    have ez : ((0 : Int32)).toNatClampNeg = 0 := by decide
    rw [ez]
    generalize hT1 : sI T 48 0 (-2000000001) = T1
    have e1 : ∀ c k, c ≠ 48 → T1.1 c k = S0.1 c k := fun c k h => by
      rw [← hT1]
      have : ¬ (c = 48 ∧ k = 0) := by omega
      simp only [sI, this, if_false, a2]
    have e2 : T1.2 = T.2 := by rw [← hT1]; rfl
    have hA1 : AskOk T1 p m mo ot := by
      obtain ⟨x1, x2, x3, x4⟩ := hA0
      refine ⟨x1.keep (fun c hc => by funext k; exact e1 c k (by omega)) (e1 28 18 (by omega)) (e1 28 2 (by omega)), (e1 28 31 (by omega)).trans x2, ?_, ?_⟩
      · unfold More at x3 ⊢
        rw [e1 28 32 (by omega), e1 28 33 (by omega), e1 28 34 (by omega)]; exact x3
      · unfold Oth at x4 ⊢
        rw [e1 28 35 (by omega), e1 28 36 (by omega)]; exact x4
    have hw1 : Want T1 (nT p) w := by
      unfold Want at hw0 ⊢
      rw [e1 28 37 (by omega), e1 28 38 (by omega)]; exact hw0
    have hE1 : MOKm W0 (nT p) E T1 0 := hE.congr (fun a b _ _ => by unfold mM; rw [e2])
    have g39 : T1.1 28 39 = 0 := (e1 28 39 (by omega)).trans f0.2.1
    have g40 : T1.1 28 40 = 0 := (e1 28 40 (by omega)).trans f0.2.2
    have hlen : unL p m mo ot (mM T1 0) ≤ 22 := by
      have h1 := unm_le (mM T1 0) (fun k => (clsM p m (mext mo ot)).getD k ((0, 0), (0, 0), none)) (clsM p m (mext mo ot)).length
      have h2 := clsM_len (p := p) (m := m) (ext := mext mo ot)
      have h3 := mext_len mo ot
      unfold unL
      omega
    have hD1 : ¬ DoneM w T1 := fun h => h.elim (fun q => q g40) (fun q => q.1 g39)
    obtain ⟨c, V, v1, ⟨v2, v3, v4, v5⟩, v6⟩ := node_m (n := n) (w := w) (P := PM p m mo ot) hn1 hext 22 0 E T1 (by omega) ⟨hA1, hw1, hE1, Or.inl ⟨g39, g40⟩, fun v hv ha => (PM_iff hwf).mpr ⟨(hQ v).mpr hv, ha⟩⟩ hlen (by rw [← hT1]; simp [sI]) hD1
    have hnc : n = ((n - c - 1) + 1) + c := by
      have : NB = 8 ^ 23 + 1000 := rfl
      have : 8 ^ (22 + 1) = 8 ^ 23 := rfl
      omega
    have hend : exB n n T1 (nI 0) = some ((), V) := by
      rcases v6 with ⟨h1, x, h2⟩ | ⟨h1, h2⟩
      · have := h2 ((n - c - 1) + 1)
        rw [← hnc] at this
        rw [this]
        exact ex_done hT10 (v2.want hw1) h1 _ x
      · have := h2 ((n - c - 1) + 1)
        rw [← hnc] at this
        rw [this]
        show f_X9_explore_10 n _ V (nI 0 + -1) = _
        unfold f_X9_explore_10
        rw [if_pos (by decide)]
    have hend2 : fixF (fun _ _ => none) (f_X9_explore_10 n) n T1 0 = some ((), V) := hend
    rw [bo_some hend2]
    refine ⟨V, rfl, fun c k h1 h2 => ?_, fun c k h1 h2 h3 => ?_, ?_⟩
    · rw [v2.1 c k (by omega) (by omega), e1 c k (by omega)]; exact k0.1 c k h1
    · rw [v2.2 c k h1 (by omega) h3, e2, a3 c h2]; exact k0.2 c k h1
    · have cov : ∀ v, PM p m mo ot v → CovM w V v := fun v hv => by
        obtain ⟨x1, x2⟩ := (PM_iff hwf).mp hv
        exact v5 v ((hQ v).mp x1) x2
      rcases v3 with ⟨h0, -⟩ | ⟨h1, h2⟩
      · left
        refine ⟨h0, fun ⟨v, hv⟩ => ?_⟩
        have := (cov v hv).1
        rw [h0] at this
        exact absurd this (by decide)
      · right
        cases w with
        | none => exact ⟨h1, h2.2, fun q hq => by cases hq⟩
        | some q =>
          rcases h2 with ⟨x1, x2, u, x3, x4⟩ | ⟨x1, x2⟩
          · refine ⟨h1, ⟨u, x3⟩, fun q' hq' => ?_⟩
            cases hq'
            refine Or.inl ⟨x1, fun v hv => ?_, u, x3, x4⟩
            rcases (cov v hv).2 with y | y
            · rw [x1] at y; exact absurd y (by decide)
            · exact y
          · obtain ⟨u, hu, -⟩ := x2 0
            refine ⟨h1, ⟨u, hu⟩, fun q' hq' => ?_⟩
            cases hq'
            exact Or.inr ⟨x1, x2⟩
