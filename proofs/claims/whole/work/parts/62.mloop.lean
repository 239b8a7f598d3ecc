/-! THE REFERENCE: the whole search, level by level -/
abbrev exB (n : Nat) (d : Nat) : St → Int32 → Option (Unit × St) := fixF (fun _ _ => none) (f_X9_explore_10 n) d
theorem done_m {n N : Nat} {S : St} {w : Option (Nat × Nat)} (hN : N ≤ 10) (hw : Want S N w) : ∃ r, f_X9_isDone n S = some (r, S) ∧ ((r = 1 ∧ DoneM w S) ∨ (r = 0 ∧ ¬ DoneM w S)) := by
  unfold f_X9_isDone f_X9_isDone_23
  by_cases h1 : S.1 28 40 = 0
  · rw [if_pos h1]
    by_cases h2 : S.1 28 39 = 0
    · rw [if_pos h2]
      exact ⟨0, rfl, Or.inr ⟨rfl, fun h => h.elim (fun q => q h1) (fun q => q.1 h2)⟩⟩
    · rw [if_neg h2]
      cases w with
      | none => rw [hw.2, if_pos rfl]; exact ⟨1, rfl, Or.inl ⟨rfl, Or.inr ⟨h2, rfl⟩⟩⟩
      | some q =>
        obtain ⟨q1, q2, q3, q4⟩ := hw
        rw [q4, if_neg (nI_none (by omega))]
        exact ⟨0, rfl, Or.inr ⟨rfl, fun h => h.elim (fun q => q h1) (fun q => by cases q.2)⟩⟩
  · rw [if_neg h1]
    exact ⟨1, rfl, Or.inl ⟨rfl, Or.inl h1⟩⟩
theorem ex_done {n N : Nat} {S : St} {w : Option (Nat × Nat)} (hN : N ≤ 10) (hw : Want S N w) (hD : DoneM w S) (k : St → Int32 → Option (Unit × St)) (x : Int32) : f_X9_explore_10 n k S x = some ((), S) := by
  unfold f_X9_explore_10
  by_cases hx : x < 0
  · rw [if_pos hx]
  · rw [if_neg hx]
    obtain ⟨r, r1, r2⟩ := done_m (n := n) hN hw
    rcases r2 with ⟨rfl, -⟩ | ⟨-, h⟩
    · rw [bo_some r1, if_neg (by decide)]
    · exact absurd hD h
theorem ex_open {n N l : Nat} {S T : St} {w : Option (Nat × Nat)} {r : Int32} (hN : N ≤ 10) (hl : l < 64) (hw : Want S N w) (hD : ¬ DoneM w S) (hs : S.1 48 l = -2000000001) (ho : f_X9_opens n S (nI l) = some (r, T)) (k : St → Int32 → Option (Unit × St)) : f_X9_explore_10 n k S (nI l) = k (sI T 48 l (if r = 0 then 5 else 0)) (nI l) := by
  unfold f_X9_explore_10 f_X9_explore_50
  rw [if_neg (nI_pos (by omega))]
  obtain ⟨r', r1, r2⟩ := done_m (n := n) hN hw
  rcases r2 with ⟨-, h⟩ | ⟨rfl, -⟩
  · exact absurd h hD
  rw [bo_some r1, if_pos rfl, if_neg (nI_bad (by omega) (by omega)), nI_c (by omega), hs, if_pos rfl, bo_some ho]
  simp only [bd]
  by_cases h : r = 0
  · rw [if_pos h, if_pos h, if_neg (fun h => h.elim (nI_pos (by omega)) (by omega))]
  · rw [if_neg h, if_neg h, if_neg (fun h => h.elim (nI_pos (by omega)) (by omega))]
theorem ex_pop {n N l : Nat} {S : St} {w : Option (Nat × Nat)} (hN : N ≤ 10) (hl : l < 64) (hw : Want S N w) (hD : ¬ DoneM w S) (hs : S.1 48 l = 5) (k : St → Int32 → Option (Unit × St)) : f_X9_explore_10 n k S (nI l) = k S (nI l + (-1)) := by
  unfold f_X9_explore_10
  rw [if_neg (nI_pos (by omega))]
  obtain ⟨r', r1, r2⟩ := done_m (n := n) hN hw
  rcases r2 with ⟨-, h⟩ | ⟨rfl, -⟩
  · exact absurd h hD
  rw [bo_some r1, if_pos rfl, if_neg (nI_bad (by omega) (by omega)), nI_c (by omega), hs, if_neg (by decide), if_neg (fun h => h.elim (nI_pos (by omega)) (by omega)), if_neg (by decide)]
  simp only [bd]
theorem ex_side {n N l o : Nat} {S T : St} {w : Option (Nat × Nat)} {r : Int32} (hN : N ≤ 10) (hl : l + 1 < 64) (hw : Want S N w) (hD : ¬ DoneM w S) (ho : o < 5) (hs : S.1 48 l = nI o) (ht : f_X9_takesSide n S (nI l) (nI o) = some (r, T)) (hT : T.1 = S.1) (k : St → Int32 → Option (Unit × St)) : f_X9_explore_10 n k S (nI l) = if r = 0 then k (sI T 48 l (nI (o + 1))) (nI l) else k (sI (sI T 48 l (nI (o + 1))) 48 (l + 1) (-2000000001)) (nI (l + 1)) := by
  unfold f_X9_explore_10 f_X9_explore_107
  rw [if_neg (nI_pos (by omega))]
  obtain ⟨r', r1, r2⟩ := done_m (n := n) hN hw
  rcases r2 with ⟨-, h⟩ | ⟨rfl, -⟩
  · exact absurd h hD
  rw [bo_some r1, if_pos rfl, if_neg (nI_bad (by omega) (by omega)), nI_c (by omega), hs, if_neg (nI_none (by omega)), if_neg (fun h => h.elim (nI_pos (by omega)) (by omega)), if_pos (by rw [show (4 : Int32) = nI 4 from rfl, nI_leI (by omega) (by omega)]; omega), if_neg (fun h => h.elim (nI_pos (by omega)) (by omega)), bo_some ht]
  simp only [bd]
  rw [if_neg (fun h => h.elim (nI_pos (by omega)) (by omega)), if_neg (fun h => h.elim (nI_pos (by omega)) (by omega)), hT, hs, nI_1, nI_1, if_neg (nI_bad (i := l + 1) (by omega) (by omega)), nI_c (i := l + 1) (by omega)]
/-- what holds where a level begins -/
def NPre (p : Pb) (m : Int32) (mo : Option (Nat × (Nat × Nat))) (ot w : Option (Nat × Nat)) (P : (Nat → Int) → Prop) (l : Nat) (E : Ed) (S : St) : Prop :=
  AskOk S p m mo ot ∧ Want S (nT p) w ∧ MOKm W0 (nT p) E S l ∧ GoodM w P S ∧ (∀ v, Sat E v → (∀ c, c ∈ clsM p m (mext mo ot) → clSat c v) → P v)
noncomputable def unL (p : Pb) (m : Int32) (mo : Option (Nat × (Nat × Nat))) (ot : Option (Nat × Nat)) (M : Mx) : Nat := unm M (fun k => (clsM p m (mext mo ot)).getD k ((0, 0), (0, 0), none)) (clsM p m (mext mo ot)).length
theorem unL_lt {p : Pb} (hwf : PbWf p) {m : Int32} {mo : Option (Nat × (Nat × Nat))} {ot : Option (Nat × Nat)} (hext : ∀ e, e ∈ mext mo ot → e.1 < nT p ∧ e.2 < nT p) {M K : Mx} {G : Ed} (hK : Mat FM (nT p) G K) (hle : ∀ i j, i < nT p → j < nT p → K i j ≤ M i j) {c : Cl} (hc : c ∈ clsM p m (mext mo ot)) (h1 : ¬ clMet M c) (h2 : clMet K c) : unL p m mo ot K < unL p m mo ot M := by
  refine unm_lt _ (fun k hk h => ?_) ?_
  · have hm : (clsM p m (mext mo ot)).getD k ((0, 0), (0, 0), none) ∈ clsM p m (mext mo ot) := by
      rw [List.getD_eq_getElem?_getD, List.getElem?_eq_getElem hk]; exact List.getElem_mem hk
    exact clMet_monoG (by decide) hK hle (clsM_wf hwf hext hm) h
  · obtain ⟨k, hk, e⟩ := List.mem_iff_getElem.mp hc
    have e2 : (clsM p m (mext mo ot)).getD k ((0, 0), (0, 0), none) = c := by rw [List.getD_eq_getElem?_getD, List.getElem?_eq_getElem hk]; exact e
    exact ⟨k, hk, by rw [e2]; exact h1, by rw [e2]; exact h2⟩
theorem unL_pos {p : Pb} {m : Int32} {mo : Option (Nat × (Nat × Nat))} {ot : Option (Nat × Nat)} {M : Mx} {c : Cl} (hc : c ∈ clsM p m (mext mo ot)) (h1 : ¬ clMet M c) : 0 < unL p m mo ot M := by
  refine unm_pos _ ?_
  obtain ⟨k, hk, e⟩ := List.mem_iff_getElem.mp hc
  have e2 : (clsM p m (mext mo ot)).getD k ((0, 0), (0, 0), none) = c := by rw [List.getD_eq_getElem?_getD, List.getElem?_eq_getElem hk]; exact e
  exact ⟨k, hk, by rw [e2]; exact h1⟩
/-- where the walk stands behind a level: at its end, or a level lower -/
def Leaves (n : Nat) (w : Option (Nat × Nat)) (l c : Nat) (S T : St) : Prop := (DoneM w T ∧ ∃ x, ∀ d, exB n (d + c) S (nI l) = exB n d T x) ∨ (¬ DoneM w T ∧ ∀ d, exB n (d + c) S (nI l) = exB n d T (nI l + (-1)))
def NPost (p : Pb) (m : Int32) (mo : Option (Nat × (Nat × Nat))) (ot w : Option (Nat × Nat)) (P : (Nat → Int) → Prop) (l : Nat) (E : Ed) (S T : St) : Prop :=
  NF l S T ∧ GoodM w P T ∧ (∀ v, CovM w S v → CovM w T v) ∧ ∀ v, Sat E v → (∀ c, c ∈ clsM p m (mext mo ot) → clSat c v) → CovM w T v
theorem sides_m {n : Nat} {p : Pb} {m : Int32} {mo : Option (Nat × (Nat × Nat))} {ot w : Option (Nat × Nat)} {P : (Nat → Int) → Prop} (hn : 110 ≤ n) (hext : ∀ e, e ∈ mext mo ot → e.1 < nT p ∧ e.2 < nT p) {l B : Nat} {E : Ed} {c : Cl} {M : Mx} (hl : l + 1 < 64) (hc : c ∈ clsM p m (mext mo ot)) (hm : ¬ clMet M c)
    (ih : ∀ (G : Ed) (S : St), NPre p m mo ot w P (l + 1) G S → unL p m mo ot (mM S (l + 1)) < unL p m mo ot M → S.1 48 (l + 1) = -2000000001 → ¬ DoneM w S → ∃ c' T, c' ≤ B ∧ NPost p m mo ot w P (l + 1) G S T ∧ Leaves n w (l + 1) c' S T) :
    ∀ (j o : Nat) (S : St), o + j = 5 → NPre p m mo ot w P l E S → (∀ a b, a < nT p → b < nT p → mM S l a b = M a b) → S.1 48 l = nI o → Spl p S l c → ¬ DoneM w S → (∀ v, Sat E v → (∀ c, c ∈ clsM p m (mext mo ot) → clSat c v) → (∃ o1, o1 < o ∧ clWay c o1 v) → CovM w S v) → ∃ c' T, c' ≤ j * (B + 1) + 1 ∧ NPost p m mo ot w P l E S T ∧ Leaves n w l c' S T := by
  have F0 : (0 : Int) < FM := by decide
  intro j
  induction j with
  | zero =>
    intro o S ho hS hM hs hsp hD hcov
    obtain ⟨hA, hW, hE, hG, hP⟩ := id hS
    have hwf := hA.1.1
    refine ⟨1, S, by omega, ⟨NF.rf, hG, fun v h => h, fun v hv ha => ?_⟩, Or.inr ⟨hD, fun d => ?_⟩⟩
    · obtain ⟨o1, h1, h2⟩ := clSat_way (ha c hc)
      exact hcov v hv ha ⟨o1, by omega, h2⟩
    · exact ex_pop hwf.2.1 (by omega) hW hD (by rw [hs]; have : o = 5 := by omega
                                                rw [this]; rfl) (exB n d)
  | succ j ihj =>
    intro o S ho hS hM hs hsp hD hcov
    obtain ⟨hA, hW, hE, hG, hP⟩ := id hS
    have hwf := hA.1.1
    have hT10 := hwf.2.1
    obtain ⟨r, T, t1, ⟨f1, f2, f3⟩, t3⟩ := side_m (n := n) hn hl hA.1 hsp hE (o := o) (by omega)
    have stp := fun d => ex_side (r := r) hT10 hl hW hD (show o < 5 by omega) hs t1 f1 (exB n d)
    -- the state with the side counted
    have nfT : ∀ (U : St), U = sI T 48 l (nI (o + 1)) → NF l S U ∧ SameG S U ∧ (∀ a b, a < nT p → b < nT p → mM U l a b = M a b) ∧ U.1 48 l = nI (o + 1) ∧ Spl p U l c := by
      intro U hU
      subst hU
      refine ⟨⟨fun d k h1 h2 => ?_, fun d k h1 h2 h3 => ?_⟩, ⟨by simp [sI, f1], by simp [sI, f1], ?_⟩, fun a b ha hb => ?_, by simp [sI], ?_⟩
      · have : ¬ (d = 48 ∧ k = l) := by omega
        simp only [sI, this, if_false, f1]
      · show T.2 d k = S.2 d k
        by_cases e : d = 43
        · subst e; exact f3 k (by omega)
        · rw [f2 d e]
      · show T.2 28 41 = S.2 28 41
        rw [f2 28 (by decide)]
      · rw [← hM a b ha hb]
        show (T.2 43 (100 * l + 10 * a + b)).toInt = (S.2 43 (100 * l + 10 * a + b)).toInt
        rw [f3 _ (by omega)]
      · unfold Spl at hsp ⊢
        have e45 : (sI T 48 l (nI (o + 1))).1 45 l = S.1 45 l := by simp [sI, f1]
        have e46 : (sI T 48 l (nI (o + 1))).1 46 l = S.1 46 l := by simp [sI, f1]
        have e47 : (sI T 48 l (nI (o + 1))).1 47 l = S.1 47 l := by simp [sI, f1]
        rw [e45, e46, e47]; exact hsp
    obtain ⟨n1, n2, n3, n4, n5⟩ := nfT _ rfl
    rcases t3 with ⟨rfl, hno⟩ | ⟨rfl, t4, t5, t6⟩
    · -- this side does not go
      obtain ⟨c', T', a1, a2, a3⟩ := ihj (o + 1) (sI T 48 l (nI (o + 1))) (by omega) ⟨n1.ask hA, n1.want hW, hE.congr (fun a b ha hb => by rw [n3 a b ha hb, hM a b ha hb]), hG.same n2, hP⟩ n3 n4 n5 (fun h => hD ((DoneM.same n2).mp h)) (fun v hv ha ⟨o1, h1, h2⟩ => by
        by_cases e : o1 = o
        · subst e; exact absurd h2 (hno v hv)
        · exact (hcov v hv ha ⟨o1, by omega, h2⟩).same n2)
      refine ⟨c' + 1, T', by rw [Nat.succ_mul]; omega, ⟨n1.trans a2.1, a2.2.1, fun v h => a2.2.2.1 v (h.same n2), a2.2.2.2⟩, ?_⟩
      have e : ∀ d, exB n (d + (c' + 1)) S (nI l) = exB n (d + c') (sI T 48 l (nI (o + 1))) (nI l) := fun d => by
        show f_X9_explore_10 n (exB n (d + c')) S (nI l) = _
        rw [stp (d + c'), if_pos rfl]
      rcases a3 with ⟨h1, x, h2⟩ | ⟨h1, h2⟩
      · exact Or.inl ⟨h1, x, fun d => by rw [e d, h2 d]⟩
      · exact Or.inr ⟨h1, fun d => by rw [e d, h2 d]⟩
    · -- this side goes: the next level
      obtain ⟨U, hU⟩ : ∃ U, U = sI (sI T 48 l (nI (o + 1))) 48 (l + 1) (-2000000001) := ⟨_, rfl⟩
      have nU : NF l S U := by
        refine n1.trans ⟨fun d k h1 h2 => ?_, fun d k h1 h2 h3 => by rw [hU]; rfl⟩
        have : ¬ (d = 48 ∧ k = l + 1) := by omega
        rw [hU]; simp only [sI, this, if_false]
      have gU : SameG S U := ⟨by rw [hU]; simp [sI, f1], by rw [hU]; simp [sI, f1], by rw [hU]; exact n2.2.2⟩
      have mU : ∀ i a b, mM U i a b = mM T i a b := fun i a b => by rw [hU]; rfl
      have hEU : MOKm W0 (nT p) (clAdd E c o) U (l + 1) := t4.congr (fun a b _ _ => mU _ a b)
      have hmet : clMet (mM U (l + 1)) c := taken_metG F0 (by omega) hEU.1 t5 (clsM_wf hwf hext hc).2.2.2.2
      have hun : unL p m mo ot (mM U (l + 1)) < unL p m mo ot M := unL_lt hwf hext hEU.1 (fun a b ha hb => by rw [mU, ← hM a b ha hb]; exact t6 a b ha hb) hc hm hmet
      have hDU : ¬ DoneM w U := fun h => hD ((DoneM.same gU).mp h)
      obtain ⟨c1, V, v1, ⟨v2, v3, v4, v5⟩, v6⟩ := ih (clAdd E c o) U ⟨nU.ask hA, nU.want hW, hEU, hG.same gU, fun v hv ha => hP v ((sat_clAdd t5).mp hv).1 ha⟩ hun (by rw [hU]; simp [sI]) hDU
      have e : ∀ d, exB n (d + 1) S (nI l) = exB n d U (nI (l + 1)) := fun d => by
        show f_X9_explore_10 n (exB n d) S (nI l) = _
        rw [stp d, if_neg (by decide), hU]
      have nV : NF l S V := nU.trans v2.up
      have cv : ∀ v, Sat E v → (∀ c, c ∈ clsM p m (mext mo ot) → clSat c v) → (∃ o1, o1 < o + 1 ∧ clWay c o1 v) → CovM w V v := fun v hv ha ⟨o1, h1, h2⟩ => by
        by_cases e : o1 = o
        · subst e; exact v5 v ((sat_clAdd t5).mpr ⟨hv, h2⟩) ha
        · exact v4 v ((hcov v hv ha ⟨o1, by omega, h2⟩).same gU)
      rcases v6 with ⟨h1, x, h2⟩ | ⟨h1, h2⟩
      · -- all is done
        refine ⟨c1 + 1, V, by rw [Nat.succ_mul]; omega, ⟨nV, v3, fun v h => v4 v (h.same gU), fun v hv ha => ?_⟩, Or.inl ⟨h1, x, fun d => by rw [← Nat.add_assoc, e (d + c1), h2 d]⟩⟩
        -- what is done covers all
        obtain ⟨g1, g2⟩ : V.1 28 39 = 1 ∧ (match w with | none => True | some _ => V.1 28 40 = 1) := by
          rcases v3 with ⟨x1, x2⟩ | ⟨x1, x2⟩
          · exact absurd h1 (fun h => h.elim (fun q => q x2) (fun q => q.1 x1))
          · refine ⟨x1, ?_⟩
            cases w with
            | none => trivial
            | some q =>
              rcases x2 with ⟨x3, -⟩ | ⟨x3, -⟩
              · exact absurd h1 (fun h => h.elim (fun q => q x3) (fun q => by cases q.2))
              · exact x3
        refine ⟨g1, ?_⟩
        cases w with
        | none => trivial
        | some q => exact Or.inl g2
      · have eV : V.1 48 l = nI (o + 1) := by
          rw [v2.1 48 l (by omega) (by omega), hU]
          have : ¬ (l = l + 1) := by omega
          simp [sI]
        have sV : Spl p V l c := by
          unfold Spl at n5 ⊢
          have q : ∀ d, 45 ≤ d → d ≤ 47 → V.1 d l = (sI T 48 l (nI (o + 1))).1 d l := fun d h1 h2 => by
            rw [v2.1 d l (by omega) (by omega), hU]
            have : ¬ (d = 48 ∧ l = l + 1) := by omega
            simp only [sI, this, if_false]
          rw [q 45 (by omega) (by omega), q 46 (by omega) (by omega), q 47 (by omega) (by omega)]
          exact n5
        have mV : ∀ a b, a < nT p → b < nT p → mM V l a b = M a b := fun a b ha hb => by
          rw [nV.mM (Nat.le_refl _) (by omega) (by omega), hM a b ha hb]
        obtain ⟨c', T', a1, a2, a3⟩ := ihj (o + 1) V (by omega) ⟨nV.ask hA, nV.want hW, hE.congr (fun a b ha hb => by rw [mV a b ha hb, hM a b ha hb]), v3, hP⟩ mV eV sV h1 cv
        have e2 : ∀ d, exB n (d + (c' + c1 + 1)) S (nI l) = exB n (d + c') V (nI l) := fun d => by
          rw [show d + (c' + c1 + 1) = (d + c') + c1 + 1 by omega, e, h2 (d + c'), pk_m1]
        refine ⟨c' + c1 + 1, T', by rw [Nat.succ_mul]; omega, ⟨nV.trans a2.1, a2.2.1, fun v h => a2.2.2.1 v (v4 v (h.same gU)), a2.2.2.2⟩, ?_⟩
        rcases a3 with ⟨h1, x, h2⟩ | ⟨h1, h2⟩
        · exact Or.inl ⟨h1, x, fun d => by rw [e2 d, h2 d]⟩
        · exact Or.inr ⟨h1, fun d => by rw [e2 d, h2 d]⟩
theorem node_m {n : Nat} {p : Pb} {m : Int32} {mo : Option (Nat × (Nat × Nat))} {ot w : Option (Nat × Nat)} {P : (Nat → Int) → Prop} (hn : 110 ≤ n) (hext : ∀ e, e ∈ mext mo ot → e.1 < nT p ∧ e.2 < nT p) : ∀ (u l : Nat) (E : Ed) (S : St), l + u ≤ 22 → NPre p m mo ot w P l E S → unL p m mo ot (mM S l) ≤ u → S.1 48 l = -2000000001 → ¬ DoneM w S → ∃ c T, c ≤ 8 ^ (u + 1) ∧ NPost p m mo ot w P l E S T ∧ Leaves n w l c S T := by
  intro u
  induction u with
  | zero =>
    intro l E S hlu hS hu hs hD
    obtain ⟨hA, hW, hE, hG, hP⟩ := id hS
    have hT10 := hA.1.1.2.1
    obtain ⟨r, T, o1, o2, o3, o4, o5, o6⟩ := opens_m (n := n) hn (by omega) hA hext hW hE hG hD hP
    rcases o6 with ⟨rfl, hc⟩ | ⟨-, -, c, hc, hm, -⟩
    · have g : SameG T (sI T 48 l 5) := ⟨by simp [sI], by simp [sI], rfl⟩
      have nf : NF l S (sI T 48 l 5) := o2.trans ⟨fun d k h1 h2 => by
        have : ¬ (d = 48 ∧ k = l) := by omega
        simp only [sI, this, if_false], fun d k _ _ _ => rfl⟩
      have e : ∀ d, exB n (d + 1) S (nI l) = exB n d (sI T 48 l 5) (nI l) := fun d => by
        show f_X9_explore_10 n (exB n d) S (nI l) = _
        rw [ex_open hT10 (by omega) hW hD hs o1, if_pos rfl]
      by_cases hDT : DoneM w (sI T 48 l 5)
      · exact ⟨1, _, by decide, ⟨nf, o4.same g, fun v h => (o5 v h).same g, fun v hv _ => (hc v hv).same g⟩, Or.inl ⟨hDT, nI l, e⟩⟩
      · refine ⟨2, _, by decide, ⟨nf, o4.same g, fun v h => (o5 v h).same g, fun v hv _ => (hc v hv).same g⟩, Or.inr ⟨hDT, fun d => ?_⟩⟩
        rw [show d + 2 = (d + 1) + 1 by omega, e (d + 1)]
        exact ex_pop hT10 (by omega) (nf.want hW) hDT (by simp [sI]) (exB n d)
    · have := unL_pos hc hm; omega
  | succ u ih =>
    intro l E S hlu hS hu hs hD
    obtain ⟨hA, hW, hE, hG, hP⟩ := id hS
    have hT10 := hA.1.1.2.1
    have p8 : 8 ≤ 8 ^ (u + 1) := by have := Nat.one_le_pow u 8 (by omega); rw [Nat.pow_succ]; omega
    have p9 : 8 ^ (u + 1 + 1) = 8 * 8 ^ (u + 1) := by rw [Nat.pow_succ 8 (u + 1)]; omega
    obtain ⟨r, T, o1, o2, o3, o4, o5, o6⟩ := opens_m (n := n) hn (by omega) hA hext hW hE hG hD hP
    rcases o6 with ⟨rfl, hc⟩ | ⟨rfl, sG, c, hc, hm, hsp⟩
    · have g : SameG T (sI T 48 l 5) := ⟨by simp [sI], by simp [sI], rfl⟩
      have nf : NF l S (sI T 48 l 5) := o2.trans ⟨fun d k h1 h2 => by
        have : ¬ (d = 48 ∧ k = l) := by omega
        simp only [sI, this, if_false], fun d k _ _ _ => rfl⟩
      have e : ∀ d, exB n (d + 1) S (nI l) = exB n d (sI T 48 l 5) (nI l) := fun d => by
        show f_X9_explore_10 n (exB n d) S (nI l) = _
        rw [ex_open hT10 (by omega) hW hD hs o1, if_pos rfl]
      by_cases hDT : DoneM w (sI T 48 l 5)
      · exact ⟨1, _, by omega, ⟨nf, o4.same g, fun v h => (o5 v h).same g, fun v hv _ => (hc v hv).same g⟩, Or.inl ⟨hDT, nI l, e⟩⟩
      · refine ⟨2, _, by omega, ⟨nf, o4.same g, fun v h => (o5 v h).same g, fun v hv _ => (hc v hv).same g⟩, Or.inr ⟨hDT, fun d => ?_⟩⟩
        rw [show d + 2 = (d + 1) + 1 by omega, e (d + 1)]
        exact ex_pop hT10 (by omega) (nf.want hW) hDT (by simp [sI]) (exB n d)
    · have g : SameG S (sI T 48 l 0) := ⟨by simp [sI, sG.1], by simp [sI, sG.2.1], sG.2.2⟩
      have nf : NF l S (sI T 48 l 0) := o2.trans ⟨fun d k h1 h2 => by
        have : ¬ (d = 48 ∧ k = l) := by omega
        simp only [sI, this, if_false], fun d k _ _ _ => rfl⟩
      have e : ∀ d, exB n (d + 1) S (nI l) = exB n d (sI T 48 l 0) (nI l) := fun d => by
        show f_X9_explore_10 n (exB n d) S (nI l) = _
        rw [ex_open hT10 (by omega) hW hD hs o1, if_neg (by decide)]
      have mE : ∀ a b, a < nT p → b < nT p → mM (sI T 48 l 0) l a b = mM S l a b := fun a b ha hb => nf.mM (Nat.le_refl _) (by omega) (by omega)
      have hsp2 : Spl p (sI T 48 l 0) l c := by
        unfold Spl at hsp ⊢
        have q : ∀ d, d ≤ 47 → (sI T 48 l 0).1 d l = T.1 d l := fun d h => by
          have : ¬ d = 48 := by omega
          simp only [sI, this, false_and, if_false]
        rw [q 45 (by omega), q 46 (by omega), q 47 (by omega)]
        exact hsp
      obtain ⟨c', V, a1, a2, a3⟩ := sides_m (n := n) (B := 8 ^ (u + 1)) hn hext (show l + 1 < 64 by omega) hc hm (fun G U hU h1 h2 h3 => ih (l + 1) G U (by omega) hU (by omega) h2 h3) 5 0 (sI T 48 l 0) rfl ⟨nf.ask hA, nf.want hW, hE.congr mE, hG.same g, hP⟩ mE (by simp [sI, nI_0]) hsp2 (fun h => hD ((DoneM.same g).mp h)) (fun v _ _ ⟨o1, h, _⟩ => absurd h (Nat.not_lt_zero _))
      refine ⟨c' + 1, V, by omega, ⟨nf.trans a2.1, a2.2.1, fun v h => a2.2.2.1 v (h.same g), a2.2.2.2⟩, ?_⟩
      rcases a3 with ⟨h1, x, h2⟩ | ⟨h1, h2⟩
      · exact Or.inl ⟨h1, x, fun d => by rw [← Nat.add_assoc, e, h2 d]⟩
      · exact Or.inr ⟨h1, fun d => by rw [← Nat.add_assoc, e, h2 d]⟩
