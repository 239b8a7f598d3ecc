/-! THE REFERENCE: a level is opened -/
theorem clMet_satG {F : Int} {N : Nat} {E : Ed} {M : Mx} (hM : Mat F N E M) (F0 : 0 < F) {c : Cl} (hw : c.1.1 < N ∧ c.1.2 < N ∧ c.2.1.1 < N ∧ c.2.1.2 < N ∧ ∀ q, c.2.2 = some q → q.1 < N ∧ q.2 < N) (h : clMet M c) {v : Nat → Int} (hv : Sat E v) : clSat c v := by
  obtain ⟨w1, w2, w3, w4, w5⟩ := hw
  rcases h with h | h | h | h | ⟨p, h, e1, e2⟩
  · left; have := hM.sat hv w1 w2 (by omega); omega
  · left; have := hM.sat hv w2 w1 (by omega); omega
  · right; left; have := hM.sat hv w3 w4 (by omega); omega
  · right; left; have := hM.sat hv w4 w3 (by omega); omega
  · right; right
    obtain ⟨p1, p2⟩ := w5 p h
    have := hM.sat hv p1 p2 (by omega)
    have := hM.sat hv p2 p1 (by omega)
    exact ⟨p, h, by omega⟩
theorem clMet_monoG {F : Int} {N : Nat} {G : Ed} {M K : Mx} (F0 : 0 < F) (hK : Mat F N G K) (hle : ∀ i j, i < N → j < N → K i j ≤ M i j) {c : Cl} (hw : c.1.1 < N ∧ c.1.2 < N ∧ c.2.1.1 < N ∧ c.2.1.2 < N ∧ ∀ q, c.2.2 = some q → q.1 < N ∧ q.2 < N) (h : clMet M c) : clMet K c := by
  obtain ⟨w1, w2, w3, w4, w5⟩ := hw
  rcases h with h | h | h | h | ⟨p, h, e1, e2⟩
  · left; have := hle _ _ w1 w2; omega
  · right; left; have := hle _ _ w2 w1; omega
  · right; right; left; have := hle _ _ w3 w4; omega
  · right; right; right; left; have := hle _ _ w4 w3; omega
  · right; right; right; right
    obtain ⟨p1, p2⟩ := w5 p h
    have a := hle _ _ p1 p2
    have b := hle _ _ p2 p1
    have := nn hK p1 p2 (by omega) (by omega)
    exact ⟨p, h, by omega, by omega⟩
theorem taken_metG {F : Int} {N : Nat} {E : Ed} {M : Mx} {c : Cl} {o : Nat} (F0 : 0 < F) (ho : o < 5) (hM : Mat F N (clAdd E c o) M) (hp : c.2.2 = none → o < 4) (hw : ∀ q, c.2.2 = some q → q.1 < N ∧ q.2 < N) : clMet M c := by
  match o, ho, hM, hp with
  | 0, _, hM, _ => have := hM.2.2.1 _ _ (-1) (Or.inr ⟨rfl, rfl, rfl⟩); left; omega
  | 1, _, hM, _ => have := hM.2.2.1 _ _ (-1) (Or.inr ⟨rfl, rfl, rfl⟩); right; left; omega
  | 2, _, hM, _ => have := hM.2.2.1 _ _ (-1) (Or.inr ⟨rfl, rfl, rfl⟩); right; right; left; omega
  | 3, _, hM, _ => have := hM.2.2.1 _ _ (-1) (Or.inr ⟨rfl, rfl, rfl⟩); right; right; right; left; omega
  | 4, _, hM, hp =>
    right; right; right; right
    unfold clAdd at hM
    cases hq : c.2.2 with
    | none => have := hp hq; omega
    | some p =>
      rw [hq] at hM
      obtain ⟨p1, p2⟩ := hw p hq
      obtain ⟨-, -, x1, x2⟩ := hM.2.2.1 p.2 p.1 0 (Or.inr ⟨rfl, rfl, rfl⟩)
      obtain ⟨-, -, y1, y2⟩ := hM.2.2.1 p.1 p.2 0 (Or.inl (Or.inr ⟨rfl, rfl, rfl⟩))
      have := nn hM p1 p2 y1 x1
      exact ⟨p, rfl, by omega, by omega⟩
/-- what has been found -/
def GoodM (w : Option (Nat × Nat)) (P : (Nat → Int) → Prop) (S : St) : Prop := (S.1 28 39 = 0 ∧ S.1 28 40 = 0) ∨ (S.1 28 39 = 1 ∧ match w with
  | none => S.1 28 40 = 0 ∧ ∃ v, P v
  | some q => (S.1 28 40 = 0 ∧ (S.2 28 41).toInt < FM ∧ ∃ v, P v ∧ v q.1 - v q.2 = (S.2 28 41).toInt) ∨ (S.1 28 40 = 1 ∧ ∀ b : Int, ∃ v, P v ∧ b ≤ v q.1 - v q.2))
def CovM (w : Option (Nat × Nat)) (S : St) (v : Nat → Int) : Prop := S.1 28 39 = 1 ∧ match w with
  | none => True
  | some q => S.1 28 40 = 1 ∨ v q.1 - v q.2 ≤ (S.2 28 41).toInt
def DoneM (w : Option (Nat × Nat)) (S : St) : Prop := S.1 28 40 ≠ 0 ∨ (S.1 28 39 ≠ 0 ∧ w = none)
def SameG (S T : St) : Prop := T.1 28 39 = S.1 28 39 ∧ T.1 28 40 = S.1 28 40 ∧ T.2 28 41 = S.2 28 41
theorem GoodM.same {w : Option (Nat × Nat)} {P : (Nat → Int) → Prop} {S T : St} (h : GoodM w P S) (e : SameG S T) : GoodM w P T := by
  unfold GoodM; rw [e.1, e.2.1, e.2.2]; exact h
theorem CovM.same {w : Option (Nat × Nat)} {S T : St} {v : Nat → Int} (h : CovM w S v) (e : SameG S T) : CovM w T v := by
  unfold CovM; rw [e.1, e.2.1, e.2.2]; exact h
theorem DoneM.same {w : Option (Nat × Nat)} {S T : St} (e : SameG S T) : DoneM w T ↔ DoneM w S := by
  unfold DoneM; rw [e.1, e.2.1]
/-- what a level and those above it leave alone -/
def NF (l : Nat) (S T : St) : Prop := (∀ c k, ¬ (c = 28 ∧ (k = 39 ∨ k = 40)) → ¬ (45 ≤ c ∧ c ≤ 48 ∧ l ≤ k) → T.1 c k = S.1 c k) ∧ (∀ c k, ¬ (c = 28 ∧ k = 41) → ¬ (c = 43 ∧ 100 * (l + 1) ≤ k) → c ≠ 44 → T.2 c k = S.2 c k)
theorem NF.rf {l : Nat} {S : St} : NF l S S := ⟨fun _ _ _ _ => rfl, fun _ _ _ _ _ => rfl⟩
theorem NF.trans {l : Nat} {S T U : St} (h : NF l S T) (g : NF l T U) : NF l S U := ⟨fun c k a b => (g.1 c k a b).trans (h.1 c k a b), fun c k a b d => (g.2 c k a b d).trans (h.2 c k a b d)⟩
theorem NF.up {l : Nat} {S T : St} (h : NF (l + 1) S T) : NF l S T := ⟨fun c k a b => h.1 c k a (by omega), fun c k a b d => h.2 c k a (by omega) d⟩
theorem NF.mM {l j : Nat} {S T : St} (h : NF l S T) (hj : j ≤ l) {a b : Nat} (ha : a < 10) (hb : b < 10) : mM T j a b = mM S j a b := by
  have := h.2 43 (100 * j + 10 * a + b) (by omega) (by omega) (by decide)
  show (T.2 43 (100 * j + 10 * a + b)).toInt = (S.2 43 (100 * j + 10 * a + b)).toInt
  rw [this]
theorem NF.ask {l : Nat} {S T : St} (h : NF l S T) {p : Pb} {m : Int32} {mo : Option (Nat × (Nat × Nat))} {ot : Option (Nat × Nat)} (g : AskOk S p m mo ot) : AskOk T p m mo ot := by
  obtain ⟨g1, g2, g3, g4⟩ := g
  have f : ∀ k, k ≠ 39 → k ≠ 40 → T.1 28 k = S.1 28 k := fun k h1 h2 => h.1 28 k (by omega) (by omega)
  refine ⟨g1.keep (fun c hc => by funext k; exact h.1 c k (by omega) (by omega)) (f 18 (by decide) (by decide)) (f 2 (by decide) (by decide)), (f 31 (by decide) (by decide)).trans g2, ?_, ?_⟩
  · unfold More at g3 ⊢
    rw [f 32 (by decide) (by decide), f 33 (by decide) (by decide), f 34 (by decide) (by decide)]
    exact g3
  · unfold Oth at g4 ⊢
    rw [f 35 (by decide) (by decide), f 36 (by decide) (by decide)]
    exact g4
theorem NF.want {l : Nat} {S T : St} (h : NF l S T) {N : Nat} {w : Option (Nat × Nat)} (g : Want S N w) : Want T N w := by
  have f : ∀ k, k ≠ 39 → k ≠ 40 → T.1 28 k = S.1 28 k := fun k h1 h2 => h.1 28 k (by omega) (by omega)
  unfold Want at g ⊢
  rw [f 37 (by decide) (by decide), f 38 (by decide) (by decide)]
  exact g
theorem MOKm.congr {N : Nat} {E : Ed} {S T : St} {l j : Nat} (h : MOKm W0 N E S l) (e : ∀ a b, a < N → b < N → mM T j a b = mM S l a b) : MOKm W0 N E T j :=
  ⟨h.1.congr e, fun i k hi hk => by rw [e i k hi hk]; exact h.2.1 i k hi hk, h.2.2⟩
theorem sought_m {n l : Nat} {S : St} {N : Nat} {q : Nat × Nat} (hN : N ≤ 10) (hl : l < 64) (hw : Want S N (some q)) : f_X9_soughtBy n S (nI l) = some (S.2 43 (100 * l + 10 * q.1 + q.2), S) := by
  obtain ⟨q1, q2, q3, q4⟩ := hw
  unfold f_X9_soughtBy
  rw [q3, q4, ixb, if_neg (nI_bad (by omega) (by omega)), nI_c (by omega)]
/-- clauses look at equalities alone -/
theorem clSat_pat {N : Nat} {c : Cl} (hw : c.1.1 < N ∧ c.1.2 < N ∧ c.2.1.1 < N ∧ c.2.1.2 < N ∧ ∀ q, c.2.2 = some q → q.1 < N ∧ q.2 < N) {v u : Nat → Int} (h : ∀ x y, x < N → y < N → (v x = v y ↔ u x = u y)) (hc : clSat c v) : clSat c u := by
  obtain ⟨w1, w2, w3, w4, w5⟩ := hw
  rcases hc with a | a | ⟨p, a, b⟩
  · exact Or.inl (fun q => a ((h _ _ w1 w2).mpr q))
  · exact Or.inr (Or.inl (fun q => a ((h _ _ w3 w4).mpr q)))
  · obtain ⟨p1, p2⟩ := w5 p a
    exact Or.inr (Or.inr ⟨p, a, (h _ _ p1 p2).mp b⟩)
theorem fill_pat {N : Nat} {M : Mx} {t : Nat} (hN : ∀ x, x < N → -20000000000 ≤ lowN M x N ∧ lowN M x N ≤ 0) (hM : ∀ x, x < N → M x t < FM → M x t ≤ 20000000000) {W : Int} (hW : WIDE ≤ W) {x y : Nat} (hx : x < N) (hy : y < N) : (fillW FM N M t WIDE x = fillW FM N M t WIDE y ↔ fillW FM N M t W x = fillW FM N M t W y) := by
  have Wv : WIDE = 1125899906842624 := rfl
  have lx := hN x hx
  have ly := hN y hy
  have e : ∀ V, WIDE ≤ V → ∀ z, z < N → fillW FM N M t V z = if M z t < FM then M z t else lowN M z N + V := by
    intro V hV z hz
    have lz := hN z hz
    have mz := hM z hz
    unfold fillW
    by_cases h : M z t < FM
    · have := mz h
      rw [if_pos ⟨h, by omega⟩, if_pos h]
    · rw [if_neg (fun q => h q.1), if_neg h]
  rw [e WIDE (Int.le_refl _) x hx, e WIDE (Int.le_refl _) y hy, e W hW x hx, e W hW y hy]
  have mx := hM x hx
  have my := hM y hy
  by_cases h1 : M x t < FM
  · have := mx h1
    by_cases h2 : M y t < FM
    · rw [if_pos h1, if_pos h2, if_pos h1, if_pos h2]
    · rw [if_pos h1, if_neg h2, if_pos h1, if_neg h2]; omega
  · by_cases h2 : M y t < FM
    · have := my h2
      rw [if_neg h1, if_pos h2, if_neg h1, if_pos h2]; omega
    · rw [if_neg h1, if_neg h2, if_neg h1, if_neg h2]; omega
