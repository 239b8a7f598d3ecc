/-! THE CLASS'S EXCHANGE: measuring -/
theorem walk_sub {E G : Ed} {N : Nat} (h : ∀ a b w, E a b w → a < N → G a b w ∧ b < N) : ∀ (r : List (Nat × Int)) (i : Nat), i < N → pw E i r → pw G i r ∧ pe i r < N
  | [], i, hi, _ => ⟨trivial, hi⟩
  | a :: r, i, hi, q => by
    obtain ⟨h1, h2⟩ := h _ _ _ q.1 hi
    obtain ⟨h3, h4⟩ := walk_sub h r a.1 h2 q.2
    exact ⟨⟨h1, h3⟩, h4⟩
theorem walk_cov {G : Ed} {N : Nat} {F : Int} {M : Mx} (h0 : ∀ i, i < N → M i i ≤ 0 ∧ M i i < F) (h1 : ∀ i j k, i < N → j < N → k < N → M i k < F → M k j < F → M i j < F ∧ M i j ≤ M i k + M k j) (h2 : ∀ a b w, G a b w → a < N → b < N ∧ M a b < F ∧ M a b ≤ w) : ∀ (r : List (Nat × Int)) (i : Nat), i < N → pw G i r → pe i r < N ∧ M i (pe i r) < F ∧ M i (pe i r) ≤ pt r
  | [], i, hi, _ => by simp only [pe, pt]; exact ⟨hi, (h0 i hi).2, (h0 i hi).1⟩
  | a :: r, i, hi, q => by
    obtain ⟨g1, g2, g3⟩ := h2 _ _ _ q.1 hi
    obtain ⟨g4, g5, g6⟩ := walk_cov h0 h1 h2 r a.1 g1 q.2
    have := h1 i (pe a.1 r) a.1 hi g4 g1 g2 g5
    simp only [pe, pt]
    exact ⟨g4, this.1, by omega⟩
def Sb (p : Pb) (rep : Nat → Nat) (E : Ed) : Prop := ∀ a b w, E a b w → a < nT p → exE p rep a b w ∧ b < nT p
theorem Sb.neg {p : Pb} {rep : Nat → Nat} {E : Ed} {M : Mx} {F : Int} {N : Nat} (h : Sb p rep E) (hN : nT p ≤ N) (hM : Mat F N E M) {s t : Nat} {w : Int} (hs : s < nT p) (ht : t < nT p) (he : exE p rep s t w) (h1 : M t s < F) (h2 : M t s + w < 0) : Neg p rep := by
  obtain ⟨r, r1, r2, r3⟩ := hM.2.2.2 t s (by omega) (by omega) h1
  obtain ⟨g1, -⟩ := walk_sub h r t ht r1
  refine ⟨t, r ++ [(t, w)], ht, (pw_app _ r _ t).mpr ⟨g1, by rw [r2]; exact ⟨he, trivial⟩⟩, by rw [pe_app, r2]; rfl, ?_⟩
  rw [pt_app, r3]
  simp only [pt]
  omega
theorem Sb.ad {p : Pb} {rep : Nat → Nat} {E : Ed} (h : Sb p rep E) {s t : Nat} {w : Int} (he : s < nT p → exE p rep s t w ∧ t < nT p) : Sb p rep (adE E s t w) := by
  rintro a b x (hx | ⟨rfl, rfl, rfl⟩) ha
  · exact h a b x hx ha
  · exact he ha
theorem measure_c {n : Nat} {S : St} {p : Pb} {rep : Nat → Nat} (hn : 110 ≤ n) (hp : CRep S p) (h : CSm S (nT p) rep) (hr : Rp (nT p) rep) : ∃ r T, f_X2_measure n S = some (r, T) ∧ Keeps wr_X2_measure S T ∧ ((r = 0 ∧ Neg p rep) ∨ (r = 1 ∧ Dist p rep FC (cM T 96) ∧ (∀ i, i < nT p → 0 ≤ cM T 96 i i) ∧ Fin10 (cM T 96))) := by
  suffices hh : ∃ r T, f_X2_measure n S = some (r, T) ∧ ((r = 0 ∧ Neg p rep) ∨ (r = 1 ∧ Dist p rep FC (cM T 96) ∧ (∀ i, i < nT p → 0 ≤ cM T 96 i i) ∧ Fin10 (cM T 96))) by
    obtain ⟨r, T, x, y⟩ := hh
    exact ⟨r, T, x, fr_X2_measure n S _ T x, y⟩
  have W0v : W0 = 2000000000 := rfl
  have hwf := hp.1
  have hT5 := hwf.1
  have hT10 := hwf.2.1
  have hL10 := hwf.2.2.1
  unfold f_X2_measure
  obtain ⟨S1, a1, a2⟩ := clear_c (n := n) (q := 96) (S := S) hn
  have k1 := fr_X1_clear n 96 S _ S1 a1
  rw [bo_some a1]
  simp only [bd]
  obtain ⟨m1, m2⟩ := mat0 a2
  refine for_up (α := Int32 × St) (f_X2_measure_9 n) (fun _ _ => none) 10 (fun i T => CRep T p ∧ CSm T (nT p) rep ∧ ∃ E, MOK W0 E T 96 ∧ Sb p rep E ∧ ∀ a, a < i → E a (rep a) 0 ∧ E (rep a) a 0) (fun o => ∃ r T, o = some (r, T) ∧ ((r = 0 ∧ Neg p rep) ∨ (r = 1 ∧ Dist p rep FC (cM T 96) ∧ (∀ i, i < nT p → 0 ≤ cM T 96 i i) ∧ Fin10 (cM T 96)))) ?_ ?_ n 0 S1 (by omega) (by omega) ⟨hp.keep (fun c hc => (k1 c (by unfold wr_X1_clear; omega)).1), h.keep ((k1 22 (by unfold wr_X1_clear; omega)).1), noE, ⟨m1, m2, fun _ _ _ h => h.elim⟩, fun _ _ _ h => h.elim, fun a ha => absurd ha (Nat.not_lt_zero _)⟩
  · rintro i T k9 hi ⟨q1, q2, E, q3, q4, q5⟩
    unfold f_X2_measure_9 f_X1_equate
    have ri := q2.lt hr hi
    have hrr : i < nT p → rep i < nT p ∧ rep (rep i) = rep i := fun hc => by have := hr i hc; omega
    have e1 : i < nT p → exE p rep i (rep i) 0 ∧ rep i < nT p := fun hc => ⟨Or.inl ⟨hc, (hrr hc).1, (hrr hc).2.symm, rfl⟩, (hrr hc).1⟩
    have e2 : rep i < nT p → exE p rep (rep i) i 0 ∧ i < nT p := fun hc => by
      by_cases c : i < nT p
      · exact ⟨Or.inl ⟨hc, c, (hrr c).2, rfl⟩, c⟩
      · rw [q2.2 i (by omega)] at hc; exact absurd hc c
    have no : ∀ (E : Ed) (T : St) (s t : Nat), MOK W0 E T 96 → Sb p rep E → ((s = i ∧ t = rep i) ∨ (s = rep i ∧ t = i)) → cM T 96 t s < FC → cM T 96 t s + 0 < 0 → Neg p rep := fun E T s t w1 w2 w3 w4 w5 => by
      by_cases c : i < nT p
      · have := hrr c
        refine w2.neg hT10 w1.1 (s := s) (t := t) (w := 0) (by omega) (by omega) ?_ w4 w5
        rcases w3 with ⟨rfl, rfl⟩ | ⟨rfl, rfl⟩
        · exact (e1 c).1
        · exact (e2 this.1).1
      · have e := q2.2 i (by omega)
        have es : s = i := by omega
        have et : t = i := by omega
        subst es; subst et
        have := w1.1.1 _ hi
        omega
    rw [if_neg (by rw [show (10 : Int32) = nI 10 from rfl, nI_leI (by omega) (by omega)]; omega), if_neg (nI_bad hi (by omega)), nI_c (by omega), q2.1 i hi]
    obtain ⟨r, U, b1, b2, b3⟩ := bound_w (n := n) (w := (0 : Int64)) (by omega) (W := W0) (by decide) W0ok q3 hi ri (by rw [z64]; omega)
    rw [bo_some b1]
    rcases b3 with ⟨rfl, rfl, b3, b4⟩ | ⟨rfl, b3, -⟩
    · left
      rw [if_pos rfl]
      simp only [bo]
      rw [if_pos trivial]
      rw [z64] at b4
      exact ⟨0, _, rfl, Or.inl ⟨rfl, no E _ i (rep i) q3 q4 (Or.inl ⟨rfl, rfl⟩) b3 b4⟩⟩
    · rw [z64] at b3
      rw [if_neg (by decide)]
      obtain ⟨r, V, c1, c2, c3⟩ := bound_w (n := n) (w := (0 : Int64)) (by omega) (W := W0) (by decide) W0ok b3 ri hi (by rw [z64]; omega)
      rw [bo_some c1]
      have s1 := q4.ad (s := i) (t := rep i) (w := 0) e1
      rcases c3 with ⟨rfl, rfl, c3, c4⟩ | ⟨rfl, c3, -⟩
      · left
        rw [if_pos rfl]
        simp only [bo]
        rw [if_pos trivial]
        rw [z64] at c4
        exact ⟨0, _, rfl, Or.inl ⟨rfl, no _ _ (rep i) i b3 s1 (Or.inr ⟨rfl, rfl⟩) c3 c4⟩⟩
      · right
        rw [z64] at c3
        rw [if_neg (by decide)]
        simp only [bo]
        rw [if_neg (by decide)]
        simp only [bd]
        rw [nI_1]
        refine ⟨V, ⟨q1.keep (fun c hc => ((c2 c (by unfold wr_X1_bound; omega)).1).trans ((b2 c (by unfold wr_X1_bound; omega)).1)), q2.keep (((c2 22 (by unfold wr_X1_bound; omega)).1).trans ((b2 22 (by unfold wr_X1_bound; omega)).1)), _, c3, s1.ad e2, fun a ha => ?_⟩, rfl⟩
        by_cases e : a = i
        · subst e; exact ⟨Or.inl (Or.inr ⟨rfl, rfl, rfl⟩), Or.inr ⟨rfl, rfl, rfl⟩⟩
        · have := q5 a (by omega)
          exact ⟨Or.inl (Or.inl this.1), Or.inl (Or.inl this.2)⟩
  · rintro T k9 ⟨q1, q2, E, q3, q4, q5⟩
    unfold f_X2_measure_9
    rw [if_pos (by decide)]
    simp only [bd]
    refine for_up (α := Int32 × St) (f_X2_measure_42 n) (fun _ _ => none) (nL p) (fun i T => CRep T p ∧ ∃ E, MOK W0 E T 96 ∧ Sb p rep E ∧ (∀ a, a < 10 → E a (rep a) 0 ∧ E (rep a) a 0) ∧ ∀ k, k < i → (lit p k).1 = 2 → E (lit p k).2.1 (lit p k).2.2.1 (lit p k).2.2.2) (fun o => ∃ r T, o = some (r, T) ∧ ((r = 0 ∧ Neg p rep) ∨ (r = 1 ∧ Dist p rep FC (cM T 96) ∧ (∀ i, i < nT p → 0 ≤ cM T 96 i i) ∧ Fin10 (cM T 96)))) ?_ ?_ n 0 T (by omega) (by omega) ⟨q1, E, q3, q4, q5, fun k hk => absurd hk (Nat.not_lt_zero _)⟩
    · rintro i T k hi ⟨q1, E, q3, q4, q5, q6⟩
      have w := hwf.2.2.2.2.2 i hi
      have l := q1.2.2.2.2.2.2 i hi
      have hsz := q1.2.2.2.2.2.1
      have st : ∀ T, f_X2_measure_102 n k T (nI i) = k T (nI (i + 1)) := fun T => by unfold f_X2_measure_102; simp only [bd]; rw [nI_1]
      unfold f_X2_measure_42
      rw [bo_some (size3 q1), if_neg (by rw [nI_leI (by omega) (by omega)]; omega), bo_some (kind3 hsz hL10 hi), l.1]
      by_cases e : (lit p i).1 = 2
      · rw [if_pos (by rw [e]; rfl), bo_some (left3 hsz hL10 hi), bo_some (right3 hsz hL10 hi), bo_some (number3 hsz hL10 hi), l.2.1, l.2.2.1]
        have ew : ((T.1 20 i).toInt64).toInt = (lit p i).2.2.2 := by rw [i2l, l.2.2.2]
        have he : exE p rep (lit p i).2.1 (lit p i).2.2.1 (lit p i).2.2.2 := Or.inr ⟨i, hi, e, rfl, rfl, rfl⟩
        obtain ⟨r, U, b1, b2, b3⟩ := bound_w (n := n) (w := (T.1 20 i).toInt64) (by omega) (W := W0) (by decide) W0ok q3 (s := (lit p i).2.1) (t := (lit p i).2.2.1) (by omega) (by omega) (by rw [ew]; omega)
        rw [bo_some b1]
        rw [ew] at b3
        rcases b3 with ⟨rfl, rfl, b3, b4⟩ | ⟨rfl, b3, -⟩
        · left
          rw [if_pos rfl]
          exact ⟨0, _, rfl, Or.inl ⟨rfl, q4.neg hT10 q3.1 w.2.1 w.2.2.1 he b3 b4⟩⟩
        · right
          rw [if_neg (by decide), st]
          refine ⟨U, ⟨q1.keep (fun c hc => (b2 c (by unfold wr_X1_bound; omega)).1), _, b3, q4.ad (fun _ => ⟨he, w.2.2.1⟩), fun a ha => ⟨Or.inl (q5 a ha).1, Or.inl (q5 a ha).2⟩, fun j hj hj2 => ?_⟩, rfl⟩
          by_cases ej : j = i
          · subst ej; exact Or.inr ⟨rfl, rfl, rfl⟩
          · exact Or.inl (q6 j (by omega) hj2)
      · right
        rw [if_neg (by rw [show (2 : Int32) = nI 2 from rfl, nI_eq (by omega) (by omega)]; exact e), st]
        refine ⟨T, ⟨q1, E, q3, q4, q5, fun j hj hj2 => ?_⟩, rfl⟩
        by_cases ej : j = i
        · subst ej; exact absurd hj2 e
        · exact q6 j (by omega) hj2
    · rintro T k ⟨q1, E, q3, q4, q5, q6⟩
      unfold f_X2_measure_42
      rw [bo_some (size3 q1), if_pos (by rw [nI_leI (by omega) (by omega)]; omega)]
      have M1 := q3.1
      have F0 : (0 : Int) < FC := by decide
      refine ⟨1, T, rfl, Or.inr ⟨rfl, ⟨?_, ?_⟩, fun i hi => by rw [M1.1 i (by omega)]; omega, q3.2.1⟩⟩
      · intro i r hi hw
        refine walk_cov (N := nT p) (F := FC) (M := cM T 96) (fun i hi => by rw [M1.1 i (by omega)]; omega) (fun i j k hi hj hk h1 h2 => M1.2.1 i j k (by omega) (by omega) (by omega) h1 h2) ?_ r i hi hw
        rintro a b w (⟨h1, h2, h3, rfl⟩ | ⟨k, hk, h2, rfl, rfl, rfl⟩) ha
        · have x1 := M1.2.2.1 _ _ _ (q5 a (by omega)).1
          have x2 := M1.2.2.1 _ _ _ (q5 b (by omega)).2
          rw [← h3] at x2
          have x3 := M1.2.1 a b (rep a) (by omega) (by omega) x1.2.1 x1.2.2.1 x2.2.2.1
          exact ⟨h2, x3.1, by omega⟩
        · have w := hwf.2.2.2.2.2 k hk
          have x1 := M1.2.2.1 _ _ _ (q6 k hk h2)
          exact ⟨w.2.2.1, x1.2.2.1, x1.2.2.2⟩
      · intro i j hi hj hf
        obtain ⟨r, r1, r2, r3⟩ := M1.2.2.2 i j (by omega) (by omega) hf
        exact ⟨r, (walk_sub q4 r i hi r1).1, r2, r3⟩
