/-! LOADING the class's solver, and asking it -/
theorem congr_c {n cc : Nat} {S : St} {p : Pb} {P : (Nat → Int) → Prop} (hp : CRep S p) (h : Ld S cc P) (hcc : cc < 22) {s t : Nat} (h5 : 5 ≤ s) (hst : s < t) (ht : t < nT p) (hk : (tm p s).1 = (tm p t).1) :
    ∃ T, f_X0_setCongruence n (50 + cc) S 6 (nI s) (nI t) = some ((), T) ∧ T.1 23 = S.1 23 ∧ Ld (sI T 23 3 (nI (cc + 1))) (cc + 1) (fun v => P v ∧ cong1 p s t v) := by
  obtain ⟨hwf, hsz, hkd, hfs, -, -, -⟩ := id hp
  have hT10 : nT p ≤ 10 := hwf.2.1
  have ws := hwf.2.2.2.2.1 s h5 (by omega)
  have wt := hwf.2.2.2.2.1 t (by omega) ht
  obtain ⟨fs1, fs2⟩ := hfs s h5 (by omega)
  obtain ⟨ft1, ft2⟩ := hfs t (by omega) ht
  have q6 : ∀ (U : St), (∀ c, c < 50 → U.1 c = S.1 c) → U.1 6 4 = nI (nT p) := fun U hU => by rw [hU 6 (by omega)]; exact hsz
  have n1 : ∀ (c : Nat), c < 50 → ¬ c = 50 + cc := fun c hc => by omega
  unfold f_X0_setCongruence
  rw [bo_some (first7 hsz hT10 (by omega))]
  simp only [bd]
  rw [bo_some (first7 (N := nT p) (q6 _ (fun c hc => by funext j; simp only [sI]; rw [if_neg (by omega)])) hT10 ht)]
  unfold f_X0_clearSecond
  simp only [bd, bo]
  have k7 : ∀ (U : St), (∀ c, c < 50 → U.1 c = S.1 c) → f_X7_kindOf n 6 U (nI s) = some (nI (tm p s).1, U) := fun U hU => by rw [kind7 (N := nT p) (q6 U hU) hT10 (by omega), hU 7 (by omega), hkd s (by omega)]
  have s7 : ∀ (U : St) (t : Nat), t < nT p → (∀ c, c < 50 → U.1 c = S.1 c) → f_X7_secondOf n 6 U (nI t) = some (S.1 9 t, U) := fun U t ht hU => by rw [second7 (N := nT p) (q6 U hU) hT10 ht, hU 9 (by omega)]
  have cut : ∀ (U : St) (k : Nat) (v : Int32), (∀ c, c < 50 → U.1 c = S.1 c) → ∀ c, c < 50 → (sI U (50 + cc) k v).1 c = S.1 c := fun U k v hU c hc => by rw [← hU c hc]; funext j; simp only [sI]; rw [if_neg (by omega)]
  have u0 : ∀ c, c < 50 → S.1 c = S.1 c := fun _ _ => rfl
  simp only [k7 _ (cut _ 3 0 (cut _ 2 0 (cut _ 1 _ (cut _ 0 _ u0))))]
  have e8s : S.1 (6 + 2) s = nI (tm p s).2.1 := fs1
  have e8t : (sI S (50 + cc) 0 (S.1 (6 + 2) s)).1 (6 + 2) t = nI (tm p t).2.1 := by
    have : (sI S (50 + cc) 0 (S.1 (6 + 2) s)).1 (6 + 2) = S.1 (6 + 2) := cut S 0 _ u0 8 (by omega)
    rw [this]; exact ft1
  rw [e8s] at e8t ⊢
  rw [e8t]
  have n23 : ¬ (23 = 50 + cc) := by omega
  have e23 : ¬ (50 + cc = 23) := by omega
  have o2 : ∀ (U : St), U.2 = S.2 → ∀ k v, (sI U (50 + cc) k v).2 = S.2 := fun U h _ _ => h
  -- the end
  have fin : ∀ (U : St) (b1 b2 : Nat), b1 < 10 → b2 < 10 → (∀ c j, c ≠ 50 + cc → U.1 c j = S.1 c j) → U.2 = S.2 → U.1 (50 + cc) 0 = nI (tm p s).2.1 → U.1 (50 + cc) 1 = nI (tm p t).2.1 → U.1 (50 + cc) 2 = nI b1 → U.1 (50 + cc) 3 = nI b2 → (∀ v : Nat → Int, clSat (((tm p s).2.1, (tm p t).2.1), (b1, b2), some (s, t)) v ↔ cong1 p s t v) → ∃ T, f_X0_setCongruence_49 n (50 + cc) 6 U (nI s) (nI t) = some ((), T) ∧ T.1 23 = S.1 23 ∧ Ld (sI T 23 3 (nI (cc + 1))) (cc + 1) (fun v => P v ∧ cong1 p s t v) := by
    intro U b1 b2 hb1 hb2 hU hU2 x0 x1 x2 x3 hv
    unfold f_X0_setCongruence_49
    simp only [bd]
    refine ⟨_, rfl, ?_, ?_⟩
    · funext j; simp only [sI, n23, false_and, if_false]; exact hU 23 j n23
    · refine (Ld.clause (c := (((tm p s).2.1, (tm p t).2.1), (b1, b2), some (s, t))) h hcc ?_ ?_ ?_ ?_ ?_ ?_).congr (fun v => by rw [hv v])
      · simp [sI]
      · intro k hk hne
        funext j
        have e1 : ¬ (50 + k = 23) := by omega
        have e2 : ¬ (50 + k = 50 + cc) := by omega
        simp only [sI, e1, e2, false_and, if_false]
        exact hU (50 + k) j e2
      · refine ⟨⟨?_, ?_, hb1, hb2, fun q hq => ?_⟩, ?_, ?_, ?_, ?_, (fun hq => by cases hq), fun q hq => ?_⟩
        · show (tm p s).2.1 < 10; omega
        · show (tm p t).2.1 < 10; omega
        · cases hq; exact ⟨by show s < 10; omega, by show t < 10; omega⟩
        · simp [sI, e23, x0]
        · simp [sI, e23, x1]
        · simp [sI, e23, x2]
        · simp [sI, e23, x3]
        · cases hq; simp [sI, e23]
      · exact hU2
      · simp only [sI, n23, false_and, if_false]; simp; exact hU 23 6 n23
      · simp only [sI, n23, false_and, if_false]; simp; exact hU 23 7 n23
  have base : ∀ c j, c ≠ 50 + cc → (sI (sI (sI (sI S (50 + cc) 0 (nI (tm p s).2.1)) (50 + cc) 1 (nI (tm p t).2.1)) (50 + cc) 2 0) (50 + cc) 3 0).1 c j = S.1 c j := fun c j hc => by simp only [sI, hc, false_and, if_false]
  by_cases k2 : (tm p s).1 = 2
  · rw [k2, if_pos (by decide), s7 _ s (by omega) (fun c hc => by funext j; exact base c j (by omega))]
    simp only []
    rw [s7 _ t ht (fun c hc => by funext j; simp only [sI, n1 c hc, false_and, if_false])]
    simp only []
    rw [fs2, ft2, if_pos k2, if_pos (hk ▸ k2)]
    refine fin _ (tm p s).2.2 (tm p t).2.2 (by omega) (by omega) (fun c j hc => by simp only [sI, hc, false_and, if_false]) rfl ?_ ?_ ?_ ?_ (fun v => ?_)
    · simp [sI]
    · simp [sI]
    · simp [sI]
    · simp [sI]
    · unfold clSat cong1
      simp only [hk, true_implies, k2]
      constructor
      · rintro (h | h | ⟨q, hq, h⟩) a b
        · exact absurd a h
        · exact absurd (b (hk ▸ k2)) h
        · cases hq; exact h
      · intro h
        by_cases a : v (tm p s).2.1 = v (tm p t).2.1
        · by_cases b : v (tm p s).2.2 = v (tm p t).2.2
          · exact Or.inr (Or.inr ⟨_, rfl, h a (fun _ => b)⟩)
          · exact Or.inr (Or.inl b)
        · exact Or.inl a
  · rw [if_neg (by rw [show (2 : Int32) = nI 2 from rfl, nI_eq (by omega) (by omega)]; exact k2)]
    refine fin _ 0 0 (by omega) (by omega) base rfl ?_ ?_ ?_ ?_ (fun v => ?_)
    · simp [sI]
    · simp [sI]
    · simp [sI, nI_0]
    · simp [sI, nI_0]
    · unfold clSat cong1
      constructor
      · rintro (h | h | ⟨q, hq, h⟩) _ a b
        · exact absurd a h
        · exact absurd rfl h
        · cases hq; exact h
      · intro h
        by_cases a : v (tm p s).2.1 = v (tm p t).2.1
        · exact Or.inr (Or.inr ⟨_, rfl, h hk a (fun q => absurd q k2)⟩)
        · exact Or.inl a
theorem same7 {n : Nat} {S : St} {p : Pb} (hp : CRep S p) {s t : Nat} (h5 : 5 ≤ s) (hs : s < nT p) (ht : t < nT p) (h5t : 5 ≤ t) : ∃ r, f_X7_haveSameFunction n 6 S (nI s) (nI t) = some (r, S) ∧ ((r = 1 ∧ (tm p s).1 = (tm p t).1) ∨ (r = 0 ∧ (tm p s).1 ≠ (tm p t).1)) := by
  obtain ⟨hwf, hsz, hkd, -⟩ := id hp
  have hT10 : nT p ≤ 10 := hwf.2.1
  have ws := hwf.2.2.2.2.1 s h5 hs
  have wt := hwf.2.2.2.2.1 t h5t ht
  unfold f_X7_haveSameFunction
  rw [bo_some (has7 hsz hT10 hs), if_neg (by decide), bo_some (has7 hsz hT10 ht), if_neg (by decide), if_neg (nI_bad (by omega) (by omega)), nI_c (by omega), nI_c (by omega), hkd s hs, hkd t ht, if_neg (by rw [show (0 : Int32) = nI 0 from rfl, nI_eq (by omega) (by omega)]; omega), if_neg (fun h => h.elim (nI_pos (by omega)) (by omega)), if_neg (fun h => h.elim (nI_pos (by omega)) (by omega))]
  by_cases e : (tm p s).1 = (tm p t).1
  · rw [e, if_pos rfl]; exact ⟨1, rfl, Or.inl ⟨rfl, rfl⟩⟩
  · rw [if_neg (by rw [nI_eq (by omega) (by omega)]; exact e)]; exact ⟨0, rfl, Or.inr ⟨rfl, e⟩⟩
theorem clear_c {n q : Nat} {S : St} (hn : 110 ≤ n) : ∃ T, f_X1_clear n q S = some ((), T) ∧ ∀ i j, i < 10 → j < 10 → cM T q i j = if i = j then 0 else FC := by
  unfold f_X1_clear f_J7_fill_d0a16
  simp only [bd]
  have fill : ∃ T, fixF (fun _ _ => none) (f_J7_fill_d0a16_6 n (q + 25) (1000000000000000 : Int64) (Int32.ofNat 100)) n S (nI 0) = some ((), T) ∧ ∀ k, k < 100 → T.2 (q + 25) k = 1000000000000000 := by
    refine for_up (α := Unit × St) (f_J7_fill_d0a16_6 n (q + 25) (1000000000000000 : Int64) (Int32.ofNat 100)) (fun _ _ => none) 100 (fun i T => ∀ k, k < i → T.2 (q + 25) k = 1000000000000000) (fun o => ∃ T, o = some ((), T) ∧ ∀ k, k < 100 → T.2 (q + 25) k = 1000000000000000) ?_ ?_ n 0 S (by omega) (by omega) (fun k hk => absurd hk (Nat.not_lt_zero _))
    · intro i T k hi hI
      right
      unfold f_J7_fill_d0a16_6
      rw [if_neg (by rw [show Int32.ofNat 100 = nI 100 from rfl, nI_leI (by omega) (by omega)]; omega), if_neg (nI_bad (by omega) (by omega)), nI_c (by omega)]
      simp only [bd]
      rw [nI_1]
      refine ⟨_, fun j hj => ?_, rfl⟩
      by_cases e : j = i
      · subst e; simp [sL]
      · simp only [sL, e, and_false, if_false]; exact hI j (by omega)
    · intro T k hI
      unfold f_J7_fill_d0a16_6
      rw [if_pos (by decide)]
      exact ⟨T, rfl, hI⟩
  obtain ⟨T, a1, a2⟩ := fill
  rw [nI_0] at a1
  rw [bo_some a1]
  refine for_up (α := Unit × St) (f_X1_clear_12 n q) (fun _ _ => none) 10 (fun i U => ∀ a b, a < 10 → b < 10 → cM U q a b = if a = b ∧ a < i then 0 else FC) (fun o => ∃ T, o = some ((), T) ∧ ∀ i j, i < 10 → j < 10 → cM T q i j = if i = j then 0 else FC) ?_ ?_ n 0 T (by omega) (by omega) (fun a b ha hb => ?_)
  · intro i U k hi hI
    right
    unfold f_X1_clear_12
    rw [if_neg (by rw [show (10 : Int32) = nI 10 from rfl, nI_leI (by omega) (by omega)]; omega), ix10 hi hi, if_neg (nI_bad (by omega) (by omega)), nI_c (by omega)]
    simp only [bd]
    rw [nI_1]
    refine ⟨_, fun a b ha hb => ?_, rfl⟩
    rw [cM_set hi hb, hI a b ha hb]
    by_cases e : a = i ∧ b = i
    · rw [if_pos e, if_pos (by omega), z64]
    · rw [if_neg e]
      by_cases e2 : a = b ∧ a < i
      · rw [if_pos e2, if_pos (by omega)]
      · rw [if_neg e2, if_neg (by omega)]
  · intro U k hI
    unfold f_X1_clear_12
    rw [if_pos (by decide)]
    refine ⟨U, rfl, fun i j hi hj => ?_⟩
    rw [hI i j hi hj]
    by_cases e : i = j
    · rw [if_pos ⟨e, hi⟩, if_pos e]
    · rw [if_neg (fun h => e h.1), if_neg e]
  · rw [if_neg (by omega)]
    unfold cM
    rw [a2 (a * 10 + b) (by omega)]
    exact FCi
/-- nothing is demanded -/
def noE : Ed := fun _ _ _ => False
theorem mat0 {M : Mx} (h : ∀ i j, i < 10 → j < 10 → M i j = if i = j then 0 else FC) : Mat FC 10 noE M ∧ Fin10 M := by
  have F0 : (0 : Int) < FC := by decide
  refine ⟨⟨fun i hi => by rw [h i i hi hi, if_pos rfl], fun i j k hi hj hk h1 h2 => ?_, fun i j w hE => hE.elim, fun i j hi hj hf => ?_⟩, fun i j hi hj => ?_⟩
  · rw [h i k hi hk] at h1
    rw [h k j hk hj] at h2
    have e1 : i = k := by
      by_cases e : i = k
      · exact e
      · rw [if_neg e] at h1; omega
    have e2 : k = j := by
      by_cases e : k = j
      · exact e
      · rw [if_neg e] at h2; omega
    subst e1; subst e2
    rw [h i i hi hi, if_pos rfl]; omega
  · rw [h i j hi hj] at hf ⊢
    by_cases e : i = j
    · subst e; exact ⟨[], trivial, rfl, by simp [pt]⟩
    · rw [if_neg e] at hf; omega
  · rw [h i j hi hj]; split <;> omega
def pc (s : Nat) : Nat := if s ≤ 5 then 0 else if s = 6 then 4 else if s = 7 then 7 else if s = 8 then 9 else 10
theorem pc_s {s : Nat} (h5 : 5 ≤ s) (h : s < 10) : pc s + (9 - s) ≤ pc (s + 1) := by
  have : ∀ s, s < 10 → 5 ≤ s → pc s + (9 - s) ≤ pc (s + 1) := by decide
  exact this s h h5
theorem pc_le (s : Nat) : pc s ≤ 10 := by unfold pc; split; omega; split; omega; split; omega; split <;> omega
theorem load_c {n : Nat} {S : St} {p : Pb} (hn : 110 ≤ n) (hp : CRep S p) (m : Int32) :
    ∃ T cc, f_X6_load n S m = some ((), T) ∧ CRep T p ∧ cc ≤ 20 ∧ T.1 23 8 = nI 0 ∧ T.1 23 9 = nI 0 ∧ Ld T cc (Sol p m) := by
  have hwf := hp.1
  have hT5 : 5 ≤ nT p := hwf.1
  have hT10 : nT p ≤ 10 := hwf.2.1
  have hN : nL p ≤ 10 := hwf.2.2.1
  have hkeep : ∀ T, f_X6_load n S m = some ((), T) → CRep T p := fun T hT => hp.keep (fun c hc => (fr_X6_load n S _ _ T hT c (by unfold wr_X6_load; omega)).1)
  suffices hh : ∃ T cc, f_X6_load n S m = some ((), T) ∧ cc ≤ 20 ∧ T.1 23 8 = nI 0 ∧ T.1 23 9 = nI 0 ∧ Ld T cc (Sol p m) by
    obtain ⟨T, cc, a, b, c, d, e⟩ := hh
    exact ⟨T, cc, a, hkeep T a, b, c, d, e⟩
  unfold f_X6_load f_X6_aimAt
  simp only [bd, bo]
  rw [if_neg (by decide)]
  have e0 : (72 + ((0 : Int32)).toNatClampNeg) = 72 := by decide
  rw [e0]
  generalize hS0 : sI (sI (sI (sI (sI S 23 3 0) 23 6 0) 23 7 0) 23 8 0) 23 9 0 = S0
  obtain ⟨S1, a1, a2⟩ := clear_c (n := n) (q := 72) (S := S0) hn
  rw [a1]
  simp only []
  have k1 := fr_X1_clear n 72 S0 _ S1 a1
  have h23 : S1.1 23 = S0.1 23 := (k1 23 (by unfold wr_X1_clear; omega)).1
  have r1 : CRep S1 p := hp.keep (fun c hc => by
    rw [(k1 c (by unfold wr_X1_clear; omega)).1, ← hS0]
    funext j
    have : ¬ c = 23 := by omega
    simp only [sI, this, false_and, if_false])
  obtain ⟨m1, m2⟩ := mat0 a2
  have l1 : Ld S1 0 (fun _ => True) := by
    refine ⟨fun _ => ((0, 0), (0, 0), none), noE, ⟨by omega, by rw [h23, ← hS0]; simp [sI, nI_0], fun k hk => absurd hk (Nat.not_lt_zero _)⟩, ⟨m1, m2, fun _ _ _ h => h.elim⟩, by rw [h23, ← hS0]; simp [sI], Or.inl ⟨by rw [h23, ← hS0]; simp [sI], fun v => ⟨fun _ => ⟨fun _ _ _ h => h.elim, fun k hk => absurd hk (Nat.not_lt_zero _)⟩, fun _ => trivial⟩⟩⟩
  have g1 : S1.1 23 8 = nI 0 ∧ S1.1 23 9 = nI 0 := by rw [h23, ← hS0]; simp [sI, nI_0]
  -- the literals
  refine for_up (α := Unit × St) (f_X6_load_32 n m) (fun _ _ => none) (nL p) (fun i T => CRep T p ∧ (T.1 23 8 = nI 0 ∧ T.1 23 9 = nI 0) ∧ ∃ cc, cc ≤ i ∧ Ld T cc (fun v => ∀ k, k < i → onB m k → litSat (lit p k) v)) (fun o => ∃ T cc, o = some ((), T) ∧ cc ≤ 20 ∧ T.1 23 8 = nI 0 ∧ T.1 23 9 = nI 0 ∧ Ld T cc (Sol p m)) ?_ ?_ n 0 S1 (by omega) (by omega) ⟨r1, g1, 0, by omega, l1.congr (fun v => ⟨fun _ k hk => absurd hk (Nat.not_lt_zero _), fun _ => trivial⟩)⟩
  · rintro i T k hi ⟨i1, i2, cc, i3, i4⟩
    right
    unfold f_X6_load_32
    rw [bo_some (size3 i1), if_neg (by rw [nI_leI (by omega) (by omega)]; omega)]
    have st : ∀ T, f_X6_load_57 n m k T (nI i) = k T (nI (i + 1)) := fun T => by unfold f_X6_load_57; simp only [bd]; rw [nI_1]
    by_cases hb : ((m >>> (nI i &&& 31)) &&& (1 : Int32)) = (1 : Int32)
    · rw [if_pos hb]
      obtain ⟨U, c2, b1, b2, b3, b4, b5⟩ := literal_c (n := n) (by omega) i1 i4 (by omega) hi
      rw [bo_some b1, st]
      refine ⟨U, ⟨b3, ⟨b2.1.trans i2.1, b2.2.trans i2.2⟩, c2, by omega, b5.congr (fun v => ?_)⟩, rfl⟩
      constructor
      · rintro ⟨x, y⟩ j hj hjb
        by_cases e : j = i
        · subst e; exact y
        · exact x j (by omega) hjb
      · intro h
        exact ⟨fun j hj hjb => h j (by omega) hjb, h i (by omega) hb⟩
    · rw [if_neg hb, st]
      refine ⟨T, ⟨i1, i2, cc, by omega, i4.congr (fun v => ?_)⟩, rfl⟩
      constructor
      · intro h j hj hjb
        by_cases e : j = i
        · subst e; exact absurd hjb hb
        · exact h j (by omega) hjb
      · intro h j hj hjb
        exact h j (by omega) hjb
  · rintro T k ⟨i1, i2, cc, i3, i4⟩
    unfold f_X6_load_32
    rw [bo_some (size3 i1), if_pos (by rw [nI_leI (by omega) (by omega)]; omega)]
    simp only [bd]
    -- the pairs of terms
    refine for_up (α := Unit × St) (f_X6_load_65 n) (fun _ _ => none) (nT p) (fun s T => 5 ≤ s ∧ CRep T p ∧ (T.1 23 8 = nI 0 ∧ T.1 23 9 = nI 0) ∧ ∃ cc, cc ≤ 10 + pc s ∧ Ld T cc (fun v => (∀ k, k < nL p → onB m k → litSat (lit p k) v) ∧ ∀ a b, 5 ≤ a → a < s → a < b → b < nT p → cong1 p a b v)) (fun o => ∃ T cc, o = some ((), T) ∧ cc ≤ 20 ∧ T.1 23 8 = nI 0 ∧ T.1 23 9 = nI 0 ∧ Ld T cc (Sol p m)) ?_ ?_ n 5 T (by omega) (by omega) ⟨by omega, i1, i2, cc, by omega, i4.congr (fun v => ⟨fun h => ⟨h, fun a b _ _ _ _ => by omega⟩, fun h => h.1⟩)⟩
    · rintro s T k65 hs ⟨h5, j1, j2, cc, j3, j4⟩
      right
      have hpc := pc_le s
      unfold f_X6_load_65
      rw [bo_some (size7 j1), if_neg (by rw [nI_leI (by omega) (by omega)]; omega)]
      simp only [bd]
      rw [nI_1]
      have hps := pc_s h5 (by omega)
      refine for_up (α := Unit × St) (f_X6_load_80 n (nI s) k65) (fun _ _ => none) (nT p) (fun t T => s < t ∧ CRep T p ∧ (T.1 23 8 = nI 0 ∧ T.1 23 9 = nI 0) ∧ ∃ cc, cc ≤ 10 + pc s + (t - s - 1) ∧ Ld T cc (fun v => ((∀ k, k < nL p → onB m k → litSat (lit p k) v) ∧ ∀ a b, 5 ≤ a → a < s → a < b → b < nT p → cong1 p a b v) ∧ ∀ b, s < b → b < t → cong1 p s b v)) (fun o => ∃ T', (5 ≤ s + 1 ∧ CRep T' p ∧ (T'.1 23 8 = nI 0 ∧ T'.1 23 9 = nI 0) ∧ ∃ cc, cc ≤ 10 + pc (s + 1) ∧ Ld T' cc (fun v => (∀ k, k < nL p → onB m k → litSat (lit p k) v) ∧ ∀ a b, 5 ≤ a → a < s + 1 → a < b → b < nT p → cong1 p a b v)) ∧ o = k65 T' (nI (s + 1))) ?_ ?_ n (s + 1) T (by omega) (by omega) ⟨by omega, j1, j2, cc, by omega, j4.congr (fun v => ⟨fun h => ⟨h, fun b _ _ => by omega⟩, fun h => h.1⟩)⟩
      · rintro t T k80 ht ⟨hst, q1, q2, cc, q3, q4⟩
        right
        have st : ∀ T, f_X6_load_140 n (nI s) k65 k80 T (nI t) = k80 T (nI (t + 1)) := fun T => by unfold f_X6_load_140; simp only [bd]; rw [nI_1]
        unfold f_X6_load_80
        rw [bo_some (size7 q1), if_neg (by rw [nI_leI (by omega) (by omega)]; omega)]
        obtain ⟨r, u1, u2⟩ := same7 (n := n) q1 h5 hs ht (by omega)
        rw [bo_some u1]
        rcases u2 with ⟨rfl, hk⟩ | ⟨rfl, hk⟩
        · rw [if_neg (by decide)]
          have hc3 : T.1 23 3 = nI cc := by obtain ⟨C, E, h1, -⟩ := q4; exact h1.2.1
          have hps2 := pc_le (s + 1)
          rw [hc3, if_neg (by rw [show (22 : Int32) = nI 22 from rfl, nI_leI (by omega) (by omega)]; omega), if_neg (nI_bad (by omega) (by omega)), nI_c (by omega)]
          obtain ⟨U, w1, w2, w3⟩ := congr_c (n := n) q1 q4 (by omega) h5 hst ht hk
          rw [bo_some w1]
          simp only [bd]
          rw [w2, hc3, nI_1, st]
          have kU := fr_X0_setCongruence n (50 + cc) T 6 _ _ _ U w1
          refine ⟨_, ⟨by omega, q1.keep (fun c hc => ?_), ?_, cc + 1, by omega, w3.congr (fun v => ?_)⟩, rfl⟩
          · rw [← (kU c (by unfold wr_X0_setCongruence; omega)).1]
            funext j
            have : ¬ c = 23 := by omega
            simp only [sI, this, false_and, if_false]
          · simp only [sI]
            simp
            rw [w2]
            exact q2
          · constructor
            · rintro ⟨⟨x, y⟩, z⟩
              refine ⟨x, fun b h1 h2 => ?_⟩
              by_cases e : b = t
              · subst e; exact z
              · exact y b h1 (by omega)
            · rintro ⟨x, y⟩
              exact ⟨⟨x, fun b h1 h2 => y b h1 (by omega)⟩, y t hst (by omega)⟩
        · rw [if_pos rfl, st]
          refine ⟨T, ⟨by omega, q1, q2, cc, by omega, q4.congr (fun v => ?_)⟩, rfl⟩
          constructor
          · rintro ⟨x, y⟩
            refine ⟨x, fun b h1 h2 => ?_⟩
            by_cases e : b = t
            · subst e; exact fun q => absurd q hk
            · exact y b h1 (by omega)
          · rintro ⟨x, y⟩
            exact ⟨x, fun b h1 h2 => y b h1 (by omega)⟩
      · rintro T k80 ⟨hst, q1, q2, cc, q3, q4⟩
        unfold f_X6_load_80
        rw [bo_some (size7 q1), if_pos (by rw [nI_leI (by omega) (by omega)]; omega)]
        simp only [bd]
        rw [nI_1]
        refine ⟨T, ⟨by omega, q1, q2, cc, by omega, q4.congr (fun v => ?_)⟩, rfl⟩
        constructor
        · rintro ⟨⟨x, y⟩, z⟩
          refine ⟨x, fun a b h1 h2 h3 h4 => ?_⟩
          by_cases e : a = s
          · subst e; exact z b h3 h4
          · exact y a b h1 (by omega) h3 h4
        · rintro ⟨x, y⟩
          exact ⟨⟨x, fun a b h1 h2 h3 h4 => y a b h1 (by omega) h3 h4⟩, fun b h1 h2 => y s b h5 (by omega) h1 h2⟩
    · rintro T k65 ⟨h5, j1, j2, cc, j3, j4⟩
      have hpc := pc_le (nT p)
      unfold f_X6_load_65
      rw [bo_some (size7 j1), if_pos (by rw [nI_leI (by omega) (by omega)]; omega)]
      refine ⟨T, cc, rfl, by omega, j2.1, j2.2, j4.congr (fun v => ?_)⟩
      unfold Sol congSat
      constructor
      · rintro ⟨x, y⟩
        exact ⟨x, fun a b h1 h2 h3 => y a b h1 (by omega) h2 h3⟩
      · rintro ⟨x, y⟩
        exact ⟨x, fun a b h1 h2 h3 h4 => y a b h1 h3 h4⟩
