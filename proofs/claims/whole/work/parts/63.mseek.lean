/-! THE REFERENCE: the first level, and the whole question -/
def NB : Nat := 8 ^ 23 + 1000
theorem NB110 {n : Nat} (h : NB ≤ n) : 110 ≤ n := Nat.le_trans (by decide) h
/-- what one more demand says -/
def moSat (mo : Option (Nat × (Nat × Nat))) (v : Nat → Int) : Prop := match mo with
  | none => True
  | some q => (q.1 = 0 → v q.2.1 = v q.2.2) ∧ (q.1 = 2 → v q.2.1 - v q.2.2 ≤ -1)
def litE (l : Nat × Nat × Nat × Int) (v : Nat → Int) : Prop := (l.1 = 0 → v l.2.1 = v l.2.2.1) ∧ (l.1 = 2 → v l.2.1 - v l.2.2.1 ≤ l.2.2.2)
/-- the table of level 0: what it says, or that nothing goes -/
def Ly (p : Pb) (S0 : St) (r : Int32) (Q : (Nat → Int) → Prop) (T : St) : Prop := T.1 = S0.1 ∧ (∀ c, c ≠ 43 → T.2 c = S0.2 c) ∧ ((r = 0 ∧ ∀ v, ¬ Q v) ∨ (r = 1 ∧ ∃ E, MOKm W0 (nT p) E T 0 ∧ ∀ v, Q v ↔ Sat E v))
theorem both_m {n N : Nat} {E : Ed} {S : St} (hn : 12 ≤ n) (hN : N ≤ 10) (hT : S.1 28 18 = nI N) (h : MOKm W0 N E S 0) {s t : Nat} (hs : s < N) (ht : t < N) :
    ∃ r T, f_X9_boundBoth n S 0 (nI s) (nI t) = some (r, T) ∧ T.1 = S.1 ∧ (∀ c, c ≠ 43 → T.2 c = S.2 c) ∧ ((r = 0 ∧ ∀ v, Sat E v → ¬ v s = v t) ∨ (r = 1 ∧ MOKm W0 N (adE (adE E s t 0) t s 0) T 0)) := by
  have W0v : W0 = 2000000000 := rfl
  unfold f_X9_boundBoth
  rw [show (0 : Int32) = nI 0 from rfl]
  obtain ⟨r, T1, a1, a2, a3, a4, a5⟩ := bound_m (n := n) hn hN (l := 0) (by omega) hT h hs ht (w := (0 : Int64)) (by rw [z64]; omega)
  rw [bo_some a1]
  rcases a5 with ⟨rfl, rfl, b1, b2⟩ | ⟨rfl, b1, b2⟩
  · rw [if_pos (by decide)]
    refine ⟨_, T1, rfl, rfl, fun _ _ => rfl, Or.inl ⟨by decide, fun v hv he => ?_⟩⟩
    rw [z64] at b2
    exact h.no hs ht b1 b2 hv (by omega)
  · rw [if_neg (by decide)]
    rw [z64] at b1
    obtain ⟨r, T2, c1, c2, c3, c4, c5⟩ := bound_m (n := n) hn hN (l := 0) (by omega) (by rw [a2]; exact hT) b1 ht hs (w := (0 : Int64)) (by rw [z64]; omega)
    rw [bo_some c1]
    rcases c5 with ⟨rfl, rfl, d1, d2⟩ | ⟨rfl, d1, d2⟩
    · rw [if_pos (by decide)]
      refine ⟨_, T2, rfl, a2, a4, Or.inl ⟨by decide, fun v hv he => ?_⟩⟩
      rw [z64] at d2
      exact b1.no ht hs d1 d2 (sat_ad.mpr ⟨hv, by omega⟩) (by omega)
    · rw [if_neg (by decide)]
      rw [z64] at d1
      exact ⟨1, T2, rfl, c2.trans a2, fun c hc => (c4 c hc).trans (a4 c hc), Or.inr ⟨rfl, d1⟩⟩
theorem lit_m {n : Nat} {S : St} {p : Pb} {m : Int32} {E : Ed} (hn : 12 ≤ n) (hp : MRep S p) (hm : S.1 28 31 = m) (h : MOKm W0 (nT p) E S 0) {k : Nat} (hk : k < nL p) :
    ∃ r T, f_X9_boundLiteral n S (nI k) = some (r, T) ∧ T.1 = S.1 ∧ (∀ c, c ≠ 43 → T.2 c = S.2 c) ∧ ((r = 0 ∧ ∀ v, Sat E v → ¬ (onB m k → litE (lit p k) v)) ∨ (r = 1 ∧ ∃ G, MOKm W0 (nT p) G T 0 ∧ ∀ v, Sat G v ↔ Sat E v ∧ (onB m k → litE (lit p k) v))) := by
  have W0v : W0 = 2000000000 := rfl
  obtain ⟨hwf, hsz, -, -, -, hnl, hlit⟩ := id hp
  have hT10 : nT p ≤ 10 := hwf.2.1
  have hN : nL p ≤ 10 := hwf.2.2.1
  obtain ⟨g1, g2, g3, g4, g5⟩ := hwf.2.2.2.2.2 k hk
  obtain ⟨l1, l2, l3, l4⟩ := hlit k hk
  unfold f_X9_boundLiteral f_X9_has
  rw [hm]
  by_cases hb : ((m >>> (nI k &&& 31)) &&& (1 : Int32)) = (1 : Int32)
  · rw [if_pos hb]
    simp only [bo]
    rw [if_neg (by decide), if_neg (nI_bad (i := k) (by omega) (by omega)), nI_c (i := k) (by omega), l1]
    by_cases k1 : (lit p k).1 = 1
    · rw [k1, if_pos (by decide)]
      refine ⟨1, S, rfl, rfl, fun _ _ => rfl, Or.inr ⟨rfl, E, h, fun v => ⟨fun x => ⟨x, fun _ => ⟨fun q => ?_, fun q => ?_⟩⟩, fun x => x.1⟩⟩⟩
      · omega
      · omega
    · rw [if_neg (by rw [show (1 : Int32) = nI 1 from rfl, nI_eq (by omega) (by omega)]; exact k1), if_neg (fun h => h.elim (nI_pos (by omega)) (by omega))]
      by_cases k0 : (lit p k).1 = 0
      · rw [k0, if_pos (by decide), if_neg (fun h => h.elim (nI_pos (by omega)) (by omega)), if_neg (fun h => h.elim (nI_pos (by omega)) (by omega)), l2, l3]
        obtain ⟨r, T, a1, a2, a3, a4⟩ := both_m (n := n) hn hT10 hsz h g2 g3
        rw [a1]
        simp only []
        rcases a4 with ⟨rfl, b⟩ | ⟨rfl, b⟩
        · rw [if_neg (by decide)]
          exact ⟨0, T, rfl, a2, a3, Or.inl ⟨rfl, fun v hv hc => b v hv ((hc hb).1 k0)⟩⟩
        · rw [if_neg (by decide)]
          refine ⟨1, T, rfl, a2, a3, Or.inr ⟨rfl, _, b, fun v => ?_⟩⟩
          rw [sat_ad, sat_ad]
          constructor
          · rintro ⟨⟨x, y⟩, z⟩; exact ⟨x, fun _ => ⟨fun _ => by omega, fun q => by omega⟩⟩
          · rintro ⟨x, y⟩
            have := (y hb).1 k0
            exact ⟨⟨x, by omega⟩, by omega⟩
      · rw [if_neg (by rw [show (0 : Int32) = nI 0 from rfl, nI_eq (by omega) (by omega)]; exact k0), if_neg (fun h => h.elim (nI_pos (by omega)) (by omega)), if_neg (fun h => h.elim (nI_pos (by omega)) (by omega)), if_neg (fun h => h.elim (nI_pos (by omega)) (by omega)), l2, l3]
        have ew : ((S.1 33 k).toInt64).toInt = (lit p k).2.2.2 := by rw [i2l, l4]
        obtain ⟨r, T, a1, a2, -, a4, a5⟩ := bound_m (n := n) hn hT10 (l := 0) (by omega) hsz h g2 g3 (w := (S.1 33 k).toInt64) (by rw [ew]; omega)
        rw [show (0 : Int32) = nI 0 from rfl, a1]
        simp only []
        rw [ew] at a5
        have k2 : (lit p k).1 = 2 := by omega
        rcases a5 with ⟨rfl, rfl, b1, b2⟩ | ⟨rfl, b1, b2⟩
        · rw [if_neg (by decide)]
          exact ⟨0, T, rfl, rfl, fun _ _ => rfl, Or.inl ⟨rfl, fun v hv hc => h.no g2 g3 b1 b2 hv ((hc hb).2 k2)⟩⟩
        · rw [if_neg (by decide)]
          refine ⟨1, T, rfl, a2, a4, Or.inr ⟨rfl, _, b1, fun v => ?_⟩⟩
          rw [sat_ad]
          constructor
          · rintro ⟨x, y⟩; exact ⟨x, fun _ => ⟨fun q => by omega, fun _ => y⟩⟩
          · rintro ⟨x, y⟩; exact ⟨x, (y hb).2 k2⟩
  · rw [if_neg hb]
    simp only [bo]
    rw [if_pos trivial]
    exact ⟨1, S, rfl, rfl, fun _ _ => rfl, Or.inr ⟨rfl, E, h, fun v => ⟨fun x => ⟨x, fun q => absurd q hb⟩, fun x => x.1⟩⟩⟩
theorem mat0m {N : Nat} {M : Mx} (h : ∀ i j, i < N → j < N → M i j = if i = j then 0 else FM) : Mat FM N noE M ∧ ∀ i j, i < N → j < N → M i j ≤ FM := by
  have F0 : (0 : Int) < FM := by decide
  refine ⟨⟨fun i hi => by rw [h i i hi hi, if_pos rfl], fun i j k hi hj hk h1 h2 => ?_, fun i j w hE => hE.elim, fun i j hi hj hf => ?_⟩, fun i j hi hj => ?_⟩
  · rw [h i k hi hk] at h1
    rw [h k j hk hj] at h2
    have e1 : i = k := by
      by_cases e : i = k
      · exact e
      · rw [if_neg e] at h1; omega
    have e2 : k = j := by
      by_cases e : k = j
      · exact e
      · rw [if_neg e] at h2; omega
    subst e1; subst e2
    rw [h i i hi hi, if_pos rfl]; omega
  · rw [h i j hi hj] at hf ⊢
    by_cases e : i = j
    · subst e; exact ⟨[], trivial, rfl, by simp [pt]⟩
    · rw [if_neg e] at hf; omega
  · rw [h i j hi hj]; split <;> omega
theorem first_m {n : Nat} {S : St} {p : Pb} {m : Int32} {mo : Option (Nat × (Nat × Nat))} {ot : Option (Nat × Nat)} (hn : 12 ≤ n) (hA : AskOk S p m mo ot) :
    ∃ r T, f_X9_layFirst n S = some (r, T) ∧ Ly p S r (fun v => (∀ k, k < nL p → onB m k → litE (lit p k) v) ∧ moSat mo v) T := by
  have W0v : W0 = 2000000000 := rfl
  have m1 : (-1 : Int64).toInt = -1 := by decide
  obtain ⟨hp, hm, hmo, -⟩ := hA
  obtain ⟨hwf, hsz, -, -, -, hnl, hlit⟩ := id hp
  have hT10 : nT p ≤ 10 := hwf.2.1
  have hN : nL p ≤ 10 := hwf.2.2.1
  unfold f_X9_layFirst
  simp only [bd]
  -- the end: what is demanded more
  have e123 : ∀ (T : St) (Q : (Nat → Int) → Prop) (E : Ed), T.1 = S.1 → (∀ c, c ≠ 43 → T.2 c = S.2 c) → MOKm W0 (nT p) E T 0 → (∀ q, mo = some q → ∀ v, Q v ↔ Sat E v ∧ (q.1 = 2 → v q.2.1 - v q.2.2 ≤ -1)) → (mo = none → ∀ v, Q v ↔ Sat E v) → ∃ r T', f_X9_layFirst_123 n T 1 = some (r, T') ∧ Ly p S r Q T' := by
    intro T Q E g1 g2 hE hQ hQn
    unfold f_X9_layFirst_123 f_X9_layFirst_155
    simp only [bd]
    rw [if_neg (by decide), g1]
    cases hmm : mo with
    | none =>
      rw [hmm] at hmo
      rw [show S.1 28 32 = -2000000001 from hmo, if_neg (by decide)]
      exact ⟨1, T, rfl, g1, g2, Or.inr ⟨rfl, E, hE, hQn hmm⟩⟩
    | some q =>
      have hQ := hQ q hmm
      rw [hmm] at hmo
      obtain ⟨q0, q1, q2, q3, q4, q5⟩ := hmo
      by_cases k2 : q.1 = 2
      · rw [q3, k2, if_pos (by decide), q4, q5]
        obtain ⟨r, T', a1, a2, -, a4, a5⟩ := bound_m (n := n) hn hT10 (l := 0) (by omega) (by rw [g1]; exact hsz) hE q1 q2 (w := (-1 : Int64)) (by rw [m1]; omega)
        rw [show (0 : Int32) = nI 0 from rfl, bo_some a1]
        rw [m1] at a5
        rcases a5 with ⟨rfl, rfl, b1, b2⟩ | ⟨rfl, b1, b2⟩
        · rw [if_pos (by decide)]
          refine ⟨_, T', rfl, g1, g2, Or.inl ⟨by decide, fun v hv => ?_⟩⟩
          obtain ⟨x, y⟩ := (hQ v).mp hv
          exact hE.no q1 q2 b1 b2 x (y k2)
        · rw [if_neg (by decide)]
          refine ⟨1, T', rfl, a2.trans g1, fun c hc => (a4 c hc).trans (g2 c hc), Or.inr ⟨rfl, _, b1, fun v => ?_⟩⟩
          rw [hQ v, sat_ad]
          exact ⟨fun ⟨x, y⟩ => ⟨x, y k2⟩, fun ⟨x, y⟩ => ⟨x, fun _ => y⟩⟩
      · rw [q3, if_neg (by rw [show (2 : Int32) = nI 2 from rfl, nI_eq (by omega) (by omega)]; exact k2)]
        refine ⟨1, T, rfl, g1, g2, Or.inr ⟨rfl, E, hE, fun v => ?_⟩⟩
        rw [hQ v]
        exact ⟨fun x => x.1, fun x => ⟨x, fun q => absurd q k2⟩⟩
  have z122 : ∀ (T : St) (Q : (Nat → Int) → Prop), T.1 = S.1 → (∀ c, c ≠ 43 → T.2 c = S.2 c) → (∀ v, ¬ Q v) → ∃ r T', f_X9_layFirst_122 n T = some (r, T') ∧ Ly p S r Q T' := by
    intro T Q g1 g2 hQ
    unfold f_X9_layFirst_122 f_X9_layFirst_123
    simp only [bd]
    rw [if_pos trivial]
    exact ⟨0, T, rfl, g1, g2, Or.inl ⟨rfl, hQ⟩⟩
  -- the rows of the table
  refine for_up (α := Int32 × St) (f_X9_layFirst_2 n) (fun _ _ => none) (nT p) (fun i T => T.1 = S.1 ∧ (∀ c, c ≠ 43 → T.2 c = S.2 c) ∧ ∀ a b, a < i → b < nT p → mM T 0 a b = if a = b then 0 else FM) (fun o => ∃ r T, o = some (r, T) ∧ Ly p S r (fun v => (∀ k, k < nL p → onB m k → litE (lit p k) v) ∧ moSat mo v) T) ?_ ?_ n 0 S (by omega) (by omega) ⟨rfl, fun _ _ => rfl, fun a b ha => absurd ha (Nat.not_lt_zero _)⟩
  · rintro i T k2 hi ⟨g1, g2, g3⟩
    right
    unfold f_X9_layFirst_2
    rw [g1, hsz, if_neg (by rw [nI_leI (by omega) (by omega)]; omega)]
    simp only [bd]
    refine for_up (α := Int32 × St) (f_X9_layFirst_12 n (nI i) k2) (fun _ _ => none) (nT p) (fun j U => U.1 = S.1 ∧ (∀ c, c ≠ 43 → U.2 c = S.2 c) ∧ (∀ a b, a < i → b < nT p → mM U 0 a b = if a = b then 0 else FM) ∧ ∀ b, b < j → mM U 0 i b = if i = b then 0 else FM) (fun o => ∃ T', (T'.1 = S.1 ∧ (∀ c, c ≠ 43 → T'.2 c = S.2 c) ∧ ∀ a b, a < i + 1 → b < nT p → mM T' 0 a b = if a = b then 0 else FM) ∧ o = k2 T' (nI (i + 1))) ?_ ?_ n 0 T (by omega) (by omega) ⟨g1, g2, g3, fun b hb => absurd hb (Nat.not_lt_zero _)⟩
    · rintro j U k12 hj ⟨u1, u2, u3, u4⟩
      right
      unfold f_X9_layFirst_12
      rw [u1, hsz, if_neg (by rw [nI_leI (by omega) (by omega)]; omega)]
      have put : ∀ (t2 : Int64), t2.toInt = (if i = j then 0 else FM) → ∃ U', (U'.1 = S.1 ∧ (∀ c, c ≠ 43 → U'.2 c = S.2 c) ∧ (∀ a b, a < i → b < nT p → mM U' 0 a b = if a = b then 0 else FM) ∧ ∀ b, b < j + 1 → mM U' 0 i b = if i = b then 0 else FM) ∧ f_X9_layFirst_42 n (nI i) k2 k12 U (nI j) (((10 : Int32) * nI i) + nI j) t2 = k12 U' (nI (j + 1)) := by
        intro t2 ht2
        unfold f_X9_layFirst_42
        have ei : ((10 : Int32) * nI i) + nI j = nI (100 * 0 + 10 * i + j) := by rw [show (10 : Int32) = nI 10 from rfl, pk_mul, nI_add]; congr 1; omega
        rw [ei, if_neg (nI_bad (by omega) (by omega)), nI_c (by omega)]
        simp only [bd]
        rw [nI_1]
        refine ⟨sL U 43 (100 * 0 + 10 * i + j) t2, ⟨u1, fun c hc => ?_, fun a b ha hb => ?_, fun b hb => ?_⟩, rfl⟩
        · rw [← u2 c hc]; funext b; simp [sL, hc]
        · rw [mM_set (by omega) (by omega), if_neg (by omega)]; exact u3 a b ha hb
        · rw [mM_set (by omega) (by omega)]
          by_cases e : b = j
          · subst e; rw [if_pos ⟨rfl, rfl⟩]; exact ht2
          · rw [if_neg (fun q => e q.2)]; exact u4 b (by omega)
      by_cases e : i = j
      · rw [if_pos (congrArg nI e)]
        exact put 0 (by rw [if_pos e, z64])
      · rw [if_neg (by rw [nI_eq (by omega) (by omega)]; exact e)]
        exact put _ (by rw [if_neg e]; exact FMi)
    · rintro U k12 ⟨u1, u2, u3, u4⟩
      unfold f_X9_layFirst_12
      rw [u1, hsz, if_pos (by rw [nI_leI (by omega) (by omega)]; omega)]
      simp only [bd]
      rw [nI_1]
      refine ⟨U, ⟨u1, u2, fun a b ha hb => ?_⟩, rfl⟩
      by_cases e : a = i
      · subst e; exact u4 b hb
      · exact u3 a b (by omega) hb
  · rintro T k2 ⟨g1, g2, g3⟩
    unfold f_X9_layFirst_2
    rw [g1, hsz, if_pos (by rw [nI_leI (by omega) (by omega)]; omega)]
    simp only [bd]
    obtain ⟨z1, z2⟩ := mat0m (N := nT p) (M := mM T 0) (fun i j hi hj => g3 i j hi hj)
    -- the literals
    refine for_up2' (α := Int32 × St) (β := Int32) (f_X9_layFirst_59 n) (fun _ _ _ => none) (nL p) (fun i U a => Ly p S a (fun v => ∀ k, k < i → onB m k → litE (lit p k) v) U) (fun o => ∃ r T, o = some (r, T) ∧ Ly p S r (fun v => (∀ k, k < nL p → onB m k → litE (lit p k) v) ∧ moSat mo v) T) ?_ ?_ n 0 T 1 (by omega) (by omega) ⟨g1, g2, Or.inr ⟨rfl, noE, ⟨z1, z2, fun _ _ _ h => h.elim⟩, fun v => ⟨fun _ _ _ _ h => h.elim, fun _ k hk => absurd hk (Nat.not_lt_zero _)⟩⟩⟩
    · rintro i U a k59 hi ⟨u1, u2, u3⟩
      right
      unfold f_X9_layFirst_59 f_X9_layFirst_83 f_X9_layFirst_84
      rw [u1, hnl, if_neg (by rw [nI_leI (by omega) (by omega)]; omega)]
      simp only [bd]
      rw [nI_1]
      rcases u3 with ⟨rfl, hno⟩ | ⟨rfl, E, hE, hQ⟩
      · rw [if_pos rfl]
        exact ⟨U, 0, ⟨u1, u2, Or.inl ⟨rfl, fun v hv => hno v (fun k hk => hv k (by omega))⟩⟩, rfl⟩
      · rw [if_neg (by decide)]
        obtain ⟨r, V, a1, a2, a3, a4⟩ := lit_m (n := n) (m := m) hn (hp.keep (fun c _ => by rw [u1]) (by rw [u1]) (by rw [u1])) (by rw [u1]; exact hm) hE hi
        rw [bo_some a1]
        rcases a4 with ⟨rfl, b⟩ | ⟨rfl, G, b1, b2⟩
        · rw [if_pos rfl]
          refine ⟨V, 0, ⟨a2.trans u1, fun c hc => (a3 c hc).trans (u2 c hc), Or.inl ⟨rfl, fun v hv => ?_⟩⟩, rfl⟩
          exact b v ((hQ v).mp (fun k hk => hv k (by omega))) (hv i (by omega))
        · rw [if_neg (by decide)]
          refine ⟨V, 1, ⟨a2.trans u1, fun c hc => (a3 c hc).trans (u2 c hc), Or.inr ⟨rfl, G, b1, fun v => ?_⟩⟩, rfl⟩
          rw [b2 v, ← hQ v]
          constructor
          · intro h; exact ⟨fun k hk => h k (by omega), h i (by omega)⟩
          · rintro ⟨x, y⟩ k hk
            by_cases e : k = i
            · subst e; exact y
            · exact x k (by omega)
    · rintro U a k59 ⟨u1, u2, u3⟩
      unfold f_X9_layFirst_59 f_X9_layFirst_118
      rw [u1, hnl, if_pos (by rw [nI_leI (by omega) (by omega)]; omega)]
      rcases u3 with ⟨rfl, hno⟩ | ⟨rfl, E, hE, hQ⟩
      · rw [if_pos rfl]
        exact z122 U _ u1 u2 (fun v hv => hno v hv.1)
      · rw [if_neg (by decide)]
        cases hmm : mo with
        | none =>
          have hmo2 := hmo
          rw [hmm] at hmo2
          rw [show S.1 28 32 = -2000000001 from hmo2, if_neg (by decide)]
          rw [hmm] at e123
          exact e123 U _ E u1 u2 hE (fun q hq => by cases hq) (fun _ v => by rw [← hQ v]; exact ⟨fun x => x.1, fun x => ⟨x, trivial⟩⟩)
        | some q =>
          have hmo2 := hmo
          rw [hmm] at hmo2 e123
          obtain ⟨q0, q1, q2, q3, q4, q5⟩ := hmo2
          by_cases k0 : q.1 = 0
          · rw [q3, k0, if_pos (by decide), q4, q5]
            obtain ⟨r, V, a1, a2, a3, a4⟩ := both_m (n := n) hn hT10 (by rw [u1]; exact hsz) hE q1 q2
            rw [bo_some a1]
            rcases a4 with ⟨rfl, b⟩ | ⟨rfl, b⟩
            · rw [if_pos rfl]
              refine z122 V _ (a2.trans u1) (fun c hc => (a3 c hc).trans (u2 c hc)) (fun v hv => ?_)
              exact b v ((hQ v).mp hv.1) (hv.2.1 k0)
            · rw [if_neg (by decide)]
              refine e123 V _ _ (a2.trans u1) (fun c hc => (a3 c hc).trans (u2 c hc)) b (fun q' hq' v => ?_) (fun h => by cases h)
              cases hq'
              rw [sat_ad, sat_ad, ← hQ v]
              constructor
              · rintro ⟨x, y1, y2⟩
                have := y1 k0
                exact ⟨⟨⟨x, by omega⟩, by omega⟩, y2⟩
              · rintro ⟨⟨⟨x, y1⟩, y2⟩, y3⟩
                exact ⟨x, fun _ => by omega, y3⟩
          · rw [q3, if_neg (by rw [show (0 : Int32) = nI 0 from rfl, nI_eq (by omega) (by omega)]; exact k0)]
            refine e123 U _ E u1 u2 hE (fun q' hq' v => ?_) (fun h => by cases h)
            cases hq'
            rw [← hQ v]
            exact ⟨fun ⟨x, y⟩ => ⟨x, y.2⟩, fun ⟨x, y⟩ => ⟨x, fun h => absurd h k0, y⟩⟩
