/-! THE REFERENCE'S EXCHANGE: ways, the program -/
theorem below_m {n N : Nat} {S : St} (hn : 12 ≤ n) (hN : N ≤ 10) (hT : S.1 28 18 = nI N) : ∃ r, f_X9_isBelowSomewhere n S = some (r, S) ∧ ((r = 1 ∧ ∃ i, i < N ∧ wM S i i < 0) ∨ (r = 0 ∧ ∀ i, i < N → 0 ≤ wM S i i)) := by
  unfold f_X9_isBelowSomewhere
  simp only [bd]
  refine for_up2' (α := Int32 × St) (β := Int32) (f_X9_isBelowSomewhere_4 n) (fun _ _ _ => none) N (fun i T x => T = S ∧ ((x = 1 ∧ ∃ i, i < N ∧ wM S i i < 0) ∨ (x = 0 ∧ ∀ j, j < i → 0 ≤ wM S j j))) (fun o => ∃ r, o = some (r, S) ∧ ((r = 1 ∧ ∃ i, i < N ∧ wM S i i < 0) ∨ (r = 0 ∧ ∀ i, i < N → 0 ≤ wM S i i))) ?_ ?_ n 0 S 0 (by omega) (by omega) ⟨rfl, Or.inr ⟨rfl, fun j hj => absurd hj (Nat.not_lt_zero _)⟩⟩
  · rintro i T x k hi ⟨rfl, q⟩
    right
    have st : ∀ v : Int32, f_X9_isBelowSomewhere_37 n k T (nI i) v = k T v (nI (i + 1)) := fun v => by unfold f_X9_isBelowSomewhere_37; simp only [bd]; rw [nI_1]
    unfold f_X9_isBelowSomewhere_4 f_X9_isBelowSomewhere_32
    rw [hT, if_neg (by rw [nI_leI (by omega) (by omega)]; omega)]
    rcases q with ⟨rfl, q⟩ | ⟨rfl, q⟩
    · rw [if_neg (by decide), st]
      exact ⟨_, _, ⟨rfl, Or.inl ⟨rfl, q⟩⟩, rfl⟩
    · rw [if_pos rfl, ixv, if_neg (nI_bad (by omega) (by omega)), nI_c (by omega)]
      by_cases c : 0 ≤ wM T i i
      · rw [if_pos (by rw [c_ge, z64]; exact c), st]
        refine ⟨_, _, ⟨rfl, Or.inr ⟨rfl, fun j hj => ?_⟩⟩, rfl⟩
        by_cases ej : j = i
        · subst ej; exact c
        · exact q j (by omega)
      · rw [if_neg (by rw [c_ge, z64]; exact c), st]
        exact ⟨_, _, ⟨rfl, Or.inl ⟨rfl, i, hi, by omega⟩⟩, rfl⟩
  · rintro T x k ⟨rfl, q⟩
    unfold f_X9_isBelowSomewhere_4
    rw [hT, if_pos (by rw [nI_leI (by omega) (by omega)]; omega), if_neg (by rcases q with ⟨rfl, -⟩ | ⟨rfl, -⟩ <;> decide)]
    exact ⟨x, rfl, q⟩
def pB (k : Nat) : Int := 2000000000 * 6 ^ k
theorem pB_s (k : Nat) : pB (k + 1) = 6 * pB k := by unfold pB; rw [Int.pow_succ]; omega
theorem pB_ok {k : Nat} (h : k < 10) : 0 ≤ pB k ∧ 12 * pB k < FM := by
  have : ∀ k, k < 10 → 0 ≤ pB k ∧ 12 * pB k < FM := by decide
  exact this k h
/-- what the laying of ways tells -/
def WaysOk (p : Pb) (rep : Nat → Nat) (S : St) (o : Option (Int32 × St)) : Prop := ∃ r T, o = some (r, T) ∧ T.1 = S.1 ∧ ((r = 1 ∧ Neg p rep) ∨ (r = 0 ∧ Dist p rep FM (wM T) ∧ (∀ i, i < nT p → 0 ≤ wM T i i) ∧ ∀ i j, i < nT p → j < nT p → wM T i j ≤ FM))
theorem ways3 {n : Nat} {S : St} {p : Pb} {rep : Nat → Nat} (hn : 30 ≤ n) (hp : MRep S p) (hW : Wy p rep 2000000000 (wM S)) (hC : Cv p rep (wM S)) : WaysOk p rep S (fixF (fun _ _ => none) (f_X9_layWays_141 n) n S (0 : Int32)) := by
  have hwf := hp.1
  have hT5 := hwf.1
  have hT10 := hwf.2.1
  have hsz := hp.2.1
  have FMv : FM = 1152921504606846976 := rfl
  refine for_up (α := Int32 × St) (f_X9_layWays_141 n) (fun _ _ => none) (nT p) (fun k T => T.1 = S.1 ∧ Wy p rep (pB k) (wM T) ∧ Cv p rep (wM T) ∧ Clo (nT p) k (wM T) ∧ (0 < k → ∀ i, i < nT p → 0 ≤ wM T i i)) (WaysOk p rep S) ?_ ?_ n 0 S (by omega) (by omega) ⟨rfl, by simpa [pB] using hW, hC, fun x _ _ hx => absurd hx (Nat.not_lt_zero _), fun h => absurd h (Nat.lt_irrefl _)⟩
  · rintro k T k141 hk ⟨q1, q2, q3, q4, q5⟩
    obtain ⟨B0, B1⟩ := pB_ok (show k < 10 by omega)
    have Bs := pB_s k
    generalize pB k = B at q2 B0 B1 Bs
    have goal : (WaysOk p rep S (f_X9_layWays_141 n k141 T (nI k)) ∨ ∃ S', (S'.1 = S.1 ∧ Wy p rep (6 * B) (wM S') ∧ Cv p rep (wM S') ∧ Clo (nT p) (k + 1) (wM S') ∧ (0 < k + 1 → ∀ i, i < nT p → 0 ≤ wM S' i i)) ∧ f_X9_layWays_141 n k141 T (nI k) = k141 S' (nI (k + 1))) := by
      unfold f_X9_layWays_141
      rw [q1, hsz, if_neg (by rw [nI_leI (by omega) (by omega)]; omega)]
      simp only [bd]
      refine for_up (α := Int32 × St) (f_X9_layWays_151 n (nI k) k141) (fun _ _ => none) (nT p) (fun s U => U.1 = S.1 ∧ Ps p rep B (wM T) (wM U) k s 0) (fun o => WaysOk p rep S o ∨ ∃ S', (S'.1 = S.1 ∧ Wy p rep (6 * B) (wM S') ∧ Cv p rep (wM S') ∧ Clo (nT p) (k + 1) (wM S') ∧ (0 < k + 1 → ∀ i, i < nT p → 0 ≤ wM S' i i)) ∧ o = k141 S' (nI (k + 1))) ?_ ?_ n 0 T (by omega) (by omega) ⟨q1, Ps.begin B0 q2⟩
      · rintro s U k151 hs ⟨u1, u2⟩
        right
        unfold f_X9_layWays_151
        rw [u1, hsz, if_neg (by rw [nI_leI (by omega) (by omega)]; omega)]
        simp only [bd]
        refine for_up (α := Int32 × St) (f_X9_layWays_161 n (nI k) (nI s) k141 k151) (fun _ _ => none) (nT p) (fun t U => U.1 = S.1 ∧ Ps p rep B (wM T) (wM U) k s t) (fun o => ∃ U', (U'.1 = S.1 ∧ Ps p rep B (wM T) (wM U') k (s + 1) 0) ∧ o = k151 U' (nI (s + 1))) ?_ ?_ n 0 U (by omega) (by omega) ⟨u1, u2⟩
        · rintro t U k161 ht ⟨v1, v2⟩
          right
          have b4 := v2.2.2.2.1
          have wr : ∀ v : Int64, (v.toInt = if wM U s k < FM ∧ wM U k t < FM then (if wM U s k + wM U k t < wM U s t then wM U s k + wM U k t else wM U s t) else wM U s t) → ∃ U', (U'.1 = S.1 ∧ Ps p rep B (wM T) (wM U') k s (t + 1)) ∧ f_X9_layWays_278 n (nI k) (nI s) k141 k151 k161 U (nI t) (nI (10 * s + t)) v = k161 U' (nI (t + 1)) := by
            intro v hv
            unfold f_X9_layWays_278
            rw [if_neg (nI_bad (by omega) (by omega)), nI_c (by omega)]
            simp only [bd]
            rw [nI_1]
            refine ⟨sL U 42 (10 * s + t) v, ⟨v1, v2.step B0 B1 q2 hk hs ht (fun i j hi hj hc => ?_) ?_⟩, rfl⟩
            · rw [wM_set (by omega) (by omega), if_neg hc]
            · rw [wM_set (by omega) (by omega), if_pos ⟨rfl, rfl⟩, hv]
          have no : ¬ (wM U s k < FM ∧ wM U k t < FM) → ∃ U', (U'.1 = S.1 ∧ Ps p rep B (wM T) (wM U') k s (t + 1)) ∧ f_X9_layWays_209 n (nI k) (nI s) k141 k151 k161 U (nI t) = k161 U' (nI (t + 1)) := by
            intro hc
            unfold f_X9_layWays_209 f_X9_layWays_210
            simp only [bd]
            rw [if_pos trivial, ixv, if_neg (nI_bad (by omega) (by omega)), nI_c (by omega)]
            exact wr _ (by rw [if_neg hc]; rfl)
          unfold f_X9_layWays_161
          rw [v1, hsz, if_neg (by rw [nI_leI (by omega) (by omega)]; omega), ixv, if_neg (nI_bad (by omega) (by omega)), nI_c (by omega)]
          by_cases c1 : wM U s k < FM
          · rw [if_neg (by rw [c_ge, FMi]; show ¬ FM ≤ wM U s k; omega), ixv, if_neg (nI_bad (by omega) (by omega)), nI_c (by omega)]
            by_cases c2 : wM U k t < FM
            · rw [if_neg (by rw [c_ge, FMi]; show ¬ FM ≤ wM U k t; omega)]
              unfold f_X9_layWays_210
              simp only [bd]
              rw [if_neg (by decide), ixv, if_neg (nI_bad (by omega) (by omega)), ixv, if_neg (nI_bad (by omega) (by omega)), ixv, if_neg (nI_bad (by omega) (by omega)), nI_c (by omega), nI_c (by omega), nI_c (by omega)]
              have x1 := b4 s k hs hk c1
              have x2 := b4 k t hk ht c2
              have ea : (U.2 42 (10 * s + k) + U.2 42 (10 * k + t)).toInt = wM U s k + wM U k t := by
                have y1 : (U.2 42 (10 * s + k)).toInt = wM U s k := rfl
                have y2 : (U.2 42 (10 * k + t)).toInt = wM U k t := rfl
                rw [l_add (by omega) (by omega), y1, y2]
              obtain ⟨r, z1, z2⟩ := least_m (n := n) (S := U) (U.2 42 (10 * s + t)) (U.2 42 (10 * s + k) + U.2 42 (10 * k + t))
              rw [bo_some z1]
              refine wr _ ?_
              rw [z2, ea, if_pos (show wM U s k < FM ∧ wM U k t < FM from ⟨c1, c2⟩)]
              rfl
            · rw [if_pos (by rw [c_ge, FMi]; show FM ≤ wM U k t; omega)]
              exact no (fun hc => c2 hc.2)
          · rw [if_pos (by rw [c_ge, FMi]; show FM ≤ wM U s k; omega)]
            exact no (fun hc => c1 hc.1)
        · rintro U k161 ⟨v1, v2⟩
          unfold f_X9_layWays_161
          rw [v1, hsz, if_pos (by rw [nI_leI (by omega) (by omega)]; omega)]
          simp only [bd]
          rw [nI_1]
          exact ⟨U, ⟨v1, v2.row⟩, rfl⟩
      · rintro U k151 ⟨u1, u2⟩
        unfold f_X9_layWays_151
        rw [u1, hsz, if_pos (by rw [nI_leI (by omega) (by omega)]; omega)]
        obtain ⟨r, a1, a2⟩ := below_m (n := n) (S := U) (by omega) hT10 (by rw [u1]; exact hsz)
        rw [bo_some a1]
        rcases a2 with ⟨rfl, i, hi, a2⟩ | ⟨rfl, a2⟩
        · left
          rw [if_neg (by decide)]
          exact ⟨1, U, rfl, u1, Or.inl ⟨rfl, u2.neg hi a2⟩⟩
        · right
          rw [if_pos rfl]
          simp only [bd]
          rw [nI_1]
          obtain ⟨f1, f2, f3⟩ := u2.finish B0 B1 hk q2 q3 q4 a2
          exact ⟨U, ⟨u1, f1, f2, f3, fun _ => a2⟩, rfl⟩
    rw [Bs]
    exact goal
  · rintro T k141 ⟨q1, q2, q3, q4, q5⟩
    unfold f_X9_layWays_141
    rw [q1, hsz, if_pos (by rw [nI_leI (by omega) (by omega)]; omega)]
    have dg := q5 (by omega)
    refine ⟨0, T, rfl, q1, Or.inr ⟨rfl, ⟨?_, fun i j hi hj hf => (q2.1 i j hi hj hf).1⟩, dg, q2.2⟩⟩
    intro i r hi hw
    refine walk_cov (N := nT p) (F := FM) (M := wM T) (fun i hi => ?_) (fun i j k hi hj hk h1 h2 => q4 k i j hk hi hj h1 h2) (fun a b w he ha => ?_) r i hi hw
    · have := q3 i i 0 (Or.inl ⟨hi, hi, rfl, rfl⟩) hi hi
      omega
    · have hb : b < nT p := by
        rcases he with he | ⟨k, hk, -, -, rfl, -⟩
        · exact he.2.1
        · exact (hwf.2.2.2.2.2 k hk).2.2.1
      exact ⟨hb, q3 a b w he ha hb⟩
theorem ways_m {n : Nat} {S : St} {p : Pb} {rep : Nat → Nat} (hn : 30 ≤ n) (hp : MRep S p) (h : MSm S (nT p) rep) (hr : Rp (nT p) rep) : WaysOk p rep S (f_X9_layWays n S) := by
  have hwf := hp.1
  have hT5 := hwf.1
  have hT10 := hwf.2.1
  have hL10 := hwf.2.2.1
  have hsz := hp.2.1
  have hlz := hp.2.2.2.2.2.1
  have FMv : FM = 1152921504606846976 := rfl
  unfold f_X9_layWays
  simp only [bd]
  refine for_up (α := Int32 × St) (f_X9_layWays_2 n) (fun _ _ => none) (nT p) (fun s T => T.1 = S.1 ∧ ∀ i j, i < s → j < nT p → wM T i j = if rep i = rep j then 0 else FM) (WaysOk p rep S) ?_ ?_ n 0 S (by omega) (by omega) ⟨rfl, fun i j hi => absurd hi (Nat.not_lt_zero _)⟩
  · rintro s T k2 hs ⟨q1, q2⟩
    right
    unfold f_X9_layWays_2
    rw [q1, hsz, if_neg (by rw [nI_leI (by omega) (by omega)]; omega)]
    simp only [bd]
    refine for_up (α := Int32 × St) (f_X9_layWays_12 n (nI s) k2) (fun _ _ => none) (nT p) (fun t T => T.1 = S.1 ∧ (∀ i j, i < s → j < nT p → wM T i j = if rep i = rep j then 0 else FM) ∧ ∀ j, j < t → wM T s j = if rep s = rep j then 0 else FM) (fun o => ∃ T', (T'.1 = S.1 ∧ ∀ i j, i < s + 1 → j < nT p → wM T' i j = if rep i = rep j then 0 else FM) ∧ o = k2 T' (nI (s + 1))) ?_ ?_ n 0 T (by omega) (by omega) ⟨q1, q2, fun j hj => absurd hj (Nat.not_lt_zero _)⟩
    · rintro t T k12 ht ⟨v1, v2, v3⟩
      right
      have rs := (hr s hs).1
      have rt := (hr t ht).1
      have wr : ∀ v : Int64, (v.toInt = if rep s = rep t then 0 else FM) → ∃ T', (T'.1 = S.1 ∧ (∀ i j, i < s → j < nT p → wM T' i j = if rep i = rep j then 0 else FM) ∧ ∀ j, j < t + 1 → wM T' s j = if rep s = rep j then 0 else FM) ∧ f_X9_layWays_52 n (nI s) k2 k12 T (nI t) (nI (10 * s + t)) v = k12 T' (nI (t + 1)) := by
        intro v hv
        unfold f_X9_layWays_52
        rw [if_neg (nI_bad (by omega) (by omega)), nI_c (by omega)]
        simp only [bd]
        rw [nI_1]
        refine ⟨sL T 42 (10 * s + t) v, ⟨v1, fun i j hi hj => ?_, fun j hj => ?_⟩, rfl⟩
        · rw [wM_set (by omega) (by omega), if_neg (by omega)]; exact v2 i j hi hj
        · rw [wM_set (by omega) (by omega)]
          by_cases ej : j = t
          · subst ej; rw [if_pos ⟨rfl, rfl⟩, hv]
          · rw [if_neg (by omega)]; exact v3 j (by omega)
      unfold f_X9_layWays_12
      rw [v1, hsz, if_neg (by rw [nI_leI (by omega) (by omega)]; omega), if_neg (nI_bad (by omega) (by omega)), if_neg (nI_bad (by omega) (by omega)), nI_c (by omega), nI_c (by omega), h s hs, h t ht, ixv]
      by_cases c : rep s = rep t
      · rw [if_pos (by rw [c])]
        exact wr _ (by rw [if_pos c, z64])
      · rw [if_neg (by rw [nI_eq (by omega) (by omega)]; exact c)]
        exact wr _ (by rw [if_neg c, FMi])
    · rintro T k12 ⟨v1, v2, v3⟩
      unfold f_X9_layWays_12
      rw [v1, hsz, if_pos (by rw [nI_leI (by omega) (by omega)]; omega)]
      simp only [bd]
      rw [nI_1]
      refine ⟨T, ⟨v1, fun i j hi hj => ?_⟩, rfl⟩
      by_cases e : i = s
      · subst e; exact v3 j hj
      · exact v2 i j (by omega) hj
  · rintro T k2 ⟨q1, q2⟩
    unfold f_X9_layWays_2
    rw [q1, hsz, if_pos (by rw [nI_leI (by omega) (by omega)]; omega)]
    simp only [bd]
    -- the literals
    refine for_up (α := Int32 × St) (f_X9_layWays_67 n) (fun _ _ => none) (nL p) (fun k U => U.1 = S.1 ∧ Wy p rep 2000000000 (wM U) ∧ (∀ a b, a < nT p → b < nT p → rep a = rep b → wM U a b ≤ 0) ∧ ∀ i, i < k → (lit p i).1 = 2 → wM U (lit p i).2.1 (lit p i).2.2.1 ≤ (lit p i).2.2.2) (WaysOk p rep S) ?_ ?_ n 0 T (by omega) (by omega) ⟨q1, ⟨fun i j hi hj hf => ?_, fun i j hi hj => ?_⟩, fun a b ha hb e => ?_, fun i hi => absurd hi (Nat.not_lt_zero _)⟩
    · rintro k U k67 hk ⟨u1, u2, u3, u4⟩
      right
      have w := hwf.2.2.2.2.2 k hk
      have l := hp.2.2.2.2.2.2 k hk
      have wr : ∀ v : Int64, ((lit p k).1 = 2 → v.toInt = if (lit p k).2.2.2 < wM U (lit p k).2.1 (lit p k).2.2.1 then (lit p k).2.2.2 else wM U (lit p k).2.1 (lit p k).2.2.1) → ((lit p k).1 ≠ 2 → v.toInt = wM U (lit p k).2.1 (lit p k).2.2.1) → ∃ U', (U'.1 = S.1 ∧ Wy p rep 2000000000 (wM U') ∧ (∀ a b, a < nT p → b < nT p → rep a = rep b → wM U' a b ≤ 0) ∧ ∀ i, i < k + 1 → (lit p i).1 = 2 → wM U' (lit p i).2.1 (lit p i).2.2.1 ≤ (lit p i).2.2.2) ∧ f_X9_layWays_132 n k67 U (nI k) (nI (10 * (lit p k).2.1 + (lit p k).2.2.1)) v = k67 U' (nI (k + 1)) := by
        intro v hv1 hv2
        unfold f_X9_layWays_132
        rw [if_neg (nI_bad (by omega) (by omega)), nI_c (by omega)]
        simp only [bd]
        rw [nI_1]
        have vle : v.toInt ≤ wM U (lit p k).2.1 (lit p k).2.2.1 := by
          by_cases c : (lit p k).1 = 2
          · rw [hv1 c]; split <;> omega
          · rw [hv2 c]; omega
        have al : ∀ a b, a < nT p → b < nT p → wM (sL U 42 (10 * (lit p k).2.1 + (lit p k).2.2.1) v) a b ≤ wM U a b := fun a b ha hb => by
          rw [wM_set (by omega) (by omega)]
          by_cases e : a = (lit p k).2.1 ∧ b = (lit p k).2.2.1
          · rw [if_pos e, e.1, e.2]; exact vle
          · rw [if_neg e]; omega
        refine ⟨sL U 42 (10 * (lit p k).2.1 + (lit p k).2.2.1) v, ⟨u1, ⟨fun i j hi hj hf => ?_, fun i j hi hj => ?_⟩, fun a b ha hb e => ?_, fun i hi e => ?_⟩, rfl⟩
        · rw [wM_set (by omega) (by omega)] at hf ⊢
          by_cases e : i = (lit p k).2.1 ∧ j = (lit p k).2.2.1
          · rw [if_pos e] at hf ⊢
            by_cases c : (lit p k).1 = 2
            · have hv := hv1 c
              by_cases c2 : (lit p k).2.2.2 < wM U (lit p k).2.1 (lit p k).2.2.1
              · rw [if_pos c2] at hv
                rw [hv]
                exact ⟨⟨[(j, (lit p k).2.2.2)], ⟨Or.inr ⟨k, hk, c, e.1, e.2, rfl⟩, trivial⟩, rfl, by simp [pt]⟩, by omega, by omega⟩
              · rw [if_neg c2] at hv
                rw [hv] at hf ⊢
                rw [e.1, e.2]
                exact u2.1 _ _ w.2.1 w.2.2.1 hf
            · rw [hv2 c] at hf ⊢
              rw [e.1, e.2]
              exact u2.1 _ _ w.2.1 w.2.2.1 hf
          · rw [if_neg e] at hf ⊢
            exact u2.1 i j hi hj hf
        · have := al i j hi hj; have := u2.2 i j hi hj; omega
        · have := al a b ha hb; have := u3 a b ha hb e; omega
        · have wi := hwf.2.2.2.2.2 i (by omega)
          by_cases ei : i = k
          · subst ei
            rw [wM_set (by omega) (by omega), if_pos ⟨rfl, rfl⟩, hv1 e]
            split <;> omega
          · have := al _ _ wi.2.1 wi.2.2.1; have := u4 i (by omega) e; omega
      unfold f_X9_layWays_67
      rw [u1, hlz, if_neg (by rw [nI_leI (by omega) (by omega)]; omega), if_neg (nI_bad (by omega) (by omega)), if_neg (nI_bad (by omega) (by omega)), nI_c (by omega)]
      simp only [bd]
      rw [l.1, l.2.1, l.2.2.1, ixv, if_neg (fun hc => hc.elim (nI_pos (by omega)) (by omega))]
      by_cases e : (lit p k).1 = 2
      · rw [if_pos (by rw [e]; rfl), if_neg (nI_bad (by omega) (by omega)), if_neg (fun hc => hc.elim (nI_pos (by omega)) (by omega)), nI_c (by omega)]
        obtain ⟨r, z1, z2⟩ := least_m (n := n) (S := U) (U.2 42 (10 * (lit p k).2.1 + (lit p k).2.2.1)) ((S.1 33 k).toInt64)
        rw [bo_some z1]
        rw [i2l, l.2.2.2] at z2
        exact wr _ (fun _ => z2) (fun hc => absurd e hc)
      · rw [if_neg (by rw [show (2 : Int32) = nI 2 from rfl, nI_eq (by omega) (by omega)]; exact e), if_neg (nI_bad (by omega) (by omega)), nI_c (by omega)]
        exact wr _ (fun hc => absurd hc e) (fun _ => rfl)
    · rintro U k67 ⟨u1, u2, u3, u4⟩
      unfold f_X9_layWays_67
      rw [u1, hlz, if_pos (by rw [nI_leI (by omega) (by omega)]; omega)]
      simp only [bd]
      obtain ⟨r, V, z1, z2, z3⟩ := ways3 (n := n) (S := U) (p := p) (rep := rep) hn (hp.keep (fun c _ => by rw [u1]) (by rw [u1]) (by rw [u1])) u2 (by
        rintro a b w (⟨h1, h2, h3, rfl⟩ | ⟨k, hk, h2, rfl, rfl, rfl⟩) ha hb
        · have := u3 a b ha hb h3; omega
        · have := u4 k hk h2; have := hwf.2.2.2.2.2 k hk; omega)
      exact ⟨r, V, z1, z2.trans u1, z3⟩
    · rw [q2 i j hi hj] at hf ⊢
      by_cases c : rep i = rep j
      · rw [if_pos c]
        exact ⟨⟨[(j, 0)], ⟨Or.inl ⟨hi, hj, c, rfl⟩, trivial⟩, rfl, by simp [pt]⟩, by omega, by omega⟩
      · rw [if_neg c] at hf; omega
    · rw [q2 i j hi hj]; split <;> omega
    · rw [q2 a b ha hb, if_pos e]; omega
