/-! THE CLASS'S EXCHANGE: rounds -/
theorem Cg.rel {p : Pb} {rep : Nat → Nat} {N s t : Nat} (hwf : PbWf p) (hN : N = nT p) (h5 : 5 ≤ s) (hst : s < t) (ht : t < nT p) (h : Cg p rep s t) (R : Nat → Nat → Prop) (hR : Eqv R) (hQ : Qc p R) (hr : ∀ t, t < N → R t (rep t)) : R s t := by
  have ws := hwf.2.2.2.2.1 s h5 (by omega)
  have wt := hwf.2.2.2.2.1 t (by omega) ht
  have go : ∀ x y, x < N → y < N → rep x = rep y → R x y := fun x y hx hy e => hR.2.2 _ _ _ (hr x hx) (by rw [e]; exact hR.2.1 _ _ (hr y hy))
  exact hQ s t h5 hst ht h.1 (go _ _ (by omega) (by omega) h.2.1) (fun e => go _ _ (by have := h.1; omega) (by have := h.1; omega) (h.2.2 e))
theorem congruence_c {n : Nat} {S : St} {p : Pb} {rep : Nat → Nat} (hn : 30 ≤ n) (hp : CRep S p) (h : CSm S (nT p) rep) (hr : Rp (nT p) rep) : ∃ T r1, f_X2_joinByCongruence n S = some ((), T) ∧ Keeps wr_X2_joinByCongruence S T ∧ CSm T (nT p) r1 ∧ JR (nT p) (Qc p) rep r1 ∧ Qc p (Er r1) := by
  suffices hh : ∃ T r1, f_X2_joinByCongruence n S = some ((), T) ∧ CSm T (nT p) r1 ∧ JR (nT p) (Qc p) rep r1 ∧ Qc p (Er r1) by
    obtain ⟨T, r1, x, y⟩ := hh
    exact ⟨T, r1, x, fr_X2_joinByCongruence n S _ T x, y⟩
  have hwf := hp.1
  have hT5 := hwf.1
  have hT10 := hwf.2.1
  unfold f_X2_joinByCongruence
  simp only [bd]
  refine for_up2' (α := Unit × St) (β := Int32) (f_X2_joinByCongruence_4 n) (fun _ _ _ => none) 10 (fun i T x => CRep T p ∧ ∃ r1, CSm T (nT p) r1 ∧ JR (nT p) (Qc p) rep r1 ∧ ((x = 1 ∧ cnt r1 (nT p) + i ≤ 10) ∨ (x = 0 ∧ Qc p (Er r1)))) (fun o => ∃ T r1, o = some ((), T) ∧ CSm T (nT p) r1 ∧ JR (nT p) (Qc p) rep r1 ∧ Qc p (Er r1)) ?_ ?_ n 0 S 1 (by omega) (by omega) ⟨hp, rep, h, JR.rf hr, Or.inl ⟨rfl, by have := cnt_le rep (nT p); omega⟩⟩
  · rintro i T x k4 hi ⟨q1, r1, q2, q3, q4⟩
    unfold f_X2_joinByCongruence_4
    rw [if_neg (by rw [show (10 : Int32) = nI 10 from rfl, nI_leI (by omega) (by omega)]; omega)]
    rcases q4 with ⟨rfl, q4⟩ | ⟨rfl, q4⟩
    · right
      rw [if_neg (by decide)]
      simp only [bd]
      refine for_up2' (α := Unit × St) (β := Int32) (f_X2_joinByCongruence_18 n (nI i) k4) (fun _ _ _ => none) (nT p) (fun s T x => 5 ≤ s ∧ CRep T p ∧ ∃ r2, CSm T (nT p) r2 ∧ JR (nT p) (Qc p) rep r2 ∧ ((x = 1 ∧ cnt r2 (nT p) < cnt r1 (nT p)) ∨ (x = 0 ∧ r2 = r1 ∧ ∀ a b, 5 ≤ a → a < s → a < b → b < nT p → Cg p r1 a b → r1 a = r1 b))) (fun o => ∃ T' x', (CRep T' p ∧ ∃ r1, CSm T' (nT p) r1 ∧ JR (nT p) (Qc p) rep r1 ∧ ((x' = 1 ∧ cnt r1 (nT p) + (i + 1) ≤ 10) ∨ (x' = 0 ∧ Qc p (Er r1)))) ∧ o = k4 T' x' (nI (i + 1))) ?_ ?_ n 5 T 0 (by omega) (by omega) ⟨by omega, q1, r1, q2, q3, Or.inr ⟨rfl, rfl, fun a b _ _ _ _ => by omega⟩⟩
      · rintro s T x k18 hs ⟨h5, u1, r2, u2, u3, u4⟩
        right
        unfold f_X2_joinByCongruence_18
        rw [bo_some (size7 u1), if_neg (by rw [nI_leI (by omega) (by omega)]; omega)]
        simp only [bd]
        rw [nI_1]
        refine for_up2' (α := Unit × St) (β := Int32) (f_X2_joinByCongruence_34 n (nI i) (nI s) k4 k18) (fun _ _ _ => none) (nT p) (fun t T x => s < t ∧ CRep T p ∧ ∃ r2, CSm T (nT p) r2 ∧ JR (nT p) (Qc p) rep r2 ∧ ((x = 1 ∧ cnt r2 (nT p) < cnt r1 (nT p)) ∨ (x = 0 ∧ r2 = r1 ∧ (∀ a b, 5 ≤ a → a < s → a < b → b < nT p → Cg p r1 a b → r1 a = r1 b) ∧ ∀ b, s < b → b < t → Cg p r1 s b → r1 s = r1 b))) (fun o => ∃ T' x', (5 ≤ s + 1 ∧ CRep T' p ∧ ∃ r2, CSm T' (nT p) r2 ∧ JR (nT p) (Qc p) rep r2 ∧ ((x' = 1 ∧ cnt r2 (nT p) < cnt r1 (nT p)) ∨ (x' = 0 ∧ r2 = r1 ∧ ∀ a b, 5 ≤ a → a < s + 1 → a < b → b < nT p → Cg p r1 a b → r1 a = r1 b))) ∧ o = k18 T' x' (nI (s + 1))) ?_ ?_ n (s + 1) T x (by omega) (by omega) ⟨by omega, u1, r2, u2, u3, u4.imp id (fun ⟨z1, z2, z3⟩ => ⟨z1, z2, z3, fun b _ _ => by omega⟩)⟩
        · rintro t T x k34 ht ⟨hst, v1, r2, v2, v3, v4⟩
          right
          have st : ∀ T x, f_X2_joinByCongruence_68 n (nI i) (nI s) k4 k18 k34 T x (nI t) = k34 T x (nI (t + 1)) := fun T x => by unfold f_X2_joinByCongruence_68; simp only [bd]; rw [nI_1]
          unfold f_X2_joinByCongruence_34
          rw [bo_some (size7 v1), if_neg (by rw [nI_leI (by omega) (by omega)]; omega)]
          obtain ⟨r, a1, a2⟩ := args_c (n := n) v1 v2 v3.1 h5 hs (by omega) ht
          rw [bo_some a1]
          rcases a2 with ⟨rfl, a2⟩ | ⟨rfl, a2⟩
          · rw [if_neg (by decide)]
            obtain ⟨r, U, b1, b2, b3⟩ := join_c (n := n) (by omega) hT10 v2 v3.1 hs ht
            rw [bo_some b1]
            rcases b3 with ⟨rfl, rfl, b3⟩ | ⟨rfl, b3, b4⟩
            · rw [if_pos rfl, st]
              refine ⟨_, _, ⟨by omega, v1, r2, v2, v3, v4.imp id (fun ⟨z1, z2, z3, z4⟩ => ⟨z1, z2, z3, fun b hb1 hb2 hb3 => ?_⟩)⟩, rfl⟩
              by_cases e : b = t
              · subst e; rw [← z2]; exact b3
              · exact z4 b hb1 (by omega) hb3
            · rw [if_neg (by decide)]
              simp only [bd]
              rw [st]
              refine ⟨_, _, ⟨by omega, v1.keep (fun c hc => (b2 c (by unfold wr_X2_join; omega)).1), _, b4, v3.join hs ht (fun R hR hQ hs' => Cg.rel hwf rfl h5 hst ht a2 R hR hQ hs'), Or.inl ⟨rfl, ?_⟩⟩, rfl⟩
              have c1 := jn_cnt v3.1 hs ht b3
              rcases v4 with ⟨-, z⟩ | ⟨-, rfl, -⟩ <;> omega
          · rw [if_pos rfl, st]
            refine ⟨_, _, ⟨by omega, v1, r2, v2, v3, v4.imp id (fun ⟨z1, z2, z3, z4⟩ => ⟨z1, z2, z3, fun b hb1 hb2 hb3 => ?_⟩)⟩, rfl⟩
            by_cases e : b = t
            · subst e; rw [← z2] at hb3; exact absurd hb3 a2
            · exact z4 b hb1 (by omega) hb3
        · rintro T x k34 ⟨hst, v1, r2, v2, v3, v4⟩
          unfold f_X2_joinByCongruence_34
          rw [bo_some (size7 v1), if_pos (by rw [nI_leI (by omega) (by omega)]; omega)]
          simp only [bd]
          rw [nI_1]
          refine ⟨_, _, ⟨by omega, v1, r2, v2, v3, v4.imp id (fun ⟨z1, z2, z3, z4⟩ => ⟨z1, z2, fun a b ha hb hc hd he => ?_⟩)⟩, rfl⟩
          by_cases e : a = s
          · subst e; exact z4 b hc hd he
          · exact z3 a b ha (by omega) hc hd he
      · rintro T x k18 ⟨h5, u1, r2, u2, u3, u4⟩
        unfold f_X2_joinByCongruence_18
        rw [bo_some (size7 u1), if_pos (by rw [nI_leI (by omega) (by omega)]; omega)]
        simp only [bd]
        rw [nI_1]
        refine ⟨_, _, ⟨u1, r2, u2, u3, u4.imp (fun ⟨z1, z2⟩ => ⟨z1, by omega⟩) (fun ⟨z1, z2, z3⟩ => ⟨z1, fun s t hs hst ht e1 e2 e3 => ?_⟩)⟩, rfl⟩
        subst z2
        exact z3 s t hs (by omega) hst ht ⟨e1, e2, e3⟩
    · left
      rw [if_pos rfl]
      exact ⟨T, r1, rfl, q2, q3, q4⟩
  · rintro T x k4 ⟨q1, r1, q2, q3, q4⟩
    unfold f_X2_joinByCongruence_4
    rw [if_pos (by decide)]
    rcases q4 with ⟨-, q4⟩ | ⟨-, q4⟩
    · have := cnt_pos q3.1 (by omega); omega
    · exact ⟨T, r1, rfl, q2, q3, q4⟩
