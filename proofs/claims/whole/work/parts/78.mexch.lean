/-! THE REFERENCE'S EXCHANGE: tight pairs, the rounds -/
theorem tight_m {n : Nat} {S : St} {p : Pb} {rep : Nat → Nat} (hn : 30 ≤ n) (hp : MRep S p) (h : MSm S (nT p) rep) (hr : Rp (nT p) rep) (hD : Dist p rep FM (wM S)) (hd : ∀ i, i < nT p → 0 ≤ wM S i i) (hB : ∀ i j, i < nT p → j < nT p → wM S i j ≤ FM) : ∃ r T r2, f_X9_joinTight n S = some (r, T) ∧ Keeps wr_X9_joinTight S T ∧ MSm T (nT p) r2 ∧ JR (nT p) (Qt p rep) rep r2 ∧ Qt p rep (Er r2) ∧ ((r = 1 ∧ Tx p rep) ∨ (r = 0 ∧ ¬ Tx p rep)) := by
  suffices hh : ∃ r T r2, f_X9_joinTight n S = some (r, T) ∧ MSm T (nT p) r2 ∧ JR (nT p) (Qt p rep) rep r2 ∧ Qt p rep (Er r2) ∧ ((r = 1 ∧ Tx p rep) ∨ (r = 0 ∧ ¬ Tx p rep)) by
    obtain ⟨r, T, r2, x, y⟩ := hh
    exact ⟨r, T, r2, x, fr_X9_joinTight n S _ T x, y⟩
  have hwf := hp.1
  have hT5 := hwf.1
  have hT10 := hwf.2.1
  have F0 : (0 : Int) < FM := by decide
  have FMv : FM = 1152921504606846976 := rfl
  have lowb : ∀ i j, i < nT p → j < nT p → wM S i j < FM → wM S j i < FM → 0 ≤ wM S i j + wM S j i := fun i j hi hj f1 f2 => by
    obtain ⟨r, r1, r2, r3⟩ := hD.2 i j hi hj f1
    obtain ⟨u, u1, u2, u3⟩ := hD.2 j i hj hi f2
    have g := hD.1 i (r ++ u) hi ((pw_app _ r u i).mpr ⟨r1, by rw [r2]; exact u1⟩)
    rw [pe_app, r2, u2, pt_app, r3, u3] at g
    have := hd i hi
    omega
  unfold f_X9_joinTight
  simp only [bd]
  refine for_up2' (α := Int32 × St) (β := Int32) (f_X9_joinTight_4 n) (fun _ _ _ => none) (nT p) (fun s T x => MRep T p ∧ T.2 42 = S.2 42 ∧ ∃ r2, MSm T (nT p) r2 ∧ JR (nT p) (Qt p rep) rep r2 ∧ (∀ a b, b < s → a < b → Tight p rep a b → r2 a = r2 b) ∧ ((x = 1 ∧ Tx p rep) ∨ (x = 0 ∧ r2 = rep))) (fun o => ∃ r T r2, o = some (r, T) ∧ MSm T (nT p) r2 ∧ JR (nT p) (Qt p rep) rep r2 ∧ Qt p rep (Er r2) ∧ ((r = 1 ∧ Tx p rep) ∨ (r = 0 ∧ ¬ Tx p rep))) ?_ ?_ n 0 S 0 (by omega) (by omega) ⟨hp, rfl, rep, h, JR.rf hr, fun a b hb => absurd hb (Nat.not_lt_zero _), Or.inr ⟨rfl, rfl⟩⟩
  · rintro s T x k4 hs ⟨u1, u2, r2, u3, u4, u5, u6⟩
    right
    unfold f_X9_joinTight_4
    rw [u1.2.1, if_neg (by rw [nI_leI (by omega) (by omega)]; omega)]
    simp only [bd]
    refine for_up2' (α := Int32 × St) (β := Int32) (f_X9_joinTight_14 n (nI s) k4) (fun _ _ _ => none) s (fun t T x => MRep T p ∧ T.2 42 = S.2 42 ∧ ∃ r2, MSm T (nT p) r2 ∧ JR (nT p) (Qt p rep) rep r2 ∧ (∀ a b, b < s → a < b → Tight p rep a b → r2 a = r2 b) ∧ (∀ b, b < t → Tight p rep b s → r2 b = r2 s) ∧ ((x = 1 ∧ Tx p rep) ∨ (x = 0 ∧ r2 = rep))) (fun o => ∃ T' x', (MRep T' p ∧ T'.2 42 = S.2 42 ∧ ∃ r2, MSm T' (nT p) r2 ∧ JR (nT p) (Qt p rep) rep r2 ∧ (∀ a b, b < s + 1 → a < b → Tight p rep a b → r2 a = r2 b) ∧ ((x' = 1 ∧ Tx p rep) ∨ (x' = 0 ∧ r2 = rep))) ∧ o = k4 T' x' (nI (s + 1))) ?_ ?_ n 0 T x (by omega) (by omega) ⟨u1, u2, r2, u3, u4, u5, fun b hb => absurd hb (Nat.not_lt_zero _), u6⟩
    · rintro t T x k14 hts ⟨v1, v2, r2, v3, v4, v5, v6, v7⟩
      right
      have ht : t < nT p := by omega
      have rs := (v4.1 s hs).1
      have rt := (v4.1 t ht).1
      have eM : wM T = wM S := by unfold wM; rw [v2]
      have eT := Dist.tight F0 hD hd ht hs
      have st : ∀ T x, f_X9_joinTight_134 n (nI s) k4 k14 T x (nI t) = k14 T x (nI (t + 1)) := fun T x => by unfold f_X9_joinTight_134; simp only [bd]; rw [nI_1]
      -- nothing happens
      have idle : (Tight p rep t s → r2 t = r2 s) → ∃ T' x', (MRep T' p ∧ T'.2 42 = S.2 42 ∧ ∃ r2, MSm T' (nT p) r2 ∧ JR (nT p) (Qt p rep) rep r2 ∧ (∀ a b, b < s → a < b → Tight p rep a b → r2 a = r2 b) ∧ (∀ b, b < t + 1 → Tight p rep b s → r2 b = r2 s) ∧ ((x' = 1 ∧ Tx p rep) ∨ (x' = 0 ∧ r2 = rep))) ∧ k14 T x (nI (t + 1)) = k14 T' x' (nI (t + 1)) := fun hc => by
        refine ⟨T, x, ⟨v1, v2, r2, v3, v4, v5, fun b hb1 hb2 => ?_, v7⟩, rfl⟩
        by_cases e : b = t
        · subst e; exact hc hb2
        · exact v6 b (by omega) hb2
      have far : ¬ (wM S s t < FM ∧ wM S t s < FM) → ¬ Tight p rep t s := fun hc hT => by
        have := eT.mp hT
        omega
      have no : ¬ (wM S s t < FM ∧ wM S t s < FM) → ∃ T' x', (MRep T' p ∧ T'.2 42 = S.2 42 ∧ ∃ r2, MSm T' (nT p) r2 ∧ JR (nT p) (Qt p rep) rep r2 ∧ (∀ a b, b < s → a < b → Tight p rep a b → r2 a = r2 b) ∧ (∀ b, b < t + 1 → Tight p rep b s → r2 b = r2 s) ∧ ((x' = 1 ∧ Tx p rep) ∨ (x' = 0 ∧ r2 = rep))) ∧ f_X9_joinTight_59 n (nI s) k4 k14 T x (nI t) = k14 T' x' (nI (t + 1)) := fun hc => by
        unfold f_X9_joinTight_59 f_X9_joinTight_60
        simp only [bd]
        rw [if_pos trivial, st]
        exact idle (fun hT => absurd hT (far hc))
      have y1 : (T.2 42 (10 * s + t)).toInt = wM S s t := by rw [← eM]; rfl
      have y2 : (T.2 42 (10 * t + s)).toInt = wM S t s := by rw [← eM]; rfl
      unfold f_X9_joinTight_14
      rw [if_neg (by rw [nI_leI (by omega) (by omega)]; omega), ixv, if_neg (nI_bad (by omega) (by omega)), nI_c (by omega)]
      by_cases c1 : wM S s t < FM
      · rw [if_neg (by rw [c_ge, FMi, y1]; omega), ixv, if_neg (nI_bad (by omega) (by omega)), nI_c (by omega)]
        by_cases c2 : wM S t s < FM
        · rw [if_neg (by rw [c_ge, FMi, y2]; omega)]
          unfold f_X9_joinTight_60
          simp only [bd]
          rw [if_neg (by decide), if_neg (nI_bad (by omega) (by omega)), if_neg (nI_bad (by omega) (by omega)), nI_c (show s < 2 ^ 31 by omega), nI_c (show t < 2 ^ 31 by omega), v3 s hs, v3 t ht]
          by_cases c3 : r2 s = r2 t
          · rw [if_pos (by rw [c3]), st]
            exact idle (fun _ => c3.symm)
          · rw [if_neg (by rw [nI_eq (by omega) (by omega)]; exact c3), ixv, if_neg (nI_bad (by omega) (by omega)), ixv, if_neg (nI_bad (by omega) (by omega)), nI_c (by omega), nI_c (by omega)]
            have lo := lowb s t hs ht c1 c2
            have ea : (T.2 42 (10 * s + t) + T.2 42 (10 * t + s)).toInt = wM S s t + wM S t s := by
              rw [l_add (by omega) (by omega), y1, y2]
            by_cases c4 : wM S s t + wM S t s = 0
            · rw [if_pos (by rw [c_eq, z64, ea]; exact c4), if_neg (fun hc => hc.elim (nI_pos (by omega)) (by omega))]
              by_cases c5 : wM S s t = 0
              · rw [if_pos (by rw [c_eq, z64, y1]; exact c5)]
                have hT : Tight p rep t s := eT.mpr ⟨by omega, c5⟩
                obtain ⟨U, b1, b2, b3⟩ := join_m (n := n) (by omega) hT10 v1.2.1 v3 v4.1 hs ht
                rw [bo_some b1, st]
                refine ⟨_, _, ⟨v1.k41 b2, by rw [(b2 42 (by unfold wr_X9_join; omega)).2, v2], _, b3, v4.join hs ht (fun R hR hQ _ => hR.2.1 _ _ (hQ t s ht hs hT)), fun a b ha hb hc => jn_keep (v5 a b ha hb hc), fun b hb1 hb2 => ?_, Or.inl ⟨rfl, t, s, ht, hs, hT, fun e => c3 (v4.2.1 _ _ e).symm⟩⟩, rfl⟩
                by_cases e : b = t
                · subst e; exact jn_same.symm
                · exact jn_keep (v6 b (by omega) hb2)
              · rw [if_neg (by rw [c_eq, z64, y1]; exact c5), st]
                exact idle (fun hT => absurd (eT.mp hT).2 c5)
            · rw [if_neg (by rw [c_eq, z64, ea]; exact c4), st]
              exact idle (fun hT => by have := eT.mp hT; omega)
        · rw [if_pos (by rw [c_ge, FMi, y2]; omega)]
          exact no (fun hc => c2 hc.2)
      · rw [if_pos (by rw [c_ge, FMi, y1]; omega)]
        exact no (fun hc => c1 hc.1)
    · rintro T x k14 ⟨v1, v2, r2, v3, v4, v5, v6, v7⟩
      unfold f_X9_joinTight_14
      rw [if_pos (by rw [nI_leI (by omega) (by omega)]; omega)]
      simp only [bd]
      rw [nI_1]
      refine ⟨_, _, ⟨v1, v2, r2, v3, v4, fun a b hb ha hT => ?_, v7⟩, rfl⟩
      by_cases e : b = s
      · subst e; exact v6 a ha hT
      · exact v5 a b (by omega) ha hT
  · rintro T x k4 ⟨u1, u2, r2, u3, u4, u5, u6⟩
    unfold f_X9_joinTight_4
    rw [u1.2.1, if_pos (by rw [nI_leI (by omega) (by omega)]; omega), if_neg (by rcases u6 with ⟨rfl, -⟩ | ⟨rfl, -⟩ <;> decide)]
    have hq : Qt p rep (Er r2) := qt_of (fun a b ha hab hb hT => u5 a b hb hab hT)
    refine ⟨x, T, r2, rfl, u3, u4, hq, u6.imp id (fun ⟨z1, z2⟩ => ⟨z1, ?_⟩)⟩
    rintro ⟨s, t, h1, h2, h3, h4⟩
    subst z2
    exact h4 (hq s t h1 h2 h3)
/-- the same but for the mark of a clash -/
def K27 (S T : St) : Prop := T.2 = S.2 ∧ ∀ c j, ¬ (c = 28 ∧ j = 27) → T.1 c j = S.1 c j
theorem K27.rep {S T : St} {p : Pb} (k : K27 S T) (h : MRep S p) : MRep T p := h.keep (fun c hc => by funext j; exact k.2 c j (by omega)) (k.2 28 18 (by omega)) (k.2 28 2 (by omega))
theorem clash_m {n : Nat} {S : St} {p : Pb} {rep : Nat → Nat} (hn : 30 ≤ n) (hp : MRep S p) (h : MSm S (nT p) rep) (hr : Rp (nT p) rep) (h27 : S.1 28 27 = 0 ∨ S.1 28 27 = 1) : ∃ T, fixF (fun _ _ => none) (f_X9_layExchange_127 n) n S (0 : Int32) = some ((), T) ∧ K27 S T ∧ (T.1 28 27 = 0 ∨ T.1 28 27 = 1) ∧ (T.1 28 27 = 1 ↔ S.1 28 27 = 1 ∨ Vi p rep) := by
  have hwf := hp.1
  have hT10 := hwf.2.1
  have hL10 := hwf.2.2.1
  refine for_up (α := Unit × St) (f_X9_layExchange_127 n) (fun _ _ => none) (nL p) (fun i T => K27 S T ∧ (T.1 28 27 = 0 ∨ T.1 28 27 = 1) ∧ (T.1 28 27 = 1 ↔ S.1 28 27 = 1 ∨ ∃ k, k < i ∧ (lit p k).1 = 1 ∧ rep (lit p k).2.1 = rep (lit p k).2.2.1)) (fun o => ∃ T, o = some ((), T) ∧ K27 S T ∧ (T.1 28 27 = 0 ∨ T.1 28 27 = 1) ∧ (T.1 28 27 = 1 ↔ S.1 28 27 = 1 ∨ Vi p rep)) ?_ ?_ n 0 S (by omega) (by omega) ⟨⟨rfl, fun _ _ _ => rfl⟩, h27, ⟨fun hc => Or.inl hc, fun hc => hc.elim id (fun ⟨k, hk, _⟩ => absurd hk (Nat.not_lt_zero _))⟩⟩
  · rintro i T k hi ⟨q1, q2, q3⟩
    right
    have w := hwf.2.2.2.2.2 i hi
    have qp := q1.rep hp
    have l := qp.2.2.2.2.2.2 i hi
    have e41 : ∀ t, t < nT p → T.1 41 t = nI (rep t) := fun t ht => by rw [q1.2 41 t (by omega)]; exact h t ht
    have b1 := (hr (lit p i).2.1 w.2.1).1
    have b2 := (hr (lit p i).2.2.1 w.2.2.1).1
    have wr : ∀ v : Int32, (v = 0 ∨ v = 1) → (v = 1 ↔ T.1 28 27 = 1 ∨ ((lit p i).1 = 1 ∧ rep (lit p i).2.1 = rep (lit p i).2.2.1)) → ∃ T', (K27 S T' ∧ (T'.1 28 27 = 0 ∨ T'.1 28 27 = 1) ∧ (T'.1 28 27 = 1 ↔ S.1 28 27 = 1 ∨ ∃ k, k < i + 1 ∧ (lit p k).1 = 1 ∧ rep (lit p k).2.1 = rep (lit p k).2.2.1)) ∧ f_X9_layExchange_183 n k T (nI i) v = k T' (nI (i + 1)) := by
      intro v hv1 hv2
      unfold f_X9_layExchange_183
      rw [if_neg (fun hc => hc hv1)]
      simp only [bd]
      rw [nI_1]
      have ev : (sI T 28 27 v).1 28 27 = v := by simp [sI]
      refine ⟨sI T 28 27 v, ⟨⟨q1.1, fun c j hc => by simp only [sI]; rw [if_neg hc]; exact q1.2 c j hc⟩, by rw [ev]; exact hv1, ?_⟩, rfl⟩
      rw [ev, hv2, q3]
      constructor
      · rintro ((a | ⟨j, j1, j2⟩) | a)
        · exact Or.inl a
        · exact Or.inr ⟨j, by omega, j2⟩
        · exact Or.inr ⟨i, by omega, a⟩
      · rintro (a | ⟨j, j1, j2⟩)
        · exact Or.inl (Or.inl a)
        · by_cases e : j = i
          · subst e; exact Or.inr j2
          · exact Or.inl (Or.inr ⟨j, by omega, j2⟩)
    unfold f_X9_layExchange_127 f_X9_layExchange_178 f_X9_layExchange_182
    rw [qp.2.2.2.2.2.1, if_neg (by rw [nI_leI (by omega) (by omega)]; omega)]
    rcases q2 with q2 | q2
    · rw [if_pos q2, if_neg (nI_bad (by omega) (by omega)), nI_c (by omega), l.1, l.2.1, l.2.2.1, nI_c (show (lit p i).2.1 < 2 ^ 31 by omega), nI_c (show (lit p i).2.2.1 < 2 ^ 31 by omega), e41 _ w.2.1, e41 _ w.2.2.1]
      have nq : ¬ T.1 28 27 = 1 := by rw [q2]; decide
      have gi : ¬ (nI i < 0 ∨ 10 ≤ i) := fun hc => hc.elim (nI_pos (by omega)) (by omega)
      by_cases e : (lit p i).1 = 1
      · rw [if_pos (by rw [e]; rfl), if_neg gi, if_neg (fun hc => hc.elim (nI_pos (by omega)) (by omega)), if_neg gi, if_neg (fun hc => hc.elim (nI_pos (by omega)) (by omega))]
        by_cases e2 : rep (lit p i).2.1 = rep (lit p i).2.2.1
        · rw [if_pos (by rw [e2])]
          exact wr 1 (Or.inr rfl) ⟨fun _ => Or.inr ⟨e, e2⟩, fun _ => rfl⟩
        · rw [if_neg (by rw [nI_eq (by omega) (by omega)]; exact e2)]
          exact wr 0 (Or.inl rfl) ⟨fun hc => absurd hc (by decide), fun hc => hc.elim (fun x => absurd x nq) (fun x => absurd x.2 e2)⟩
      · rw [if_neg (by rw [show (1 : Int32) = nI 1 from rfl, nI_eq (by omega) (by omega)]; exact e)]
        exact wr 0 (Or.inl rfl) ⟨fun hc => absurd hc (by decide), fun hc => hc.elim (fun x => absurd x nq) (fun x => absurd x.1 e)⟩
    · rw [if_neg (by rw [q2]; decide)]
      exact wr 1 (Or.inr rfl) ⟨fun _ => Or.inl q2, fun _ => rfl⟩
  · rintro T k ⟨q1, q2, q3⟩
    have qp := q1.rep hp
    unfold f_X9_layExchange_127
    rw [qp.2.2.2.2.2.1, if_pos (by rw [nI_leI (by omega) (by omega)]; omega)]
    exact ⟨T, rfl, q1, q2, q3⟩
def MEx (p : Pb) (rep0 : Nat → Nat) (b : Nat) (T : St) : Prop := ∃ k repf, ExR p k rep0 (T.1 28 27 = 1) repf ∧ T.1 28 28 = nI (b + k) ∧ MSm T (nT p) repf ∧ Rp (nT p) repf ∧ (T.1 28 27 = 0 ∨ T.1 28 27 = 1) ∧ (T.1 28 27 = 0 → Dist p repf FM (wM T) ∧ ∀ i j, i < nT p → j < nT p → wM T i j ≤ FM)
def F28 (S T : St) : Prop := (∀ j, j ≠ 27 → j ≠ 28 → T.1 28 j = S.1 28 j) ∧ T.2 28 = S.2 28
theorem F28.rf {S : St} : F28 S S := ⟨fun _ _ _ => rfl, rfl⟩
theorem F28.trans {S T U : St} (h : F28 S T) (g : F28 T U) : F28 S U := ⟨fun j a b => (g.1 j a b).trans (h.1 j a b), g.2.trans h.2⟩
theorem F28.kp {S T : St} {w : Nat → Prop} (h : Keeps w S T) (hw : ¬ w 28) : F28 S T := ⟨fun j _ _ => by rw [(h 28 hw).1], (h 28 hw).2⟩
theorem F28.k27 {S T : St} (h : K27 S T) : F28 S T := ⟨fun j a _ => h.2 28 j (by omega), by rw [h.1]⟩
theorem mexl {n : Nat} {p : Pb} (hn : 110 ≤ n) (hwf : PbWf p) : ∀ (d x : Nat) (S : St) (rep : Nat → Nat), cnt rep (nT p) + 2 ≤ d → S.1 28 28 = nI x → MRep S p → MSm S (nT p) rep → Rp (nT p) rep → ∃ T, fixF (fun _ _ => none) (f_X9_layExchange_76 n) d S 1 = some ((), T) ∧ MEx p rep x T ∧ F28 S T := by
  have hT5 := hwf.1
  have hT10 := hwf.2.1
  intro d
  induction d with
  | zero => intro x S rep h1; omega
  | succ d ih =>
    intro x S rep h1 hx hp h hr
    rw [fixF_s, f_X9_layExchange_76, if_neg (by decide)]
    simp only [bd]
    rw [hx, nI_1]
    have p1 : MRep (sI S 28 28 (nI (x + 1))) p := hp.keep (fun c hc => by funext j; simp only [sI]; rw [if_neg (by omega)]) (by simp [sI]) (by simp [sI])
    have c1 : MSm (sI S 28 28 (nI (x + 1))) (nT p) rep := h.keep (by funext j; simp [sI])
    have e1 : (sI S 28 28 (nI (x + 1))).1 28 28 = nI (x + 1) := by simp [sI]
    have g1 : F28 S (sI S 28 28 (nI (x + 1))) := ⟨fun j _ hj => by simp [sI, hj], rfl⟩
    generalize sI S 28 28 (nI (x + 1)) = S1 at p1 c1 e1 g1 ⊢
    obtain ⟨S2, r1, a1, a2, a3, a4, a5⟩ := grow_m (n := n) (by omega) p1 c1 hr
    have p2 : MRep S2 p := p1.k41 a2
    rw [bo_some a1]
    obtain ⟨r, S3, b1, b2, b3⟩ := ways_m (n := n) (by omega) p2 a3 a4.1
    rw [bo_some b1, if_neg (by rcases b3 with ⟨rfl, -⟩ | ⟨rfl, -⟩ <;> decide)]
    have ev : (sI S3 28 27 r).1 28 27 = r := by simp [sI]
    have p3 : MRep (sI S3 28 27 r) p := by
      refine p2.keep (fun c hc => ?_) ?_ ?_
      · rw [← b2]; funext j; simp only [sI]; rw [if_neg (by omega)]
      · rw [← b2]; simp [sI]
      · rw [← b2]; simp [sI]
    have c3 : MSm (sI S3 28 27 r) (nT p) r1 := a3.keep (by rw [← b2]; funext j; simp [sI])
    have e3 : (sI S3 28 27 r).1 28 28 = nI (x + 1) := by
      have : (sI S3 28 27 r).1 28 28 = S3.1 28 28 := by simp [sI]
      rw [this, b2, (a2 28 (by unfold wr_X9_growSame; omega)).1, e1]
    have m3 : wM (sI S3 28 27 r) = wM S3 := rfl
    have k2 := a4.cmono hr
    have g4 : F28 S (sI S3 28 27 r) := (g1.trans (F28.kp a2 (by unfold wr_X9_growSame; omega))).trans (F28.trans (F28.kp (fr_X9_layWays n S2 _ S3 b1) (by unfold wr_X9_layWays; omega)) ⟨fun j hj _ => by simp [sI, hj], rfl⟩)
    generalize sI S3 28 27 r = S4 at ev p3 c3 e3 m3 g4 ⊢
    cases d with
    | zero => omega
    | succ d =>
    rcases b3 with ⟨rfl, b3⟩ | ⟨rfl, b3, b4, b5⟩
    · rw [if_neg (by rw [ev]; decide)]
      unfold f_X9_layExchange_120 f_X9_layExchange_121
      simp only [bd]
      rw [fixF_s, f_X9_layExchange_76, if_pos rfl]
      simp only [bd]
      obtain ⟨T, f1, f2, f3, f4⟩ := clash_m (n := n) (by omega) p3 c3 a4.1 (Or.inr ev)
      have f5 : T.1 28 27 = 1 := f4.mpr (Or.inl ev)
      refine ⟨T, f1, ⟨1, r1, ⟨r1, a4, a5, Or.inl ⟨b3, rfl, f5, fun _ _ => rfl⟩⟩, ?_, c3.keep (by funext j; exact f2.2 41 j (by omega)), a4.1, f3, fun hc => ?_⟩, g4.trans (F28.k27 f2)⟩
      · rw [f2.2 28 28 (by omega), e3]
      · rw [f5] at hc; exact absurd hc (by decide)
    · rw [if_pos ev]
      obtain ⟨r, S5, r2, d1, d2, d3, d4, d5, d6⟩ := tight_m (n := n) (by omega) p3 c3 a4.1 (by rw [m3]; exact b3) (by rw [m3]; exact b4) (by rw [m3]; exact b5)
      have p5 : MRep S5 p := p3.k41 d2
      have e5 : S5.1 28 = S4.1 28 := (d2 28 (by unfold wr_X9_joinTight; omega)).1
      have m5 : wM S5 = wM S3 := by rw [← m3]; unfold wM; rw [(d2 42 (by unfold wr_X9_joinTight; omega)).2]
      rw [bo_some d1]
      have nN := Dist.noneg b3 b4
      unfold f_X9_layExchange_120 f_X9_layExchange_121
      simp only [bd]
      rcases d6 with ⟨rfl, d6⟩ | ⟨rfl, d6⟩
      · rw [if_neg (by decide)]
        have k1 : cnt r2 (nT p) < cnt r1 (nT p) := by
          obtain ⟨s, t, g1, g2, g3, g4⟩ := d6
          exact d4.cless a4.1 g1 g2 g4 (d5 s t g1 g2 g3)
        obtain ⟨T, f1, ⟨k, repf, f2, f3, f4⟩, f5⟩ := ih (x + 1) S5 r2 (by omega) (by rw [e5, e3]) p5 d3 d4.1
        exact ⟨T, f1, ⟨k + 1, repf, ⟨r1, a4, a5, Or.inr ⟨nN, r2, d4, d5, Or.inr ⟨d6, f2⟩⟩⟩, by rw [f3]; congr 1; omega, f4⟩, (g4.trans (F28.kp d2 (by unfold wr_X9_joinTight; omega))).trans f5⟩
      · rw [if_pos rfl, fixF_s, f_X9_layExchange_76, if_pos rfl]
        simp only [bd]
        obtain ⟨T, f1, f2, f3, f4⟩ := clash_m (n := n) (by omega) p5 d3 d4.1 (Or.inl (by rw [e5, ev]))
        have f5 : T.1 28 27 = 1 ↔ Vi p r2 := by
          rw [f4, e5, ev]
          exact ⟨fun hc => hc.elim (fun x => absurd x (by decide)) id, Or.inr⟩
        refine ⟨T, f1, ⟨1, r2, ⟨r1, a4, a5, Or.inr ⟨nN, r2, d4, d5, Or.inl ⟨d6, rfl, f5, fun _ _ => rfl⟩⟩⟩, ?_, d3.keep (by funext j; exact f2.2 41 j (by omega)), d4.1, f3, fun _ => ?_⟩, (g4.trans (F28.kp d2 (by unfold wr_X9_joinTight; omega))).trans (F28.k27 f2)⟩
        · rw [f2.2 28 28 (by omega), e5, e3]
        · have : wM T = wM S3 := by rw [← m5]; unfold wM; rw [f2.1]
          rw [this]
          exact ⟨b3.congr (noTx_eq a4.1 d4 d5 d6), b5⟩
theorem exch_m {n : Nat} {S : St} {p : Pb} (hn : 110 ≤ n) (hp : MRep S p) : ∃ T, f_X9_layExchange n S = some ((), T) ∧ MRep T p ∧ MEx p (eqR p (nL p)) 0 T ∧ F28 S T := by
  suffices hh : ∃ T, f_X9_layExchange n S = some ((), T) ∧ MEx p (eqR p (nL p)) 0 T ∧ F28 S T by
    obtain ⟨T, x, y, z⟩ := hh
    exact ⟨T, x, hp.keep (fun c hc => (fr_X9_layExchange n S _ T x c (by unfold wr_X9_layExchange; omega)).1) (z.1 18 (by decide) (by decide)) (z.1 2 (by decide) (by decide)), y, z⟩
  have hwf := hp.1
  have hT5 := hwf.1
  have hT10 := hwf.2.1
  have hL10 := hwf.2.2.1
  unfold f_X9_layExchange
  simp only [bd]
  have p0 : MRep (sI (sI S 28 28 0) 28 27 0) p := hp.keep (fun c hc => by funext j; simp only [sI]; rw [if_neg (by omega), if_neg (by omega)]) (by simp [sI]) (by simp [sI])
  have g0 : F28 S (sI (sI S 28 28 0) 28 27 0) := ⟨fun j h1 h2 => by simp [sI, h1, h2], rfl⟩
  have e0 : (sI (sI S 28 28 0) 28 27 0).1 28 28 = nI 0 := by simp [sI, nI_0]
  generalize sI (sI S 28 28 0) 28 27 0 = S0 at p0 g0 e0 ⊢
  refine for_up (α := Unit × St) (f_X9_layExchange_12 n) (fun _ _ => none) (nT p) (fun i T => MRep T p ∧ T.1 28 28 = nI 0 ∧ F28 S T ∧ ∀ t, t < i → T.1 41 t = nI t) (fun o => ∃ T, o = some ((), T) ∧ MEx p (eqR p (nL p)) 0 T ∧ F28 S T) ?_ ?_ n 0 S0 (by omega) (by omega) ⟨p0, e0, g0, fun t ht => absurd ht (Nat.not_lt_zero _)⟩
  · rintro i T k hi ⟨q1, q2, q3, q4⟩
    right
    unfold f_X9_layExchange_12
    rw [q1.2.1, if_neg (by rw [nI_leI (by omega) (by omega)]; omega), if_neg (nI_bad (by omega) (by omega)), nI_c (by omega)]
    simp only [bd]
    rw [nI_1]
    refine ⟨sI T 41 i (nI i), ⟨q1.keep (fun c hc => by funext j; simp only [sI]; rw [if_neg (by omega)]) (by simp [sI]) (by simp [sI]), by simp only [sI]; rw [if_neg (by omega)]; exact q2, q3.trans ⟨fun j _ _ => by simp [sI], rfl⟩, fun t ht => ?_⟩, rfl⟩
    by_cases e : t = i
    · subst e; simp [sI]
    · simp only [sI, e, and_false, if_false]; exact q4 t (by omega)
  · rintro T k ⟨q1, q2, q3, q4⟩
    unfold f_X9_layExchange_12
    rw [q1.2.1, if_pos (by rw [nI_leI (by omega) (by omega)]; omega)]
    simp only [bd]
    refine for_up (α := Unit × St) (f_X9_layExchange_35 n) (fun _ _ => none) (nL p) (fun i T => MRep T p ∧ T.1 28 28 = nI 0 ∧ F28 S T ∧ MSm T (nT p) (eqR p i)) (fun o => ∃ T, o = some ((), T) ∧ MEx p (eqR p (nL p)) 0 T ∧ F28 S T) ?_ ?_ n 0 T (by omega) (by omega) ⟨q1, q2, q3, fun t ht => by rw [q4 t ht]; rfl⟩
    · rintro i T k hi ⟨q1, q2, q3, q4⟩
      right
      have w := hwf.2.2.2.2.2 i hi
      have l := q1.2.2.2.2.2.2 i hi
      have gi : ¬ (nI i < 0 ∨ 10 ≤ i) := fun hc => hc.elim (nI_pos (by omega)) (by omega)
      have st : ∀ T, f_X9_layExchange_68 n k T (nI i) = k T (nI (i + 1)) := fun T => by unfold f_X9_layExchange_68; simp only [bd]; rw [nI_1]
      unfold f_X9_layExchange_35
      rw [q1.2.2.2.2.2.1, if_neg (by rw [nI_leI (by omega) (by omega)]; omega), if_neg (nI_bad (by omega) (by omega)), nI_c (by omega), l.1, l.2.1, l.2.2.1]
      by_cases e : (lit p i).1 = 0
      · rw [if_pos (by rw [e]; rfl), if_neg gi, if_neg gi]
        obtain ⟨U, u1, u2, u3⟩ := join_m (n := n) (by omega) hT10 q1.2.1 q4 (eqR_rp hwf i (by omega)) w.2.1 w.2.2.1
        rw [bo_some u1, st]
        refine ⟨U, ⟨q1.k41 u2, by rw [(u2 28 (by unfold wr_X9_join; omega)).1, q2], q3.trans (F28.kp u2 (by unfold wr_X9_join; omega)), ?_⟩, rfl⟩
        simp only [eqR, if_pos e]; exact u3
      · rw [if_neg (by rw [show (0 : Int32) = nI 0 from rfl, nI_eq (by omega) (by omega)]; exact e), st]
        refine ⟨T, ⟨q1, q2, q3, ?_⟩, rfl⟩
        simp only [eqR, if_neg e]; exact q4
    · rintro T k ⟨q1, q2, q3, q4⟩
      unfold f_X9_layExchange_35
      rw [q1.2.2.2.2.2.1, if_pos (by rw [nI_leI (by omega) (by omega)]; omega)]
      simp only [bd]
      obtain ⟨U, u1, u2, u3⟩ := mexl hn hwf n 0 T (eqR p (nL p)) (by have := cnt_le (eqR p (nL p)) (nT p); omega) q2 q1 q4 (eqR_rp hwf _ (by omega))
      exact ⟨U, u1, u2, q3.trans u3⟩
/-- class and reference come to the same -/
theorem exch_both {p : Pb} (hwf : PbWf p) {S T : St} (hc : CEx p (eqR p (nL p)) 0 S) (hm : MEx p (eqR p (nL p)) 0 T) : S.1 21 4 = T.1 28 28 ∧ S.1 21 5 = T.1 28 27 ∧ (∀ t, t < nT p → S.1 22 t = T.1 41 t) ∧ (S.1 21 5 = 0 → ∀ i j, i < nT p → j < nT p → (cM S 96 i j < FC ↔ wM T i j < FM) ∧ (cM S 96 i j < FC → cM S 96 i j = wM T i j) ∧ cM S 96 i j ≤ FC ∧ wM T i j ≤ FM) := by
  obtain ⟨k, rf, a1, a2, a3, a4, a5, a6, a7⟩ := hc
  obtain ⟨k', rf', b1, b2, b3, b4, b5, b6⟩ := hm
  have hr := eqR_rp hwf (nL p) (by omega)
  obtain ⟨u1, u2, u3⟩ := ExR.uniq hwf k k' _ _ _ _ rf rf' hr hr (fun _ _ => rfl) a1 b1
  subst u1
  have hT10 := hwf.2.1
  have e5 : S.1 21 5 = T.1 28 27 := by
    rcases a6 with a6 | a6
    · rcases b5 with b5 | b5
      · rw [a6, b5]
      · rw [u2.mpr b5] at a6; exact absurd a6 (by decide)
    · rw [a6, u2.mp a6]
  refine ⟨by rw [a2, b2], e5, fun t ht => by rw [a4.1 t (by omega), b3 t ht, u3 t ht], fun h0 i j hi hj => ?_⟩
  obtain ⟨c1, c2⟩ := a7 h0
  obtain ⟨d1, d2⟩ := b6 (by rw [← e5]; exact h0)
  have x := Dist.uniq c1 (d1.congr (fun t ht => (u3 t ht).symm)) hi hj
  exact ⟨x.1, x.2, c2 i j (by omega) (by omega), d2 i j hi hj⟩
