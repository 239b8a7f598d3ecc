/-! THE REFERENCE: opening a level, as the code does it -/
theorem opens_m {n l : Nat} {S : St} {p : Pb} {m : Int32} {mo : Option (Nat × (Nat × Nat))} {ot w : Option (Nat × Nat)} {E : Ed} {P : (Nat → Int) → Prop} (hn : 110 ≤ n) (hl : l < 64) (hA : AskOk S p m mo ot) (hext : ∀ e, e ∈ mext mo ot → e.1 < nT p ∧ e.2 < nT p) (hW : Want S (nT p) w) (hE : MOKm W0 (nT p) E S l) (hG : GoodM w P S) (hD : ¬ DoneM w S) (hP : ∀ v, Sat E v → (∀ c, c ∈ clsM p m (mext mo ot) → clSat c v) → P v) :
    ∃ r T, f_X9_opens n S (nI l) = some (r, T) ∧ NF l S T ∧ (∀ k, T.1 48 k = S.1 48 k) ∧ GoodM w P T ∧ (∀ v, CovM w S v → CovM w T v) ∧ ((r = 0 ∧ ∀ v, Sat E v → CovM w T v) ∨ (r = 1 ∧ SameG S T ∧ ∃ c, c ∈ clsM p m (mext mo ot) ∧ ¬ clMet (mM S l) c ∧ Spl p T l c)) := by
  have Fv : FM = 1152921504606846976 := rfl
  have F0 : (0 : Int) < FM := by decide
  have W0v : W0 = 2000000000 := rfl
  have Wv : WIDE = 1125899906842624 := rfl
  have hp := hA.1
  have hwf := hp.1
  have hT10 : nT p ≤ 10 := hwf.2.1
  obtain ⟨hM, hle, hWd⟩ := id hE
  have hL : ∀ i j, i < nT p → j < nT p → mM S l i j < FM → -(10 * W0) ≤ mM S l i j ∧ mM S l i j ≤ 10 * W0 := by
    intro i j hi hj hf
    have h1 := hM.small F0 hWd (by decide) hi hj hf
    have h2 : (nT p : Int) * W0 ≤ 10 * W0 := Int.mul_le_mul_of_nonneg_right (by omega) (by decide)
    omega
  have lowB : ∀ x, x < nT p → -20000000000 ≤ lowN (mM S l) x (nT p) ∧ lowN (mM S l) x (nT p) ≤ 0 := by
    intro x hx
    refine ⟨?_, lowN_0 _ _ _⟩
    rcases lowN_at (mM S l) x (nT p) with e | ⟨q, hq, e⟩
    · omega
    · by_cases hf : mM S l x q < FM
      · have := hL x q hx hq hf; omega
      · omega
  -- the level is filled and looked at
  have main : (∀ q, w = some q → S.1 28 39 = 1 → (S.2 28 41).toInt < mM S l q.1 q.2) → ∃ r T, f_X9_opens_31 n S (nI l) = some (r, T) ∧ NF l S T ∧ (∀ k, T.1 48 k = S.1 48 k) ∧ GoodM w P T ∧ (∀ v, CovM w S v → CovM w T v) ∧ ((r = 0 ∧ ∀ v, Sat E v → CovM w T v) ∨ (r = 1 ∧ SameG S T ∧ ∃ c, c ∈ clsM p m (mext mo ot) ∧ ¬ clMet (mM S l) c ∧ Spl p T l c)) := by
    intro hgt
    unfold f_X9_opens_31
    obtain ⟨T, a1, a2, a3, a4⟩ := fill_m (n := n) (by omega) hT10 hl hp.2.1 hE hW
    rw [bo_some a1]
    have nf1 : NF l S T := ⟨fun c k _ _ => by rw [a2], fun c k _ _ h => by rw [a3 c h]⟩
    have hA1 := nf1.ask hA
    have hsat : Sat E (fillV (nT p) (mM S l) w WIDE) := fillV_sat hM (fun q hq => by rw [hq] at hW; exact hW.2.1) WIDE
    have pat : ∀ x y, x < nT p → y < nT p → (mV T l x = mV T l y ↔ fillV (nT p) (mM S l) w WIDE x = fillV (nT p) (mM S l) w WIDE y) := fun x y hx hy => by rw [a4 x hx, a4 y hy]
    rcases finds_m (n := n) (by omega) hl hA1 with ⟨b1, b2⟩ | ⟨U, c, b1, b2, b3, b4, b5⟩
    · -- the values break nothing
      rw [bo_some b1, if_pos rfl]
      have allS : ∀ u : Nat → Int, (∀ x y, x < nT p → y < nT p → (fillV (nT p) (mM S l) w WIDE x = fillV (nT p) (mM S l) w WIDE y ↔ u x = u y)) → Sat E u → P u := fun u hu hs => hP u hs (fun c hc => clSat_pat (clsM_wf hwf hext hc) (fun x y hx hy => (pat x y hx hy).trans (hu x y hx hy)) (b2 c hc))
      have p0 : P (fillV (nT p) (mM S l) w WIDE) := allS _ (fun _ _ _ _ => Iff.rfl) hsat
      simp only [bd]
      have g38 : (sI T 28 39 1).1 28 38 = S.1 28 38 := by simp [sI, a2]
      rw [g38]
      cases hw : w with
      | none =>
        rw [hw] at hW hsat p0
        rw [hW.2, if_pos rfl]
        unfold f_X9_opens_77 f_X9_opens_78 f_X9_opens_100
        rw [if_neg (by decide)]
        simp only [bd]
        have g38' : (sI (sI T 28 39 1) 28 40 0).1 28 38 = S.1 28 38 := by simp [sI, a2]
        rw [g38', hW.2, if_pos rfl]
        refine ⟨0, _, rfl, ⟨fun c k h1 h2 => ?_, fun c k h1 h2 h3 => ?_⟩, fun k => ?_, Or.inr ⟨by simp [sI, sL], by simp [sI, sL], _, p0⟩, fun v _ => ⟨by simp [sI, sL], trivial⟩, Or.inl ⟨rfl, fun v _ => ⟨by simp [sI, sL], trivial⟩⟩⟩
        · rw [← nf1.1 c k h1 h2]
          have x1 : ¬ (c = 28 ∧ k = 39) := by omega
          have x2 : ¬ (c = 28 ∧ k = 40) := by omega
          simp only [sI, sL, x1, x2, if_false]
        · rw [← nf1.2 c k h1 h2 h3]
          simp only [sI, sL, h1, if_false]
        · simp [sI, sL, a2]
      | some q =>
        rw [hw] at hW hsat p0 hgt hG
        obtain ⟨q1, q2, q3, q4⟩ := id hW
        rw [q4, if_neg (nI_none (by omega))]
        have hW1 : Want (sI T 28 39 1) (nT p) (some q) := ⟨q1, q2, by simp [sI, a2, q3], by simp [sI, a2, q4]⟩
        rw [bo_some (sought_m hT10 hl hW1)]
        have es : ((sI T 28 39 1).2 43 (100 * l + 10 * q.1 + q.2)).toInt = mM S l q.1 q.2 := by
          show (T.2 43 (100 * l + 10 * q.1 + q.2)).toInt = _
          rw [a3 43 (by decide)]; rfl
        -- the end of it, for both words on endlessness
        have fin : ∀ t1 : Int32, (t1 = 0 ∨ t1 = 1) → ∃ T', f_X9_opens_78 n (sI T 28 39 1) (nI l) t1 = some (0, T') ∧ NF l S T' ∧ (∀ k, T'.1 48 k = S.1 48 k) ∧ T'.1 28 39 = 1 ∧ T'.1 28 40 = t1 ∧ (T'.2 28 41).toInt = mM S l q.1 q.2 := by
          intro t1 ht1
          unfold f_X9_opens_78 f_X9_opens_100
          rw [if_neg (fun h => h ht1)]
          simp only [bd]
          have g38' : (sI (sI T 28 39 1) 28 40 t1).1 28 38 = nI q.2 := by simp [sI, a2, q4]
          rw [g38', if_neg (nI_none (by omega))]
          have hW2 : Want (sI (sI T 28 39 1) 28 40 t1) (nT p) (some q) := ⟨q1, q2, by simp [sI, a2, q3], by simp [sI, a2, q4]⟩
          rw [bo_some (sought_m hT10 hl hW2)]
          refine ⟨_, rfl, ⟨fun c k h1 h2 => ?_, fun c k h1 h2 h3 => ?_⟩, fun k => ?_, by simp [sI, sL], by simp [sI, sL], ?_⟩
          · rw [← nf1.1 c k h1 h2]
            have x1 : ¬ (c = 28 ∧ k = 39) := by omega
            have x2 : ¬ (c = 28 ∧ k = 40) := by omega
            simp only [sI, sL, x1, x2, if_false]
          · rw [← nf1.2 c k h1 h2 h3]
            simp only [sI, sL, h1, if_false]
          · simp [sI, sL, a2]
          · have : (sL (sI (sI T 28 39 1) 28 40 t1) 28 41 ((sI (sI T 28 39 1) 28 40 t1).2 43 (100 * l + 10 * q.1 + q.2))).2 28 41 = T.2 43 (100 * l + 10 * q.1 + q.2) := by simp [sI, sL]
            rw [this]; exact es
        -- the value of what is sought
        have at2 : ∀ V, WIDE ≤ V → fillW FM (nT p) (mM S l) q.2 V q.2 = 0 := fun V hV => by
          have := lowB q.2 q2
          unfold fillW
          rw [hM.1 q.2 q2, if_pos ⟨F0, by omega⟩]
        by_cases hf : lg_cmp ((sI T 28 39 1).2 43 (100 * l + 10 * q.1 + q.2)) (1152921504606846976 : Int64) = 0
        · rw [if_pos hf]
          rw [c_eq, FMi, es] at hf
          obtain ⟨T', f1, f2, f3, f4, f5, f6⟩ := fin 1 (Or.inr rfl)
          rw [f1]
          refine ⟨0, T', rfl, f2, f3, Or.inr ⟨f4, Or.inr ⟨f5, fun b => ?_⟩⟩, fun v _ => ⟨f4, Or.inl f5⟩, Or.inl ⟨rfl, fun v _ => ⟨f4, Or.inl f5⟩⟩⟩
          have lq := lowB q.1 q1
          refine ⟨fillW FM (nT p) (mM S l) q.2 (WIDE + (if b < 0 then 0 else b) + 20000000000), allS _ (fun x y hx hy => ?_) (fillW_sat hM F0 q2 _), ?_⟩
          · rw [hw]
            exact fill_pat lowB (fun x hx h => by have := hL x q.2 hx q2 h; omega) (by split <;> omega) hx hy
          · rw [at2 _ (by split <;> omega)]
            unfold fillW
            rw [if_neg (fun z => by omega)]
            split <;> omega
        · rw [if_neg hf]
          rw [c_eq, FMi, es] at hf
          have hlt : mM S l q.1 q.2 < FM := by have := hle q.1 q.2 q1 q2; omega
          unfold f_X9_opens_77
          obtain ⟨T', f1, f2, f3, f4, f5, f6⟩ := fin 0 (Or.inl rfl)
          rw [f1]
          refine ⟨0, T', rfl, f2, f3, Or.inr ⟨f4, Or.inl ⟨f5, by rw [f6]; exact hlt, _, p0, ?_⟩⟩, fun v hv => ?_, Or.inl ⟨rfl, fun v hv => ⟨f4, Or.inr ?_⟩⟩⟩
          · rw [f6]
            show fillW FM (nT p) (mM S l) q.2 WIDE q.1 - fillW FM (nT p) (mM S l) q.2 WIDE q.2 = _
            rw [at2 _ (Int.le_refl _)]
            have b1 := hL q.1 q.2 q1 q2 hlt
            have b2 := lowB q.1 q1
            unfold fillW
            rw [if_pos ⟨hlt, by omega⟩]
            omega
          · obtain ⟨h1, h2⟩ := hv
            refine ⟨f4, ?_⟩
            rcases h2 with h2 | h2
            · exact absurd (Or.inl (by rw [h2]; decide)) hD
            · right
              rw [f6]
              have := hgt q rfl h1
              omega
          · rw [f6]; exact hM.sat hv q1 q2 hlt
    · -- a clause is broken
      rw [bo_some b1, if_neg (by decide)]
      have sG : SameG S U := ⟨by rw [b2.2 28 39 (by omega), a2], by rw [b2.2 28 40 (by omega), a2], by rw [b2.1, a3 28 (by decide)]⟩
      have nf2 : NF l S U := ⟨fun c k h1 h2 => by rw [b2.2 c k (by omega)]; exact nf1.1 c k h1 h2, fun c k h1 h2 h3 => by rw [b2.1]; exact nf1.2 c k h1 h2 h3⟩
      refine ⟨1, U, rfl, nf2, fun k => by rw [b2.2 48 k (by omega), a2], hG.same sG, fun v hv => hv.same sG, Or.inr ⟨rfl, sG, c, b3, fun hm => b4 ?_, b5⟩⟩
      exact clSat_pat (clsM_wf hwf hext b3) (fun x y hx hy => (pat x y hx hy).symm) (clMet_satG hM F0 (clsM_wf hwf hext b3) hm hsat)
  unfold f_X9_opens
  cases hw : w with
  | none =>
    rw [hw] at hW main hG hD
    rw [hW.2, if_pos rfl]
    exact main (fun q hq => by cases hq)
  | some q =>
    rw [hw] at hW main hG hD
    obtain ⟨q1, q2, q3, q4⟩ := id hW
    rw [q4, if_neg (nI_none (by omega))]
    rcases hG with ⟨h0, -⟩ | ⟨h1, hG2⟩
    · rw [h0, if_pos rfl]
      exact main (fun q' _ h => by rw [h0] at h; exact absurd h (by decide))
    · rw [h1, if_neg (by decide), bo_some (sought_m hT10 hl hW)]
      have es : (S.2 43 (100 * l + 10 * q.1 + q.2)).toInt = mM S l q.1 q.2 := rfl
      by_cases hc : 0 < lg_cmp (S.2 43 (100 * l + 10 * q.1 + q.2)) (S.2 28 41)
      · rw [if_pos hc]
        rw [c_gt, es] at hc
        exact main (fun q' hq' _ => by cases hq'; exact hc)
      · rw [if_neg hc]
        rw [c_gt, es] at hc
        refine ⟨0, S, rfl, NF.rf, fun _ => rfl, Or.inr ⟨h1, hG2⟩, fun v hv => hv, Or.inl ⟨rfl, fun v hv => ⟨h1, Or.inr ?_⟩⟩⟩
        rcases hG2 with ⟨-, g, -⟩ | ⟨g, -⟩
        · have := hM.sat hv q1 q2 (by omega)
          omega
        · exact absurd (Or.inl (by rw [g]; decide)) hD
