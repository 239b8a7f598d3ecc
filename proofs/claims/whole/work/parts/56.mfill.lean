/-! THE REFERENCE'S PROBLEM and its values at a level -/
def MRep (S : St) (p : Pb) : Prop := PbWf p ∧ S.1 28 18 = nI (nT p) ∧ (∀ t, t < nT p → S.1 35 t = nI (tm p t).1) ∧ (∀ t, 5 ≤ t → t < nT p → S.1 36 t = nI (tm p t).2.1 ∧ S.1 37 t = if (tm p t).1 = 2 then nI (tm p t).2.2 else -2000000001) ∧ (∀ t, t < 5 → S.1 36 t = -2000000001 ∧ S.1 37 t = -2000000001) ∧ S.1 28 2 = nI (nL p) ∧ ∀ k, k < nL p → S.1 32 k = nI (lit p k).1 ∧ S.1 38 k = nI (lit p k).2.1 ∧ S.1 39 k = nI (lit p k).2.2.1 ∧ (S.1 33 k).toInt = (lit p k).2.2.2
theorem MRep.keep {S T : St} {p : Pb} (h : MRep S p) (e : ∀ c, c = 32 ∨ c = 33 ∨ c = 35 ∨ c = 36 ∨ c = 37 ∨ c = 38 ∨ c = 39 → T.1 c = S.1 c) (e1 : T.1 28 18 = S.1 28 18) (e2 : T.1 28 2 = S.1 28 2) : MRep T p := by
  unfold MRep
  rw [e 32 (by omega), e 33 (by omega), e 35 (by omega), e 36 (by omega), e 37 (by omega), e 38 (by omega), e 39 (by omega), e1, e2]
  exact h
def WIDE : Int := 1125899906842624
/-- the values of level l -/
def mV (S : St) (l : Nat) : Nat → Int := fun x => (S.2 44 (10 * l + x)).toInt
theorem ixv {l x : Nat} : ((10 : Int32) * nI l) + nI x = nI (10 * l + x) := by rw [show (10 : Int32) = nI 10 from rfl, pk_mul, nI_add]
theorem ixb {l i j : Nat} : ((((100 : Int32) * nI l) + ((10 : Int32) * nI i)) + nI j) = nI (100 * l + 10 * i + j) := by rw [ix100, ixm]
/-- what is sought: nothing, or the difference of two terms -/
def Want (S : St) (N : Nat) (w : Option (Nat × Nat)) : Prop := match w with
  | none => S.1 28 37 = -2000000001 ∧ S.1 28 38 = -2000000001
  | some q => q.1 < N ∧ q.2 < N ∧ S.1 28 37 = nI q.1 ∧ S.1 28 38 = nI q.2
def fillV (N : Nat) (M : Mx) (w : Option (Nat × Nat)) (W : Int) (x : Nat) : Int := match w with
  | none => lowN M x N
  | some q => fillW FM N M q.2 W x
theorem nI_none {a : Nat} (h : a < 2 ^ 31) : ¬ nI a = (-2000000001 : Int32) := by
  intro e
  have := congrArg Int32.toInt e
  rw [nI_toInt h] at this
  have e2 : (-2000000001 : Int32).toInt = -2000000001 := by decide
  omega
theorem fw_min {F W low m : Int} (h1 : m ≤ F) (h2 : low + W < F) : (if low + W < m then low + W else m) = if m < F ∧ m < low + W then m else low + W := by
  by_cases c : m < low + W
  · rw [if_neg (by omega), if_pos ⟨by omega, c⟩]
  · rw [if_neg (fun q : m < F ∧ m < low + W => c q.2)]
    by_cases c2 : low + W < m
    · rw [if_pos c2]
    · rw [if_neg c2]; omega
theorem fill_m {n N l : Nat} {E : Ed} {S : St} {w : Option (Nat × Nat)} (hn : 12 ≤ n) (hN : N ≤ 10) (hlv : l < 64) (hT : S.1 28 18 = nI N) (h : MOKm W0 N E S l) (hw : Want S N w) :
    ∃ T, f_X9_fill n S (nI l) = some ((), T) ∧ T.1 = S.1 ∧ (∀ c, c ≠ 44 → T.2 c = S.2 c) ∧ ∀ x, x < N → mV T l x = fillV N (mM S l) w WIDE x := by
  have Fv : FM = 1152921504606846976 := rfl
  have F0 : (0 : Int) < FM := by decide
  have W0v : W0 = 2000000000 := rfl
  have Wv : WIDE = 1125899906842624 := rfl
  obtain ⟨hM, hle, hWd⟩ := id h
  have hL : ∀ i j, i < N → j < N → mM S l i j < FM → -(10 * W0) ≤ mM S l i j ∧ mM S l i j ≤ 10 * W0 := by
    intro i j hi hj hf
    have h1 := hM.small F0 hWd (by decide) hi hj hf
    have h2 : (N : Int) * W0 ≤ 10 * W0 := Int.mul_le_mul_of_nonneg_right (by omega) (by decide)
    omega
  unfold f_X9_fill
  simp only [bd]
  refine for_up (α := Unit × St) (f_X9_fill_2 n (nI l)) (fun _ _ => none) N (fun i T => T.1 = S.1 ∧ (∀ c, c ≠ 44 → T.2 c = S.2 c) ∧ ∀ x, x < i → mV T l x = fillV N (mM S l) w WIDE x) (fun o => ∃ T, o = some ((), T) ∧ T.1 = S.1 ∧ (∀ c, c ≠ 44 → T.2 c = S.2 c) ∧ ∀ x, x < N → mV T l x = fillV N (mM S l) w WIDE x) ?_ ?_ n 0 S (by omega) (by omega) ⟨rfl, fun _ _ => rfl, fun x hx => absurd hx (Nat.not_lt_zero _)⟩
  · rintro x T k2 hx ⟨g1, g2, g3⟩
    right
    unfold f_X9_fill_2
    rw [g1, hT, if_neg (by rw [nI_leI (by omega) (by omega)]; omega)]
    simp only [bd]
    have r43 : ∀ a b, (T.2 43 (100 * l + 10 * a + b)).toInt = mM S l a b := fun a b => by rw [g2 43 (by decide)]; rfl
    -- a value is put down
    have putd : ∀ (t2 : Int64), t2.toInt = fillV N (mM S l) w WIDE x → ∃ S', (S'.1 = S.1 ∧ (∀ c, c ≠ 44 → S'.2 c = S.2 c) ∧ ∀ y, y < x + 1 → mV S' l y = fillV N (mM S l) w WIDE y) ∧ f_X9_fill_123 n (nI l) k2 T (nI x) (((10 : Int32) * nI l) + nI x) t2 = k2 S' (nI (x + 1)) := by
      intro t2 ht2
      unfold f_X9_fill_123
      rw [ixv, if_neg (nI_bad (by omega) (by omega)), nI_c (by omega)]
      simp only [bd]
      rw [nI_1]
      refine ⟨sL T 44 (10 * l + x) t2, ⟨g1, fun c hc => ?_, fun y hy => ?_⟩, rfl⟩
      · rw [← g2 c hc]; funext b; simp [sL, hc]
      · by_cases e : y = x
        · subst e; rw [← ht2]; simp [mV, sL]
        · rw [← g3 y (by omega)]
          simp [mV, sL, e]
    have low_ge : -(10 * W0) ≤ lowN (mM S l) x N := by
      rcases lowN_at (mM S l) x N with e | ⟨q, hq, e⟩
      · rw [e]; omega
      · by_cases hf : mM S l x q < FM
        · rw [e]; exact (hL x q hx hq hf).1
        · rw [e]; omega
    have low_le := lowN_0 (mM S l) x N
    have hlw : lowN (mM S l) x N + WIDE < FM := by omega
    refine for_up2' (α := Unit × St) (β := Int64) (f_X9_fill_17 n (nI l) (nI x) k2) (fun _ _ _ => none) N (fun i U a => U = T ∧ (∀ q, q < i → a.toInt ≤ mM S l x q) ∧ (a.toInt = FM ∨ ∃ q, q < i ∧ a.toInt = mM S l x q)) (fun o => ∃ S', (S'.1 = S.1 ∧ (∀ c, c ≠ 44 → S'.2 c = S.2 c) ∧ ∀ y, y < x + 1 → mV S' l y = fillV N (mM S l) w WIDE y) ∧ o = k2 S' (nI (x + 1))) ?_ ?_ n 0 T (1152921504606846976 : Int64) (by omega) (by omega) ⟨rfl, fun q hq => absurd hq (Nat.not_lt_zero _), Or.inl FMi⟩
    · rintro i U a k17 hi ⟨rfl, i2, i3⟩
      right
      unfold f_X9_fill_17
      rw [g1, hT, if_neg (by rw [nI_leI (by omega) (by omega)]; omega), ixb, if_neg (nI_bad (by omega) (by omega)), nI_c (by omega)]
      obtain ⟨r, r1, r2⟩ := least_m (n := n) (S := U) a (U.2 43 (100 * l + 10 * x + i))
      rw [bo_some r1]
      simp only [bd]
      rw [nI_1]
      rw [r43] at r2
      refine ⟨U, r, ⟨rfl, fun q hq => ?_, ?_⟩, rfl⟩
      · by_cases e : q = i
        · subst e; rw [r2]; split <;> omega
        · have := i2 q (by omega); rw [r2]; split <;> omega
      · by_cases e : mM S l x i < a.toInt
        · rw [if_pos e] at r2; exact Or.inr ⟨i, by omega, r2⟩
        · rw [if_neg e] at r2
          rcases i3 with h | ⟨q, h1, h2⟩
          · exact Or.inl (by omega)
          · exact Or.inr ⟨q, by omega, by omega⟩
    · rintro U a k17 ⟨rfl, i2, i3⟩
      have ea : a.toInt = lowN (mM S l) x N := by
        have h0 := i2 x hx
        rw [hM.1 x hx] at h0
        have h1 : lowN (mM S l) x N ≤ a.toInt := by
          rcases i3 with e | ⟨q, hq, e⟩
          · omega
          · rw [e]; exact lowN_le _ _ _ _ hq
        have h2 : a.toInt ≤ lowN (mM S l) x N := by
          rcases lowN_at (mM S l) x N with e | ⟨q, hq, e⟩
          · omega
          · rw [e]; exact i2 q hq
        omega
      unfold f_X9_fill_17
      rw [g1, hT, if_pos (by rw [nI_leI (by omega) (by omega)]; omega)]
      cases w with
      | none =>
        rw [hw.2, if_pos rfl]
        unfold f_X9_fill_88
        simp only [bd]
        rw [g1, hw.2, if_pos rfl]
        exact putd a ea
      | some q =>
        obtain ⟨q1, q2, q3, q4⟩ := hw
        rw [q4, if_neg (nI_none (by omega)), ixb, if_neg (nI_bad (by omega) (by omega)), nI_c (by omega)]
        unfold f_X9_fill_88
        simp only [bd]
        rw [g1, q4, if_neg (nI_none (by omega))]
        have wv : (1125899906842624 : Int64).toInt = 1125899906842624 := by decide
        have e1 : (a + (1125899906842624 : Int64)).toInt = lowN (mM S l) x N + WIDE := by rw [l_add (by omega) (by omega), wv]; omega
        obtain ⟨r, r1, r2⟩ := least_m (n := n) (S := U) (U.2 43 (100 * l + 10 * x + q.2)) (a + (1125899906842624 : Int64))
        rw [bo_some r1]
        rw [r43, e1] at r2
        refine putd r ?_
        rw [r2]
        exact fw_min (hle x q.2 hx q2) hlw
  · rintro T k2 ⟨g1, g2, g3⟩
    unfold f_X9_fill_2
    rw [g1, hT, if_pos (by rw [nI_leI (by omega) (by omega)]; omega)]
    exact ⟨T, rfl, g1, g2, g3⟩
theorem fillV_sat {N : Nat} {E : Ed} {M : Mx} (h : Mat FM N E M) {w : Option (Nat × Nat)} (hw : ∀ q, w = some q → q.2 < N) (W : Int) : Sat E (fillV N M w W) := by
  have F0 : (0 : Int) < FM := by decide
  cases w with
  | none =>
    refine h.ofsat (fun x y hx hy hf => ?_)
    have := low_tri h F0 hx hy hf
    show lowN M x N - lowN M y N ≤ _
    omega
  | some q => exact fillW_sat h F0 (hw q rfl) W
