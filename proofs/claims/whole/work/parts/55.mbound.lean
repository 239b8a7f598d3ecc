/-! THE REFERENCE'S TABLES: bound at a level -/
def FM : Int := 1152921504606846976
theorem FMi : (1152921504606846976 : Int64).toInt = FM := by decide
def mM (S : St) (l : Nat) : Mx := fun i j => (S.2 43 (100 * l + 10 * i + j)).toInt
def MOKm (W : Int) (N : Nat) (E : Ed) (S : St) (l : Nat) : Prop := Mat FM N E (mM S l) ∧ (∀ i j, i < N → j < N → mM S l i j ≤ FM) ∧ Wd W E
theorem ixm {l i j : Nat} : (nI (100 * l) + ((10 : Int32) * nI i)) + nI j = nI (100 * l + 10 * i + j) := by
  rw [show (10 : Int32) = nI 10 from rfl, pk_mul, nI_add, nI_add]
theorem ix100 {l : Nat} : (100 : Int32) * nI l = nI (100 * l) := by rw [show (100 : Int32) = nI 100 from rfl, pk_mul]
theorem mM_set {S : St} {l i j a b : Nat} {v : Int64} (hj : j < 10) (hb : b < 10) : mM (sL S 43 (100 * l + 10 * i + j) v) l a b = if a = i ∧ b = j then v.toInt else mM S l a b := by
  unfold mM sL
  by_cases h : a = i ∧ b = j
  · rw [if_pos h, h.1, h.2]; simp
  · rw [if_neg h]
    have hn : ¬ (100 * l + 10 * a + b = 100 * l + 10 * i + j) := fun e => h ⟨by omega, by omega⟩
    simp [hn]
theorem least_m {n : Nat} {S : St} (a b : Int64) : ∃ r, f_X9_least n S a b = some (r, S) ∧ r.toInt = if b.toInt < a.toInt then b.toInt else a.toInt := by
  unfold f_X9_least
  by_cases h : 0 ≤ lg_cmp a b
  · rw [if_pos h]
    rw [c_ge] at h
    exact ⟨b, rfl, by split <;> omega⟩
  · rw [if_neg h]
    rw [c_ge] at h
    exact ⟨a, rfl, by rw [if_neg (by omega)]⟩
/-- outside level l nothing has changed -/
def Lv (l : Nat) (S T : St) : Prop := ∀ k, (k < 100 * l ∨ 100 * l + 100 ≤ k) → T.2 43 k = S.2 43 k
theorem Lv.rf {l : Nat} {S : St} : Lv l S S := fun _ _ => rfl
theorem Lv.trans {l : Nat} {S T U : St} (h : Lv l S T) (g : Lv l T U) : Lv l S U := fun k hk => (g k hk).trans (h k hk)
def isMidm (N l : Nat) (M G : Mx) (i j : Nat) (S : St) : Prop := ∀ a b, a < N → b < N → mM S l a b = midM M G i j a b
theorem mrow {n N l : Nat} {E : Ed} {M : Mx} {B : Int} (hN : N ≤ 10) (hlv : l < 64) (hM : Mat FM N E M) (hB : 0 ≤ B) (hB2 : 3 * B < FM) (hL : ∀ i j, i < N → j < N → M i j < FM → -B ≤ M i j ∧ M i j ≤ B) {s t i : Nat} (hs : s < N) (ht : t < N) (hi : i < N) {w : Int64} (hw : -B ≤ w.toInt ∧ w.toInt ≤ B) (hc : M t s < FM → 0 ≤ M t s + w.toInt) {S0 : St} (hT : S0.1 28 18 = nI N)
    (k46 : St → Int32 → Option (Int32 × St)) (S : St) (h1 : S.1 = S0.1) (h2 : Lv l S0 S) (h3 : ∀ c, c ≠ 43 → S.2 c = S0.2 c) (hS : isMidm N l M (adM FM M s t w.toInt) i 0 S) (d : Nat) (hd : 10 < d) :
    ∃ S', (S'.1 = S0.1 ∧ Lv l S0 S' ∧ (∀ c, c ≠ 43 → S'.2 c = S0.2 c) ∧ isMidm N l M (adM FM M s t w.toInt) (i + 1) 0 S') ∧ fixF (fun _ _ => none) (f_X9_bound_58 n (nI s) (nI t) w (nI (100 * l)) (nI i) k46) d S (nI 0) = k46 S' (nI (i + 1)) := by
  have Fv : FM = 1152921504606846976 := rfl
  refine for_up (α := Int32 × St) (f_X9_bound_58 n (nI s) (nI t) w (nI (100 * l)) (nI i) k46) (fun _ _ => none) N (fun j S => S.1 = S0.1 ∧ Lv l S0 S ∧ (∀ c, c ≠ 43 → S.2 c = S0.2 c) ∧ isMidm N l M (adM FM M s t w.toInt) i j S) (fun o => ∃ S', (S'.1 = S0.1 ∧ Lv l S0 S' ∧ (∀ c, c ≠ 43 → S'.2 c = S0.2 c) ∧ isMidm N l M (adM FM M s t w.toInt) (i + 1) 0 S') ∧ o = k46 S' (nI (i + 1))) ?_ ?_ d 0 S (by omega) (by omega) ⟨h1, h2, h3, hS⟩
  · rintro j S k hj ⟨g1, g2, g3, hI⟩
    right
    unfold f_X9_bound_58
    rw [g1, hT, if_neg (by rw [nI_leI (by omega) (by omega)]; omega)]
    simp only [ixm, bd]
    rw [if_neg (nI_bad (i := 100 * l + 10 * i + s) (by omega) (by omega)), nI_c (i := 100 * l + 10 * i + s) (by omega), if_neg (nI_bad (i := 100 * l + 10 * t + j) (by omega) (by omega)), nI_c (i := 100 * l + 10 * t + j) (by omega)]
    have st : ∀ S, f_X9_bound_162 n (nI s) (nI t) w (nI (100 * l)) (nI i) k46 k S (nI j) = k S (nI (j + 1)) := fun S => by unfold f_X9_bound_162; simp only [bd]; rw [nI_1]
    have ra : (S.2 43 (100 * l + 10 * i + s)).toInt = M i s := by
      have := hI i s hi hs
      unfold mM midM at this
      rw [this]; split
      · exact ad_col hM hc i
      · rfl
    have rb : (S.2 43 (100 * l + 10 * t + j)).toInt = M t j := by
      have := hI t j ht hj
      unfold mM midM at this
      rw [this]; split
      · exact ad_row hM hc j
      · rfl
    have same : adM FM M s t w.toInt i j = M i j → isMidm N l M (adM FM M s t w.toInt) i (j + 1) S := by
      intro e a b ha hb
      rw [hI a b ha hb]
      unfold midM
      by_cases h2 : a = i ∧ b = j
      · obtain ⟨rfl, rfl⟩ := h2
        rw [e]; split <;> split <;> rfl
      · by_cases h1 : a < i ∨ (a = i ∧ b < j)
        · rw [if_pos h1, if_pos (by omega)]
        · rw [if_neg h1, if_neg (by omega)]
    by_cases ha : 0 ≤ lg_cmp (S.2 43 (100 * l + 10 * i + s)) (1152921504606846976 : Int64)
    · rw [if_pos ha, st]
      rw [c_ge, FMi, ra] at ha
      exact ⟨S, ⟨g1, g2, g3, same (by unfold adM; rw [if_neg (by omega)])⟩, rfl⟩
    · rw [if_neg ha]
      rw [c_ge, FMi, ra] at ha
      by_cases hb : 0 ≤ lg_cmp (S.2 43 (100 * l + 10 * t + j)) (1152921504606846976 : Int64)
      · rw [if_pos hb, st]
        rw [c_ge, FMi, rb] at hb
        exact ⟨S, ⟨g1, g2, g3, same (by unfold adM; rw [if_neg (by omega)])⟩, rfl⟩
      · rw [if_neg hb]
        rw [c_ge, FMi, rb] at hb
        rw [if_neg (nI_bad (by omega) (by omega)), nI_c (by omega)]
        have b1 := hL i s hi hs (by omega)
        have b2 := hL t j ht hj (by omega)
        have e1 : (S.2 43 (100 * l + 10 * i + s) + w).toInt = M i s + w.toInt := by rw [l_add (by omega) (by omega), ra]
        have e2 : (S.2 43 (100 * l + 10 * i + s) + w + S.2 43 (100 * l + 10 * t + j)).toInt = M i s + w.toInt + M t j := by rw [l_add (by omega) (by omega), e1, rb]
        have ro : (S.2 43 (100 * l + 10 * i + j)).toInt = M i j := by
          have := hI i j hi hj
          unfold mM midM at this
          rw [this, if_neg (by omega)]
        obtain ⟨r, hr1, hr2⟩ := least_m (n := n) (S := S) (S.2 43 (100 * l + 10 * i + j)) (S.2 43 (100 * l + 10 * i + s) + w + S.2 43 (100 * l + 10 * t + j))
        rw [bo_some hr1, if_neg (fun h => h.elim (nI_pos (by omega)) (by omega)), st]
        rw [e2, ro] at hr2
        refine ⟨sL S 43 (100 * l + 10 * i + j) r, ⟨g1, fun k hk => ?_, fun c hc => ?_, fun a b ha' hb' => ?_⟩, rfl⟩
        · rw [← g2 k hk]
          have : ¬ k = 100 * l + 10 * i + j := by omega
          simp [sL, this]
        · rw [← g3 c hc]
          funext b; simp [sL, hc]
        · rw [mM_set (by omega) (by omega), hI a b ha' hb']
          unfold midM
          by_cases h2 : a = i ∧ b = j
          · obtain ⟨rfl, rfl⟩ := h2
            rw [if_pos ⟨rfl, rfl⟩, if_pos (by omega), hr2]
            unfold adM
            rw [if_pos (show M a s < FM ∧ M t b < FM from ⟨by omega, by omega⟩)]
          · rw [if_neg h2]
            by_cases h1 : a < i ∨ (a = i ∧ b < j)
            · rw [if_pos h1, if_pos (by omega)]
            · rw [if_neg h1, if_neg (by omega)]
  · rintro S k ⟨g1, g2, g3, hI⟩
    unfold f_X9_bound_58
    rw [g1, hT, if_pos (by rw [nI_leI (by omega) (by omega)]; omega)]
    simp only [bd]
    refine ⟨S, ⟨g1, g2, g3, fun a b ha hb => ?_⟩, by rw [nI_1]⟩
    rw [hI a b ha hb]
    unfold midM
    by_cases h1 : a < i ∨ (a = i ∧ b < N)
    · rw [if_pos h1, if_pos (by omega)]
    · rw [if_neg h1, if_neg (by omega)]
theorem bound_m {n N l : Nat} {E : Ed} {S : St} (hn : 12 ≤ n) (hN : N ≤ 10) (hlv : l < 64) (hT : S.1 28 18 = nI N) (h : MOKm W0 N E S l) {s t : Nat} (hs : s < N) (ht : t < N) {w : Int64} (hw : -W0 ≤ w.toInt ∧ w.toInt ≤ W0) :
    ∃ r S', f_X9_bound n S (nI l) (nI s) (nI t) w = some (r, S') ∧ S'.1 = S.1 ∧ Lv l S S' ∧ (∀ c, c ≠ 43 → S'.2 c = S.2 c) ∧ ((r = 0 ∧ S' = S ∧ mM S l t s < FM ∧ mM S l t s + w.toInt < 0) ∨ (r = 1 ∧ MOKm W0 N (adE E s t w.toInt) S' l ∧ ∀ a b, a < N → b < N → mM S' l a b = adM FM (mM S l) s t w.toInt a b)) := by
  have Fv : FM = 1152921504606846976 := rfl
  have F0 : (0 : Int) < FM := by decide
  have W0v : W0 = 2000000000 := rfl
  obtain ⟨hM, hle, hWd⟩ := id h
  have hL : ∀ i j, i < N → j < N → mM S l i j < FM → -(10 * W0) ≤ mM S l i j ∧ mM S l i j ≤ 10 * W0 := by
    intro i j hi hj hf
    have h1 := hM.small F0 hWd (by decide) hi hj hf
    have h2 : (N : Int) * W0 ≤ 10 * W0 := Int.mul_le_mul_of_nonneg_right (by omega) (by decide)
    omega
  unfold f_X9_bound
  simp only [bd, ix100, ixm]
  rw [if_neg (nI_bad (by omega) (by omega)), nI_c (by omega)]
  have e1 : (S.2 43 (100 * l + 10 * t + s)).toInt = mM S l t s := rfl
  have go : (mM S l t s < FM → 0 ≤ mM S l t s + w.toInt) → ∃ S', f_X9_bound_43 n S (nI s) (nI t) w (nI (100 * l)) = some (1, S') ∧ S'.1 = S.1 ∧ Lv l S S' ∧ (∀ c, c ≠ 43 → S'.2 c = S.2 c) ∧ MOKm W0 N (adE E s t w.toInt) S' l ∧ ∀ a b, a < N → b < N → mM S' l a b = adM FM (mM S l) s t w.toInt a b := by
    intro hc
    unfold f_X9_bound_43
    simp only [bd]
    have hadd : Mat FM N (adE E s t w.toInt) (adM FM (mM S l) s t w.toInt) := hM.add F0 hs ht hc (fun i j hi hj h1 h2 => by
      have b1 := hL i s hi hs h1
      have b2 := hL t j ht hj h2
      omega)
    refine for_up (α := Int32 × St) (f_X9_bound_46 n (nI s) (nI t) w (nI (100 * l))) (fun _ _ => none) N (fun i T => T.1 = S.1 ∧ Lv l S T ∧ (∀ c, c ≠ 43 → T.2 c = S.2 c) ∧ isMidm N l (mM S l) (adM FM (mM S l) s t w.toInt) i 0 T) (fun o => ∃ S', o = some (1, S') ∧ S'.1 = S.1 ∧ Lv l S S' ∧ (∀ c, c ≠ 43 → S'.2 c = S.2 c) ∧ MOKm W0 N (adE E s t w.toInt) S' l ∧ ∀ a b, a < N → b < N → mM S' l a b = adM FM (mM S l) s t w.toInt a b) ?_ ?_ n 0 S (by omega) (by omega) ⟨rfl, Lv.rf, fun _ _ => rfl, fun a b ha hb => by unfold midM; rw [if_neg (by omega)]⟩
    · rintro i T k hi ⟨g1, g2, g3, hI⟩
      right
      unfold f_X9_bound_46
      rw [g1, hT, if_neg (by rw [nI_leI (by omega) (by omega)]; omega)]
      simp only [bd]
      exact mrow hN hlv hM (B := 10 * W0) (by omega) (by omega) hL hs ht hi (by omega) hc hT k T g1 g2 g3 hI n (by omega)
    · rintro T k ⟨g1, g2, g3, hI⟩
      unfold f_X9_bound_46
      rw [g1, hT, if_pos (by rw [nI_leI (by omega) (by omega)]; omega)]
      have e : ∀ a b, a < N → b < N → mM T l a b = adM FM (mM S l) s t w.toInt a b := fun a b ha hb => by
        rw [hI a b ha hb]; unfold midM; rw [if_pos (by omega)]
      refine ⟨T, rfl, g1, g2, g3, ⟨hadd.congr e, fun i j hi hj => ?_, hWd.ad hw⟩, e⟩
      rw [e i j hi hj]
      have := adM_le FM (mM S l) s t w.toInt i j
      have := hle i j hi hj
      omega
  by_cases h5 : 0 ≤ lg_cmp (S.2 43 (100 * l + 10 * t + s)) (1152921504606846976 : Int64)
  · rw [if_pos h5]
    rw [c_ge, FMi, e1] at h5
    obtain ⟨S', a1, a2, a3, a4, a5⟩ := go (fun h => by omega)
    exact ⟨1, S', a1, a2, a3, a4, Or.inr ⟨rfl, a5⟩⟩
  · rw [if_neg h5]
    rw [c_ge, FMi, e1] at h5
    have b1 := hL t s ht hs (by omega)
    have e2 : (S.2 43 (100 * l + 10 * t + s) + w).toInt = mM S l t s + w.toInt := by rw [l_add (by omega) (by omega), e1]
    by_cases h6 : 0 ≤ lg_cmp (S.2 43 (100 * l + 10 * t + s) + w) (0 : Int64)
    · rw [if_pos h6]
      rw [c_ge, e2, z64] at h6
      obtain ⟨S', a1, a2, a3, a4, a5⟩ := go (fun _ => h6)
      exact ⟨1, S', a1, a2, a3, a4, Or.inr ⟨rfl, a5⟩⟩
    · rw [if_neg h6]
      rw [c_ge, e2, z64] at h6
      exact ⟨0, S, rfl, rfl, Lv.rf, fun _ _ => rfl, Or.inl ⟨rfl, rfl, by omega, by omega⟩⟩
