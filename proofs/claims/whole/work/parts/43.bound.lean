/-! THE CLASS'S TABLE: bound, as the bytecode does it -/
def FC : Int := 1000000000000000
def cM (S : St) (q : Nat) : Mx := fun i j => (S.2 (q + 25) (i * 10 + j)).toInt
theorem cM_set {S : St} {q i j a b : Nat} {v : Int64} (hj : j < 10) (hb : b < 10) : cM (sL S (q + 25) (i * 10 + j) v) q a b = if a = i ∧ b = j then v.toInt else cM S q a b := by
  unfold cM sL
  by_cases h : a = i ∧ b = j
  · rw [if_pos h, h.1, h.2]; simp
  · rw [if_neg h]
    have hn : ¬ (a * 10 + b = i * 10 + j) := fun e => h ⟨by omega, by omega⟩
    simp [hn]
theorem FCi : (1000000000000000 : Int64).toInt = FC := by decide
/-- row t and column s stay -/
theorem ad_row {F : Int} {N : Nat} {E : Ed} {M : Mx} (_h : Mat F N E M) {s t : Nat} {w : Int} (hc : M t s < F → 0 ≤ M t s + w) (j : Nat) : adM F M s t w t j = M t j := by
  unfold adM
  by_cases h1 : M t s < F ∧ M t j < F
  · rw [if_pos h1]; have := hc h1.1; rw [if_neg (by omega)]
  · rw [if_neg h1]
theorem ad_col {F : Int} {N : Nat} {E : Ed} {M : Mx} (_h : Mat F N E M) {s t : Nat} {w : Int} (hc : M t s < F → 0 ≤ M t s + w) (i : Nat) : adM F M s t w i s = M i s := by
  unfold adM
  by_cases h1 : M i s < F ∧ M t s < F
  · rw [if_pos h1]; have := hc h1.2; rw [if_neg (by omega)]
  · rw [if_neg h1]
def Fin10 (M : Mx) : Prop := ∀ i j, i < 10 → j < 10 → M i j ≤ FC
def Lim (B : Int) (M : Mx) : Prop := ∀ i j, i < 10 → j < 10 → M i j < FC → -B ≤ M i j ∧ M i j ≤ B
/-- the table while the rows ahead of i, and of row i the places ahead of j, are new -/
def midM (M G : Mx) (i j : Nat) : Mx := fun a b => if a < i ∨ (a = i ∧ b < j) then G a b else M a b
def isMid (q : Nat) (M G : Mx) (i j : Nat) (S : St) : Prop := ∀ a b, a < 10 → b < 10 → cM S q a b = midM M G i j a b
theorem bound_row {n q : Nat} {α : Type} {E : Ed} {M : Mx} {B : Int} (hM : Mat FC 10 E M) (hle : Fin10 M) (hB : 0 ≤ B) (hB2 : 3 * B < FC) (hL : Lim B M) {s t i : Nat} (hs : s < 10) (ht : t < 10) (hi : i < 10) {w x8 : Int64} (hw : -B ≤ w.toInt ∧ w.toInt ≤ B) (hc : M t s < FC → 0 ≤ M t s + w.toInt) (hx8 : x8.toInt = M i s)
    (k74 : St → Int32 → Option (Int32 × St)) (S : St) (hS : isMid q M (adM FC M s t w.toInt) i 0 S) (d : Nat) (hd : 10 < d) :
    ∃ S', isMid q M (adM FC M s t w.toInt) (i + 1) 0 S' ∧ fixF (fun _ _ => none) (f_X1_bound_98 n q (nI s) (nI t) w (nI i) x8 k74) d S (nI 0) = k74 S' (nI (i + 1)) := by
  have F0 : (0 : Int) < FC := by decide
  have Fv : FC = 1000000000000000 := rfl
  -- what a row that is through looks like
  have fin : ∀ S : St, isMid q M (adM FC M s t w.toInt) i 10 S → isMid q M (adM FC M s t w.toInt) (i + 1) 0 S := by
    intro S h a b ha hb
    rw [h a b ha hb]
    unfold midM
    by_cases h1 : a < i ∨ (a = i ∧ b < 10)
    · rw [if_pos h1, if_pos (by omega)]
    · rw [if_neg h1, if_neg (by omega)]
  refine for_up (α := Int32 × St) (f_X1_bound_98 n q (nI s) (nI t) w (nI i) x8 k74) (fun _ _ => none) 10 (fun j S => isMid q M (adM FC M s t w.toInt) i j S) (fun o => ∃ S', isMid q M (adM FC M s t w.toInt) (i + 1) 0 S' ∧ o = k74 S' (nI (i + 1))) ?_ ?_ d 0 S (by omega) (by omega) hS
  · intro j S k hj hI
    have l0 : ¬ (10 : Int32) ≤ nI j := by rw [show (10 : Int32) = nI 10 from rfl, nI_leI (by omega) (by omega)]; omega
    unfold f_X1_bound_98
    rw [if_neg l0]
    by_cases h8 : lg_cmp x8 (1000000000000000 : Int64) = 0
    · -- no way to the start: the row stays
      left
      rw [if_pos h8]
      rw [c_eq, FCi, hx8] at h8
      refine ⟨S, fun a b ha hb => ?_, ?_⟩
      · rw [hI a b ha hb]
        unfold midM
        by_cases h1 : a < i
        · rw [if_pos (Or.inl h1), if_pos (Or.inl (by omega))]
        · by_cases h2 : a = i
          · subst h2
            have e : adM FC M s t w.toInt a b = M a b := by unfold adM; rw [if_neg (by omega)]
            rw [e]; split <;> split <;> rfl
          · rw [if_neg (by omega), if_neg (by omega)]
      · unfold f_X1_bound_187 bd; rw [nI_1]
    · rw [if_neg h8]
      rw [c_eq, FCi, hx8] at h8
      have h8' : M i s < FC := by have := hle i s hi hs; omega
      rw [ix10 ht hj, if_neg (nI_bad (by omega) (by omega)), nI_c (by omega)]
      simp only [bd]
      have rd : (S.2 (q + 25) (t * 10 + j)).toInt = M t j := by
        have := hI t j ht hj
        unfold cM midM at this
        rw [this]
        split
        · exact ad_row hM hc j
        · rfl
      have st : ∀ S x10, f_X1_bound_181 n q (nI s) (nI t) w (nI i) x8 k74 k S x10 = k S (x10 + 1) := fun _ _ => rfl
      right
      by_cases h11 : lg_cmp (S.2 (q + 25) (t * 10 + j)) (1000000000000000 : Int64) = 0
      · rw [if_pos h11, st]
        rw [c_eq, FCi, rd] at h11
        refine ⟨S, fun a b ha hb => ?_, by rw [nI_1]⟩
        rw [hI a b ha hb]
        unfold midM
        by_cases h2 : a = i ∧ b = j
        · obtain ⟨rfl, rfl⟩ := h2
          have e : adM FC M s t w.toInt a b = M a b := by unfold adM; rw [if_neg (by omega)]
          rw [e]; split <;> split <;> rfl
        · by_cases h1 : a < i ∨ (a = i ∧ b < j)
          · rw [if_pos h1, if_pos (by omega)]
          · rw [if_neg h1, if_neg (by omega)]
      · rw [if_neg h11]
        rw [c_eq, FCi, rd] at h11
        have h11' : M t j < FC := by have := hle t j ht hj; omega
        rw [ix10 hi hj, if_neg (nI_bad (by omega) (by omega)), nI_c (by omega)]
        have b1 := hL i s hi hs h8'
        have b2 := hL t j ht hj h11'
        have e1 : (x8 + w).toInt = M i s + w.toInt := by rw [l_add (by omega) (by omega), hx8]
        have e2 : (x8 + w + S.2 (q + 25) (t * 10 + j)).toInt = M i s + w.toInt + M t j := by rw [l_add (by omega) (by omega), e1, rd]
        have ro : (S.2 (q + 25) (i * 10 + j)).toInt = M i j := by
          have := hI i j hi hj
          unfold cM midM at this
          rw [this, if_neg (by omega)]
        by_cases hg : 0 ≤ lg_cmp (x8 + w + S.2 (q + 25) (t * 10 + j)) (S.2 (q + 25) (i * 10 + j))
        · rw [if_pos hg, st]
          rw [c_ge, e2, ro] at hg
          refine ⟨S, fun a b ha hb => ?_, by rw [nI_1]⟩
          rw [hI a b ha hb]
          unfold midM
          by_cases h2 : a = i ∧ b = j
          · obtain ⟨rfl, rfl⟩ := h2
            have e : adM FC M s t w.toInt a b = M a b := by unfold adM; rw [if_pos ⟨h8', h11'⟩, if_neg (by omega)]
            rw [e]; split <;> split <;> rfl
          · by_cases h1 : a < i ∨ (a = i ∧ b < j)
            · rw [if_pos h1, if_pos (by omega)]
            · rw [if_neg h1, if_neg (by omega)]
        · rw [if_neg hg, st]
          rw [c_ge, e2, ro] at hg
          rw [if_neg (fun h => h.elim (nI_pos (by omega)) (by omega))]
          refine ⟨_, fun a b ha hb => ?_, by rw [nI_1]⟩
          rw [cM_set hj hb, hI a b ha hb]
          unfold midM
          by_cases h2 : a = i ∧ b = j
          · obtain ⟨rfl, rfl⟩ := h2
            rw [if_pos ⟨rfl, rfl⟩, if_pos (by omega), e2]
            unfold adM
            rw [if_pos ⟨h8', h11'⟩, if_pos (by omega)]
          · rw [if_neg h2]
            by_cases h1 : a < i ∨ (a = i ∧ b < j)
            · rw [if_pos h1, if_pos (by omega)]
            · rw [if_neg h1, if_neg (by omega)]
  · intro S k hI
    have l0 : (10 : Int32) ≤ nI 10 := by decide
    unfold f_X1_bound_98
    rw [if_pos l0]
    exact ⟨S, fin S hI, by unfold f_X1_bound_187 bd; rw [nI_1]⟩
theorem bound_c {n q : Nat} {S : St} (hn : 11 ≤ n) {E : Ed} {B : Int} (hB : 0 ≤ B) (hB2 : 3 * B < FC) (hM : Mat FC 10 E (cM S q)) (hle : Fin10 (cM S q)) (hL : Lim B (cM S q)) {s t : Nat} (hs : s < 10) (ht : t < 10) {w : Int64} (hw : -B ≤ w.toInt ∧ w.toInt ≤ B) :
    ∃ r S', f_X1_bound n q S (nI s) (nI t) w = some (r, S') ∧ ((r = 0 ∧ S' = S ∧ cM S q t s < FC ∧ cM S q t s + w.toInt < 0) ∨ (r = 1 ∧ Mat FC 10 (adE E s t w.toInt) (cM S' q) ∧ Fin10 (cM S' q) ∧ ∀ a b, a < 10 → b < 10 → cM S' q a b = adM FC (cM S q) s t w.toInt a b)) := by
  have F0 : (0 : Int) < FC := by decide
  have Fv : FC = 1000000000000000 := rfl
  have l1 : ∀ a : Nat, a < 10 → ¬ nI a < 0 := fun a h => nI_pos (by omega)
  have l2 : ∀ a : Nat, a < 10 → ¬ (10 : Int32) ≤ nI a := fun a h => by rw [show (10 : Int32) = nI 10 from rfl, nI_leI (by omega) (by omega)]; omega
  unfold f_X1_bound
  rw [if_neg (l1 s hs), if_neg (l2 s hs), if_neg (l1 t ht), if_neg (l2 t ht), ix10 hs ht, if_neg (nI_bad (by omega) (by omega)), nI_c (by omega)]
  have e0 : (S.2 (q + 25) (s * 10 + t)).toInt = cM S q s t := rfl
  by_cases h0 : 0 < lg_cmp (S.2 (q + 25) (s * 10 + t)) w
  · rw [if_pos h0, ix10 ht hs, if_neg (nI_bad (by omega) (by omega)), nI_c (by omega)]
    rw [c_gt, e0] at h0
    simp only [bd]
    have e1 : (S.2 (q + 25) (t * 10 + s)).toInt = cM S q t s := rfl
    -- when it goes
    have go : (cM S q t s < FC → 0 ≤ cM S q t s + w.toInt) → ∃ r S', f_X1_bound_71 n q S (nI s) (nI t) w = some (r, S') ∧ (r = 1 ∧ Mat FC 10 (adE E s t w.toInt) (cM S' q) ∧ Fin10 (cM S' q) ∧ ∀ a b, a < 10 → b < 10 → cM S' q a b = adM FC (cM S q) s t w.toInt a b) := by
      intro hc
      unfold f_X1_bound_71 bd
      have hadd : Mat FC 10 (adE E s t w.toInt) (adM FC (cM S q) s t w.toInt) := hM.add F0 hs ht hc (fun i j hi hj h1 h2 => by
        have b1 := hL i s hi hs h1
        have b2 := hL t j ht hj h2
        omega)
      have hfin : Fin10 (adM FC (cM S q) s t w.toInt) := fun i j hi hj => by
        have := hle i j hi hj
        unfold adM; split
        · split <;> omega
        · exact this
      refine for_up (α := Int32 × St) (f_X1_bound_74 n q (nI s) (nI t) w) (fun _ _ => none) 10 (fun i T => isMid q (cM S q) (adM FC (cM S q) s t w.toInt) i 0 T) (fun o => ∃ r S', o = some (r, S') ∧ (r = 1 ∧ Mat FC 10 (adE E s t w.toInt) (cM S' q) ∧ Fin10 (cM S' q) ∧ ∀ a b, a < 10 → b < 10 → cM S' q a b = adM FC (cM S q) s t w.toInt a b)) ?_ ?_ n 0 S (by omega) (by omega) (fun a b ha hb => by unfold midM; rw [if_neg (by omega)])
      · intro i T k hi hI
        right
        unfold f_X1_bound_74
        rw [if_neg (l2 i hi), ix10 hi hs, if_neg (nI_bad (by omega) (by omega)), nI_c (by omega)]
        simp only [bd]
        have hx8 : (T.2 (q + 25) (i * 10 + s)).toInt = cM S q i s := by
          have := hI i s hi hs
          unfold cM midM at this
          rw [this]
          rw [if_neg (by omega)]
          rfl
        exact bound_row (α := Int32) hM hle hB hB2 hL hs ht hi hw hc hx8 k T hI n (by omega)
      · intro T k hI
        unfold f_X1_bound_74
        rw [if_pos (by decide)]
        have e : ∀ a b, a < 10 → b < 10 → cM T q a b = adM FC (cM S q) s t w.toInt a b := fun a b ha hb => by
          rw [hI a b ha hb]; unfold midM; rw [if_pos (by omega)]
        refine ⟨1, T, rfl, rfl, ?_, ?_, e⟩
        · obtain ⟨d0, d1, d2, d3⟩ := hadd
          refine ⟨fun i hi => by rw [e i i hi hi]; exact d0 i hi, fun i j k hi hj hk h1 h2 => ?_, fun i j w' hE => ?_, fun i j hi hj hf => ?_⟩
          · rw [e i k hi hk] at h1; rw [e k j hk hj] at h2
            rw [e i j hi hj, e i k hi hk, e k j hk hj]
            exact d1 i j k hi hj hk h1 h2
          · obtain ⟨g1, g2, g3, g4⟩ := d2 i j w' hE
            rw [e i j g1 g2]
            exact ⟨g1, g2, g3, g4⟩
          · rw [e i j hi hj] at hf ⊢
            exact d3 i j hi hj hf
        · intro a b ha hb
          rw [hI a b ha hb]; unfold midM; rw [if_pos (by omega)]; exact hfin a b ha hb
    by_cases h5 : lg_cmp (S.2 (q + 25) (t * 10 + s)) (1000000000000000 : Int64) = 0
    · rw [if_pos h5]
      rw [c_eq, FCi, e1] at h5
      obtain ⟨r, S', a1, a2⟩ := go (fun h => by omega)
      exact ⟨r, S', a1, Or.inr a2⟩
    · rw [if_neg h5]
      rw [c_eq, FCi, e1] at h5
      have h5' : cM S q t s < FC := by have := hle t s ht hs; omega
      have b1 := hL t s ht hs h5'
      have e2 : (S.2 (q + 25) (t * 10 + s) + w).toInt = cM S q t s + w.toInt := by rw [l_add (by omega) (by omega), e1]
      have z : (0 : Int64).toInt = 0 := by decide
      by_cases h6 : 0 ≤ lg_cmp (S.2 (q + 25) (t * 10 + s) + w) (0 : Int64)
      · rw [if_pos h6]
        rw [c_ge, e2, z] at h6
        obtain ⟨r, S', a1, a2⟩ := go (fun _ => h6)
        exact ⟨r, S', a1, Or.inr a2⟩
      · rw [if_neg h6]
        rw [c_ge, e2, z] at h6
        exact ⟨0, S, rfl, Or.inl ⟨rfl, rfl, h5', by omega⟩⟩
  · rw [if_neg h0]
    rw [c_gt, e0] at h0
    refine ⟨1, S, rfl, Or.inr ⟨rfl, hM.idle hs ht (by omega) (by omega), hle, fun a b ha hb => ?_⟩⟩
    unfold adM
    by_cases h1 : cM S q a s < FC ∧ cM S q t b < FC
    · rw [if_pos h1]
      obtain ⟨c1, c2⟩ := hM.2.1 a t s ha ht hs h1.1 (by omega)
      obtain ⟨c3, c4⟩ := hM.2.1 a b t ha hb ht c1 h1.2
      rw [if_neg (by omega)]
    · rw [if_neg h1]
