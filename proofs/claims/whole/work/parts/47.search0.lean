/-! THE SOLVER of the class: what the search stands on -/
theorem for_up3' {α β γ : Type} (b : (St → β → γ → Int32 → Option α) → St → β → γ → Int32 → Option α) (bot : St → β → γ → Int32 → Option α) (e : Nat) (I : Nat → St → β → γ → Prop) (Q : Option α → Prop)
    (step : ∀ (i : Nat) (S : St) (a : β) (c : γ) (k : St → β → γ → Int32 → Option α), i < e → I i S a c → Q (b k S a c (nI i)) ∨ ∃ S' a' c', I (i + 1) S' a' c' ∧ b k S a c (nI i) = k S' a' c' (nI (i + 1)))
    (stop : ∀ (S : St) (a : β) (c : γ) (k : St → β → γ → Int32 → Option α), I e S a c → Q (b k S a c (nI e))) : ∀ (d i : Nat) (S : St) (a : β) (c : γ), i ≤ e → e - i < d → I i S a c → Q (fixF bot b d S a c (nI i)) := by
  intro d
  induction d with
  | zero => intro i S a c _ h; omega
  | succ d ih =>
    intro i S a c hi hd hI
    show Q (b (fixF bot b d) S a c (nI i))
    by_cases h : i = e
    · subst h; exact stop S a c _ hI
    · rcases step i S a c (fixF bot b d) (by omega) hI with h1 | ⟨S', a', c', h1, h2⟩
      · exact h1
      · rw [h2]; exact ih (i + 1) S' a' c' (by omega) (by omega) h1
theorem Mat.congr {F : Int} {N : Nat} {E : Ed} {M K : Mx} (h : Mat F N E M) (e : ∀ i j, i < N → j < N → K i j = M i j) : Mat F N E K := by
  obtain ⟨d0, d1, d2, d3⟩ := h
  refine ⟨fun i hi => by rw [e i i hi hi]; exact d0 i hi, fun i j k hi hj hk h1 h2 => ?_, fun i j w' hE => ?_, fun i j hi hj hf => ?_⟩
  · rw [e i k hi hk] at h1; rw [e k j hk hj] at h2
    rw [e i j hi hj, e i k hi hk, e k j hk hj]
    exact d1 i j k hi hj hk h1 h2
  · obtain ⟨g1, g2, g3, g4⟩ := d2 i j w' hE
    rw [e i j g1 g2]
    exact ⟨g1, g2, g3, g4⟩
  · rw [e i j hi hj] at hf ⊢
    exact d3 i j hi hj hf
theorem MOK.congr {W : Int} {E : Ed} {S T : St} {q p : Nat} (h : MOK W E S q) (e : ∀ i j, i < 10 → j < 10 → cM T p i j = cM S q i j) : MOK W E T p :=
  ⟨h.1.congr e, fun i j hi hj => by rw [e i j hi hj]; exact h.2.1 i j hi hj, h.2.2⟩
theorem copy_c {n q q1 : Nat} {S : St} : ∃ S', f_X1_copyFrom n q S q1 = some ((), S') ∧ S'.1 = S.1 ∧ (∀ c, c ≠ q + 25 → S'.2 c = S.2 c) ∧ ∀ i j, i < 10 → j < 10 → cM S' q i j = cM S q1 i j := by
  unfold f_X1_copyFrom
  simp only [bd]
  refine ⟨_, rfl, rfl, fun c hc => ?_, fun i j hi hj => ?_⟩
  · funext b; simp [sR, hc]
  · unfold cM sR
    simp only [if_true]
    rw [pk_cpy_in (by omega) (by omega)]
    simp
noncomputable def unm (M : Mx) (C : Nat → Cl) : Nat → Nat
  | 0 => 0
  | k + 1 => unm M C k + @ite Nat (clMet M (C k)) (Classical.propDecidable _) 0 1
theorem unm_le (M : Mx) (C : Nat → Cl) : ∀ cc, unm M C cc ≤ cc
  | 0 => Nat.le_refl _
  | k + 1 => by have := unm_le M C k; simp only [unm]; split <;> omega
theorem unm_mono {M K : Mx} {C : Nat → Cl} : ∀ (cc : Nat), (∀ k, k < cc → clMet M (C k) → clMet K (C k)) → unm K C cc ≤ unm M C cc
  | 0, _ => Nat.le_refl _
  | c + 1, h => by
    have ih := unm_mono c (fun k hk => h k (by omega))
    have h1 := h c (by omega)
    simp only [unm]
    by_cases hm : clMet M (C c)
    · rw [if_pos hm, if_pos (h1 hm)]; omega
    · rw [if_neg hm]; split <;> omega
theorem unm_lt {M K : Mx} {C : Nat → Cl} : ∀ (cc : Nat), (∀ k, k < cc → clMet M (C k) → clMet K (C k)) → (∃ k, k < cc ∧ ¬ clMet M (C k) ∧ clMet K (C k)) → unm K C cc < unm M C cc
  | 0, _, ⟨k, hk, _⟩ => absurd hk (Nat.not_lt_zero _)
  | c + 1, h, ⟨k, hk, h2, h3⟩ => by
    have h1 := h c (by omega)
    simp only [unm]
    by_cases e : k = c
    · subst e
      have ih := unm_mono k (fun j hj => h j (by omega))
      rw [if_neg h2, if_pos h3]; omega
    · have ih := unm_lt c (fun j hj => h j (by omega)) ⟨k, by omega, h2, h3⟩
      by_cases hm : clMet M (C c)
      · rw [if_pos hm, if_pos (h1 hm)]; omega
      · rw [if_neg hm]; split <;> omega
theorem unm_pos {M : Mx} {C : Nat → Cl} : ∀ (cc : Nat), (∃ k, k < cc ∧ ¬ clMet M (C k)) → 0 < unm M C cc
  | 0, ⟨k, hk, _⟩ => absurd hk (Nat.not_lt_zero _)
  | c + 1, ⟨k, hk, h2⟩ => by
    simp only [unm]
    by_cases e : k = c
    · subst e; rw [if_neg h2]; omega
    · have := unm_pos c ⟨k, by omega, h2⟩; omega
theorem bitc {n m : Nat} {S : St} (hm : m < 32) : ∃ r, f_J6_bitCount_0f7a4 n S (nI m) = some (r, S) ∧ ¬ (6 : Int32) ≤ r := by
  unfold f_J6_bitCount_0f7a4
  simp only [bd]
  refine ⟨_, rfl, ?_⟩
  revert m
  decide +kernel
theorem narrow_c {n q1 cc : Nat} {C : Nat → Cl} {E : Ed} {S : St} (hn : 30 ≤ n) (hC : clsAt S cc C) (hE : Mat FC 10 E (cM S q1)) :
    ∃ r, f_X6_narrowestClause n S q1 = some (r, S) ∧ ((r = -1 ∧ ∀ k, k < cc → clMet (cM S q1) (C k)) ∨ ∃ k, k < cc ∧ r = nI k ∧ ¬ clMet (cM S q1) (C k)) := by
  have hcc := hC.1
  obtain ⟨-, hc3, hcl⟩ := hC
  unfold f_X6_narrowestClause
  simp only [bd]
  refine for_up3' (α := Int32 × St) (β := Int32) (γ := Int32) (f_X6_narrowestClause_8 n q1) (fun _ _ _ _ => none) cc (fun i T a c => T = S ∧ ((a = -1 ∧ c = 6 ∧ ∀ k, k < i → clMet (cM S q1) (C k)) ∨ ∃ k, k < i ∧ a = nI k ∧ ¬ clMet (cM S q1) (C k))) (fun o => ∃ r, o = some (r, S) ∧ ((r = -1 ∧ ∀ k, k < cc → clMet (cM S q1) (C k)) ∨ ∃ k, k < cc ∧ r = nI k ∧ ¬ clMet (cM S q1) (C k))) ?_ ?_ n 0 S (-1) 6 (by omega) (by omega) ⟨rfl, Or.inl ⟨rfl, rfl, fun k hk => absurd hk (Nat.not_lt_zero _)⟩⟩
  · rintro i T a c k hi ⟨rfl, hI⟩
    right
    have st : ∀ S a c, f_X6_narrowestClause_61 n q1 k S a c (nI i) = k S a c (nI (i + 1)) := fun S a c => by unfold f_X6_narrowestClause_61; simp only [bd]; rw [nI_1]
    unfold f_X6_narrowestClause_8
    rw [hc3, if_neg (by rw [nI_leI (by omega) (by omega)]; omega), if_neg (by rw [show (22 : Int32) = nI 22 from rfl, nI_leI (by omega) (by omega)]; omega), if_neg (nI_bad (by omega) (by omega)), nI_c (by omega)]
    have old : (∃ k, k < i ∧ a = nI k ∧ ¬ clMet (cM T q1) (C k)) → ∃ k, k < i + 1 ∧ a = nI k ∧ ¬ clMet (cM T q1) (C k) := fun ⟨k, h1, h2, h3⟩ => ⟨k, by omega, h2, h3⟩
    rcases open_c (n := n) (hcl i hi) hE with ⟨hm, ho⟩ | ⟨hm, ho⟩
    · rw [bo_some ho]
      simp only [bd]
      rw [if_pos trivial, st]
      refine ⟨T, a, c, ⟨rfl, ?_⟩, rfl⟩
      rcases hI with ⟨h1, h2, h3⟩ | h
      · refine Or.inl ⟨h1, h2, fun j hj => ?_⟩
        by_cases e : j = i
        · rw [e]; exact hm
        · exact h3 j (by omega)
      · exact Or.inr (old h)
    · rw [bo_some ho]
      simp only [bd]
      have hlt := mask_lt (cM T q1) (C i)
      rw [if_neg (by
        have : ∀ m, m < 32 → ¬ nI m = (-1 : Int32) := by decide
        exact this _ hlt)]
      obtain ⟨r, hr1, hr2⟩ := bitc (n := n) (S := T) hlt
      rw [bo_some hr1]
      by_cases hc : c ≤ r
      · rw [if_pos hc, st]
        refine ⟨T, a, c, ⟨rfl, ?_⟩, rfl⟩
        rcases hI with ⟨h1, h2, h3⟩ | h
        · rw [h2] at hc; exact absurd hc hr2
        · exact Or.inr (old h)
      · rw [if_neg hc, bo_some hr1, st]
        exact ⟨T, nI i, r, ⟨rfl, Or.inr ⟨i, by omega, rfl, hm⟩⟩, rfl⟩
  · rintro T a c k ⟨rfl, hI⟩
    unfold f_X6_narrowestClause_8
    rw [hc3, if_pos (by rw [nI_leI (by omega) (by omega)]; omega)]
    refine ⟨a, rfl, ?_⟩
    rcases hI with ⟨h1, -, h3⟩ | h
    · exact Or.inl ⟨h1, h3⟩
    · exact Or.inr h
/-- what is found: all that the table at 95 allows are solutions -/
def Best (gl gr : Nat) (P : (Nat → Int) → Prop) (S : St) : Prop := S.1 23 7 = 0 ∨ (S.1 23 7 = 1 ∧ ∃ E, MOK WW E S 95 ∧ Ty gl gr E ∧ ∀ v, Sat E v → P v)
def Mono (gl gr : Nat) (S T : St) : Prop := S.1 23 7 = 1 → T.1 23 7 = 1 ∧ cM S 95 gl gr ≤ cM T 95 gl gr
def Cov (gl gr : Nat) (S : St) (v : Nat → Int) : Prop := S.1 23 7 = 1 ∧ (cM S 95 gl gr < FC → v gl - v gr ≤ cM S 95 gl gr)
theorem Mono.rf {gl gr : Nat} {S : St} : Mono gl gr S S := fun h => ⟨h, Int.le_refl _⟩
theorem Mono.trans {gl gr : Nat} {S T U : St} (h : Mono gl gr S T) (g : Mono gl gr T U) : Mono gl gr S U := fun a => by
  obtain ⟨h1, h2⟩ := h a
  obtain ⟨g1, g2⟩ := g h1
  exact ⟨g1, by omega⟩
theorem Cov.mono {gl gr : Nat} {S T : St} {v : Nat → Int} (h : Cov gl gr S v) (g : Mono gl gr S T) : Cov gl gr T v := by
  obtain ⟨g1, g2⟩ := g h.1
  exact ⟨g1, fun hf => by have := h.2 (by omega); omega⟩
theorem Best.small {gl gr : Nat} {P : (Nat → Int) → Prop} {S : St} (hgl : gl < 10) (hgr : gr < 10) {E : Ed} (hE : MOK WW E S 95) (hty : Ty gl gr E) (hf : cM S 95 gl gr < FC) : -(10 * W0) ≤ cM S 95 gl gr ∧ cM S 95 gl gr ≤ 10 * W0 :=
  hE.1.small1 (by decide) (E1 := fun i j w => E i j w ∧ (-W0 ≤ w ∧ w ≤ W0)) (fun i j w h => (hty i j w h).elim (fun q => Or.inl ⟨h, q⟩) Or.inr) (fun _ _ _ h => h.1) (fun _ _ _ h => h.2) (by decide) hgl hgr hf
