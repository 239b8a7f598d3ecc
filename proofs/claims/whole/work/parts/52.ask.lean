/-! ASKING the class's solver -/
theorem MOK.wide {E : Ed} {S : St} {q : Nat} (h : MOK W0 E S q) : MOK WW E S q := ⟨h.1, h.2.1, fun i j w hw => by
  have := h.2.2 i j w hw
  have W0v : W0 = 2000000000 := rfl
  have WWv : WW = 20000000001 := rfl
  omega⟩
/-- a closed table has values -/
theorem MOK.some {W : Int} {E : Ed} {S : St} {q : Nat} (h : MOK W E S q) : ∃ v, Sat E v := ⟨_, fillW_sat h.1 (by decide) (j := 0) (by decide) 0⟩
theorem ask_c {n gl gr cc : Nat} {S : St} {P : (Nat → Int) → Prop} (hn : 30 ≤ n) (hgl : gl < 10) (hgr : gr < 10) (h8 : S.1 23 8 = nI gl) (h9 : S.1 23 9 = nI gr) (h : Ld S cc P) :
    ∃ r T, f_X6_hasSolution n S = some (r, T) ∧ ((r = 0 ∧ ∀ v, ¬ P v) ∨ (r = 1 ∧ (∃ E, MOK WW E T 95 ∧ Ty gl gr E ∧ ∀ v, Sat E v → P v) ∧ ∀ v, P v → cM T 95 gl gr < FC → v gl - v gr ≤ cM T 95 gl gr)) ∧ T.1 23 8 = nI gl ∧ T.1 23 9 = nI gr := by
  obtain ⟨C, E, h1, h2, h3, h4⟩ := h
  have hcc := h1.1
  unfold f_X6_hasSolution
  rcases h4 with ⟨a, hP⟩ | ⟨a, hP⟩
  · rw [if_pos a]
    obtain ⟨T, b1, b2, b3, b4, b5, b6⟩ := search_c (n := n) (gl := gl) (gr := gr) (cc := cc) (C := C) (P := P) hn hgl hgr 24 0 E S (by omega) (by omega) ⟨⟨h1, h8, h9⟩, h2.wide, fun i j w hw => Or.inl (h2.2.2 i j w hw), Or.inl h3, fun v hv ha => (hP v).mpr ⟨hv, ha⟩, by have := unm_le (cM S (72 + 0)) C cc; omega⟩
    rw [nI_0] at b1
    rw [bo_some b1]
    have g : T.1 23 8 = nI gl ∧ T.1 23 9 = nI gr := ⟨(b2 23 8 (by omega) (by omega)).trans h8, (b2 23 9 (by omega) (by omega)).trans h9⟩
    rcases b4 with hz | ⟨ho, Eb, e1, e2, e3⟩
    · rw [hz, if_neg (by decide)]
      refine ⟨0, T, rfl, Or.inl ⟨rfl, fun v hv => ?_⟩, g⟩
      obtain ⟨x, y⟩ := (hP v).mp hv
      have := (b6 v x y).1
      rw [hz] at this
      exact absurd this (by decide)
    · rw [ho, if_neg (by decide)]
      refine ⟨1, T, rfl, Or.inr ⟨rfl, ⟨Eb, e1, e2, e3⟩, fun v hv hf => ?_⟩, g⟩
      obtain ⟨x, y⟩ := (hP v).mp hv
      exact (b6 v x y).2 hf
  · rw [if_neg (by rw [a]; decide), h3, if_neg (by decide)]
    exact ⟨0, S, rfl, Or.inl ⟨rfl, hP⟩, h8, h9⟩
theorem ask1 {n gl gr cc : Nat} {S : St} {P : (Nat → Int) → Prop} (hn : 30 ≤ n) (hgl : gl < 10) (hgr : gr < 10) (h8 : S.1 23 8 = nI gl) (h9 : S.1 23 9 = nI gr) (h : Ld S cc P) :
    ∃ r T, f_X6_hasSolution n S = some (r, T) ∧ ((r = 0 ∧ ¬ ∃ v, P v) ∨ (r = 1 ∧ ∃ v, P v)) := by
  obtain ⟨r, T, a, b, -⟩ := ask_c hn hgl hgr h8 h9 h
  refine ⟨r, T, a, ?_⟩
  rcases b with ⟨e, h⟩ | ⟨e, ⟨E, x, -, y⟩, -⟩
  · exact Or.inl ⟨e, fun ⟨v, hv⟩ => h v hv⟩
  · obtain ⟨v, hv⟩ := x.some
    exact Or.inr ⟨e, v, y v hv⟩
/-- the greatest difference that solutions have -/
def isSup (P : (Nat → Int) → Prop) (s t : Nat) (g : Option Int) : Prop := match g with
  | none => ∀ b : Int, ∃ v, P v ∧ b ≤ v s - v t
  | some c => (∀ v, P v → v s - v t ≤ c) ∧ ∃ v, P v ∧ v s - v t = c
theorem isSup_uniq {P : (Nat → Int) → Prop} {s t : Nat} {g h : Option Int} (hg : isSup P s t g) (hh : isSup P s t h) : g = h := by
  cases g with
  | none =>
    cases h with
    | none => rfl
    | some c =>
      obtain ⟨v, h1, h2⟩ := hg (c + 1)
      have := hh.1 v h1
      omega
  | some a =>
    cases h with
    | none =>
      obtain ⟨v, h1, h2⟩ := hh (a + 1)
      have := hg.1 v h1
      omega
    | some c =>
      obtain ⟨v, h1, h2⟩ := hg.2
      obtain ⟨w, h3, h4⟩ := hh.2
      have := hg.1 w h3
      have := hh.1 v h1
      exact congrArg some (by omega)
theorem mat_sup {F : Int} {N : Nat} {E : Ed} {M : Mx} (h : Mat F N E M) (hF : 0 < F) {s t : Nat} (hs : s < N) (ht : t < N) : (M s t < F → ∃ v, Sat E v ∧ v s - v t = M s t) ∧ (¬ M s t < F → ∀ b : Int, ∃ v, Sat E v ∧ b ≤ v s - v t) := by
  have at_t : ∀ W : Int, 0 < lowN M t N + W → fillW F N M t W t = 0 := fun W hW => by
    unfold fillW
    rw [h.1 t ht, if_pos ⟨hF, hW⟩]
  constructor
  · intro hf
    have hl1 := lowN_0 M t N
    refine ⟨fillW F N M t (1 - lowN M t N + 1 + (if M s t - lowN M s N < 0 then 0 else M s t - lowN M s N)), fillW_sat h hF ht _, ?_⟩
    rw [at_t _ (by split <;> omega)]
    unfold fillW
    rw [if_pos ⟨hf, by split <;> omega⟩]
    omega
  · intro hf b
    have hl1 := lowN_0 M t N
    refine ⟨fillW F N M t (1 - lowN M t N + (if b - lowN M s N < 0 then 0 else b - lowN M s N)), fillW_sat h hF ht _, ?_⟩
    rw [at_t _ (by split <;> omega)]
    unfold fillW
    rw [if_neg (fun q => hf q.1)]
    split <;> omega
theorem askG {n gl gr cc : Nat} {S : St} {P : (Nat → Int) → Prop} (hn : 30 ≤ n) (hgl : gl < 10) (hgr : gr < 10) (h8 : S.1 23 8 = nI gl) (h9 : S.1 23 9 = nI gr) (h : Ld S cc P) :
    ∃ r T, f_X6_hasSolution n S = some (r, T) ∧ ((r = 0 ∧ ¬ ∃ v, P v) ∨ (r = 1 ∧ (∃ v, P v) ∧ f_X6_greatest n T = some (T.2 120 (gl * 10 + gr), T) ∧ (((T.2 120 (gl * 10 + gr)).toInt = FC ∧ isSup P gl gr none) ∨ (-(10 * W0) ≤ (T.2 120 (gl * 10 + gr)).toInt ∧ (T.2 120 (gl * 10 + gr)).toInt ≤ 10 * W0 ∧ isSup P gl gr (some (T.2 120 (gl * 10 + gr)).toInt))))) := by
  obtain ⟨r, T, a, b, c, d⟩ := ask_c hn hgl hgr h8 h9 h
  refine ⟨r, T, a, ?_⟩
  rcases b with ⟨e, h⟩ | ⟨e, ⟨E, x, y, z⟩, w⟩
  · exact Or.inl ⟨e, fun ⟨v, hv⟩ => h v hv⟩
  · right
    obtain ⟨v, hv⟩ := x.some
    refine ⟨e, ⟨v, z v hv⟩, great_c hgl hgr c d, ?_⟩
    obtain ⟨m1, m2⟩ := mat_sup x.1 (by decide) hgl hgr
    have hle := x.2.1 gl gr hgl hgr
    have eg : (T.2 120 (gl * 10 + gr)).toInt = cM T 95 gl gr := rfl
    rw [eg]
    by_cases hf : cM T 95 gl gr < FC
    · right
      have hsm := Best.small (P := P) hgl hgr x y hf
      refine ⟨hsm.1, hsm.2, fun v hv => w v hv hf, ?_⟩
      obtain ⟨u, u1, u2⟩ := m1 hf
      exact ⟨u, z u u1, u2⟩
    · left
      refine ⟨by omega, fun b => ?_⟩
      obtain ⟨u, u1, u2⟩ := m2 hf b
      exact ⟨u, z u u1, u2⟩
