/-! CLASSES OF TERMS: the least member stands for its class; joining; what is canonical -/
def Rp (N : Nat) (rep : Nat → Nat) : Prop := ∀ t, t < N → rep t ≤ t ∧ rep (rep t) = rep t
def jn (rep : Nat → Nat) (a b : Nat) : Nat → Nat := fun t => if rep t = (if rep a < rep b then rep b else rep a) then (if rep a < rep b then rep a else rep b) else rep t
def Eqv (R : Nat → Nat → Prop) : Prop := (∀ x, R x x) ∧ (∀ x y, R x y → R y x) ∧ ∀ x y z, R x y → R y z → R x z
def Er (rep : Nat → Nat) : Nat → Nat → Prop := fun x y => rep x = rep y
theorem Er_eqv (rep : Nat → Nat) : Eqv (Er rep) := ⟨fun _ => rfl, fun _ _ h => Eq.symm h, fun _ _ _ h g => Eq.trans h g⟩
theorem jn_rp {N : Nat} {rep : Nat → Nat} (h : Rp N rep) {a b : Nat} (ha : a < N) (hb : b < N) : Rp N (jn rep a b) := by
  intro t ht
  obtain ⟨h1, h2⟩ := h t ht
  obtain ⟨a1, a2⟩ := h a ha
  obtain ⟨b1, b2⟩ := h b hb
  unfold jn
  by_cases hab : rep a < rep b
  · simp only [if_pos hab]
    by_cases e : rep t = rep b
    · simp only [if_pos e]
      rw [a2, if_neg (by omega)]
      exact ⟨by omega, rfl⟩
    · simp only [if_neg e]
      rw [h2, if_neg e]
      exact ⟨h1, rfl⟩
  · simp only [if_neg hab]
    by_cases e : rep t = rep a
    · simp only [if_pos e]
      rw [b2]
      refine ⟨by omega, ?_⟩
      by_cases e2 : rep b = rep a
      · rw [if_pos e2]
      · rw [if_neg e2]
    · simp only [if_neg e]
      rw [h2, if_neg e]
      exact ⟨h1, rfl⟩
theorem jn_same {rep : Nat → Nat} {a b : Nat} : jn rep a b a = jn rep a b b := by
  unfold jn
  by_cases hab : rep a < rep b
  · simp only [if_pos hab]
    rw [if_neg (by omega)]
    simp
  · simp only [if_neg hab]
    simp
theorem jn_keep {rep : Nat → Nat} {a b x y : Nat} (h : rep x = rep y) : jn rep a b x = jn rep a b y := by unfold jn; rw [h]
theorem jn_sound {rep : Nat → Nat} {a b t : Nat} {R : Nat → Nat → Prop} (hR : Eqv R) (ht : R t (rep t)) (ha : R a (rep a)) (hb : R b (rep b)) (hab : R a b) : R t (jn rep a b t) := by
  have h1 : R (rep a) (rep b) := hR.2.2 _ _ _ (hR.2.1 _ _ ha) (hR.2.2 _ _ _ hab hb)
  unfold jn
  by_cases c : rep a < rep b
  · simp only [if_pos c]
    by_cases e : rep t = rep b
    · rw [if_pos e]; rw [e] at ht; exact hR.2.2 _ _ _ ht (hR.2.1 _ _ h1)
    · rw [if_neg e]; exact ht
  · simp only [if_neg c]
    by_cases e : rep t = rep a
    · rw [if_pos e]; rw [e] at ht; exact hR.2.2 _ _ _ ht h1
    · rw [if_neg e]; exact ht
/-- made out of rep0 by joins that every relation with the rules Q has -/
def JR (N : Nat) (Q : (Nat → Nat → Prop) → Prop) (rep0 rep : Nat → Nat) : Prop := Rp N rep ∧ (∀ x y, rep0 x = rep0 y → rep x = rep y) ∧ ∀ R, Eqv R → Q R → (∀ t, t < N → R t (rep0 t)) → ∀ t, t < N → R t (rep t)
theorem JR.rf {N : Nat} {Q : (Nat → Nat → Prop) → Prop} {rep : Nat → Nat} (h : Rp N rep) : JR N Q rep rep := ⟨h, fun _ _ h => h, fun _ _ _ h => h⟩
theorem JR.join {N : Nat} {Q : (Nat → Nat → Prop) → Prop} {rep0 rep : Nat → Nat} (h : JR N Q rep0 rep) {a b : Nat} (ha : a < N) (hb : b < N) (hj : ∀ R, Eqv R → Q R → (∀ t, t < N → R t (rep t)) → R a b) : JR N Q rep0 (jn rep a b) := by
  obtain ⟨h1, h2, h3⟩ := h
  refine ⟨jn_rp h1 ha hb, fun x y e => jn_keep (h2 x y e), fun R hR hQ h0 t ht => ?_⟩
  have hs := h3 R hR hQ h0
  exact jn_sound hR (hs t ht) (hs a ha) (hs b hb) (hj R hR hQ hs)
theorem JR.uniq {N : Nat} {Q : (Nat → Nat → Prop) → Prop} {r0 r0' r r' : Nat → Nat} (h : JR N Q r0 r) (h' : JR N Q r0' r') (e : ∀ t, t < N → r0 t = r0' t) (hr0 : Rp N r0) (hr0' : Rp N r0') (q : Q (Er r)) (q' : Q (Er r')) : ∀ t, t < N → r t = r' t := by
  -- r' lies in the relation of r, and the other way round
  have k1 : ∀ t, t < N → r t = r (r' t) := h'.2.2 (Er r) (Er_eqv r) q (fun t ht => by
    show r t = r (r0' t)
    rw [← e t ht]
    exact h.2.1 _ _ ((hr0 t ht).2).symm)
  have k2 : ∀ t, t < N → r' t = r' (r t) := h.2.2 (Er r') (Er_eqv r') q' (fun t ht => by
    show r' t = r' (r0 t)
    rw [e t ht]
    exact h'.2.1 _ _ ((hr0' t ht).2).symm)
  intro t ht
  have a1 := (h.1 t ht).1
  have a2 := (h'.1 t ht).1
  have b1 := (h.1 (r' t) (by omega)).1
  have b2 := (h'.1 (r t) (by omega)).1
  rw [← k1 t ht] at b1
  rw [← k2 t ht] at b2
  omega
/-- how many classes -/
def cnt (rep : Nat → Nat) : Nat → Nat
  | 0 => 0
  | k + 1 => cnt rep k + (if rep k = k then 1 else 0)
theorem cnt_le (rep : Nat → Nat) : ∀ k, cnt rep k ≤ k
  | 0 => Nat.le_refl _
  | k + 1 => by have := cnt_le rep k; simp only [cnt]; split <;> omega
theorem cnt_mono {r s : Nat → Nat} : ∀ (k : Nat), (∀ t, t < k → s t = t → r t = t) → cnt s k ≤ cnt r k
  | 0, _ => Nat.le_refl _
  | k + 1, h => by
    have ih := cnt_mono k (fun t ht => h t (by omega))
    have h1 := h k (by omega)
    simp only [cnt]
    by_cases e : s k = k
    · rw [if_pos e, if_pos (h1 e)]; omega
    · rw [if_neg e]; split <;> omega
theorem cnt_lt {r s : Nat → Nat} : ∀ (k : Nat), (∀ t, t < k → s t = t → r t = t) → (∃ t, t < k ∧ r t = t ∧ s t ≠ t) → cnt s k < cnt r k
  | 0, _, ⟨t, ht, _⟩ => absurd ht (Nat.not_lt_zero _)
  | k + 1, h, ⟨t, ht, h2, h3⟩ => by
    have h1 := h k (by omega)
    simp only [cnt]
    by_cases e : t = k
    · subst e
      have ih := cnt_mono t (fun j hj => h j (by omega))
      rw [if_neg h3, if_pos h2]; omega
    · have ih := cnt_lt k (fun j hj => h j (by omega)) ⟨t, by omega, h2, h3⟩
      by_cases e2 : s k = k
      · rw [if_pos e2, if_pos (h1 e2)]; omega
      · rw [if_neg e2]; split <;> omega
theorem cnt_pos {rep : Nat → Nat} {N : Nat} (h : Rp N rep) (hN : 0 < N) : 0 < cnt rep N := by
  have h0 : rep 0 = 0 := by have := (h 0 hN).1; omega
  have : ∀ k, 0 < k → 0 < cnt rep k := by
    intro k hk
    induction k with
    | zero => omega
    | succ k ih =>
      simp only [cnt]
      by_cases e : k = 0
      · subst e; rw [if_pos h0]; omega
      · have := ih (by omega); omega
  exact this N hN
theorem jn_cnt {N : Nat} {rep : Nat → Nat} (h : Rp N rep) {a b : Nat} (ha : a < N) (hb : b < N) (hne : rep a ≠ rep b) : cnt (jn rep a b) N < cnt rep N := by
  obtain ⟨a1, a2⟩ := h a ha
  obtain ⟨b1, b2⟩ := h b hb
  refine cnt_lt N (fun t ht e => ?_) ?_
  · unfold jn at e
    obtain ⟨t1, t2⟩ := h t ht
    by_cases c : rep a < rep b
    · simp only [if_pos c] at e
      by_cases e2 : rep t = rep b
      · rw [if_pos e2] at e
        rw [← e, a2]
      · rw [if_neg e2] at e; exact e
    · simp only [if_neg c] at e
      by_cases e2 : rep t = rep a
      · rw [if_pos e2] at e
        rw [← e, b2]
      · rw [if_neg e2] at e; exact e
  · by_cases c : rep a < rep b
    · refine ⟨rep b, by omega, b2, ?_⟩
      unfold jn
      simp only [if_pos c]
      rw [b2, if_pos rfl]; omega
    · refine ⟨rep a, by omega, a2, ?_⟩
      unfold jn
      simp only [if_neg c]
      rw [a2, if_pos rfl]; omega
/-- the rules of congruence -/
def Qc (p : Pb) (R : Nat → Nat → Prop) : Prop := ∀ s t, 5 ≤ s → s < t → t < nT p → (tm p s).1 = (tm p t).1 → R (tm p s).2.1 (tm p t).2.1 → ((tm p s).1 = 2 → R (tm p s).2.2 (tm p t).2.2) → R s t
/-- the steps of the exchange -/
def exE (p : Pb) (rep : Nat → Nat) : Ed := fun i j w => (i < nT p ∧ j < nT p ∧ rep i = rep j ∧ w = 0) ∨ ∃ k, k < nL p ∧ (lit p k).1 = 2 ∧ i = (lit p k).2.1 ∧ j = (lit p k).2.2.1 ∧ w = (lit p k).2.2.2
def Neg (p : Pb) (rep : Nat → Nat) : Prop := ∃ i r, i < nT p ∧ pw (exE p rep) i r ∧ pe i r = i ∧ pt r < 0
def Tight (p : Pb) (rep : Nat → Nat) (s t : Nat) : Prop := (∃ r, pw (exE p rep) s r ∧ pe s r = t ∧ pt r ≤ 0) ∧ ∃ r, pw (exE p rep) t r ∧ pe t r = s ∧ pt r ≤ 0
def Qt (p : Pb) (rep : Nat → Nat) (R : Nat → Nat → Prop) : Prop := ∀ s t, s < nT p → t < nT p → Tight p rep s t → R s t
/-- least sums of steps, far ones F -/
def Dist (p : Pb) (rep : Nat → Nat) (F : Int) (M : Mx) : Prop := (∀ i r, i < nT p → pw (exE p rep) i r → pe i r < nT p ∧ M i (pe i r) < F ∧ M i (pe i r) ≤ pt r) ∧ ∀ i j, i < nT p → j < nT p → M i j < F → ∃ r, pw (exE p rep) i r ∧ pe i r = j ∧ pt r = M i j
theorem Dist.uniq {p : Pb} {rep : Nat → Nat} {F G : Int} {M K : Mx} (h : Dist p rep F M) (g : Dist p rep G K) {i j : Nat} (hi : i < nT p) (hj : j < nT p) : (M i j < F ↔ K i j < G) ∧ (M i j < F → M i j = K i j) := by
  have a : M i j < F → K i j < G ∧ K i j ≤ M i j := fun hf => by
    obtain ⟨r, r1, r2, r3⟩ := h.2 i j hi hj hf
    have := g.1 i r hi r1
    rw [r2, r3] at this
    exact this.2
  have b : K i j < G → M i j < F ∧ M i j ≤ K i j := fun hf => by
    obtain ⟨r, r1, r2, r3⟩ := g.2 i j hi hj hf
    have := h.1 i r hi r1
    rw [r2, r3] at this
    exact this.2
  exact ⟨⟨fun h => (a h).1, fun h => (b h).1⟩, fun h => by have := a h; have := b this.1; omega⟩
theorem Dist.noneg {p : Pb} {rep : Nat → Nat} {F : Int} {M : Mx} (h : Dist p rep F M) (hd : ∀ i, i < nT p → 0 ≤ M i i) : ¬ Neg p rep := by
  rintro ⟨i, r, h1, h2, h3, h4⟩
  have := h.1 i r h1 h2
  rw [h3] at this
  have := hd i h1
  omega
theorem Dist.tight {p : Pb} {rep : Nat → Nat} {F : Int} {M : Mx} (F0 : 0 < F) (h : Dist p rep F M) (hd : ∀ i, i < nT p → 0 ≤ M i i) {s t : Nat} (hs : s < nT p) (ht : t < nT p) : Tight p rep s t ↔ M s t = 0 ∧ M t s = 0 := by
  constructor
  · rintro ⟨⟨r, r1, r2, r3⟩, u, u1, u2, u3⟩
    have a := h.1 s r hs r1
    rw [r2] at a
    have b := h.1 t u ht u1
    rw [u2] at b
    -- a way there and back
    obtain ⟨x, x1, x2, x3⟩ := h.2 s t hs ht a.2.1
    obtain ⟨y, y1, y2, y3⟩ := h.2 t s ht hs b.2.1
    have c := h.1 s (x ++ y) hs ((pw_app _ x y s).mpr ⟨x1, by rw [x2]; exact y1⟩)
    rw [pe_app, x2, y2, pt_app, x3, y3] at c
    have := hd s hs
    omega
  · rintro ⟨h1, h2⟩
    obtain ⟨x, x1, x2, x3⟩ := h.2 s t hs ht (by omega)
    obtain ⟨y, y1, y2, y3⟩ := h.2 t s ht hs (by omega)
    exact ⟨⟨x, x1, x2, by omega⟩, y, y1, y2, by omega⟩
/-- the edges depend on the classes alone -/
theorem exE_congr {p : Pb} {r r' : Nat → Nat} (h : ∀ t, t < nT p → r t = r' t) : exE p r = exE p r' := by
  funext i j w
  unfold exE
  apply propext
  constructor
  · rintro (⟨a, b, c, d⟩ | x)
    · exact Or.inl ⟨a, b, by rw [← h i a, ← h j b]; exact c, d⟩
    · exact Or.inr x
  · rintro (⟨a, b, c, d⟩ | x)
    · exact Or.inl ⟨a, b, by rw [h i a, h j b]; exact c, d⟩
    · exact Or.inr x
/-- what the exchange comes to, from some classes on, in so many rounds -/
def ExR (p : Pb) : Nat → (Nat → Nat) → Prop → (Nat → Nat) → Prop
  | 0, _, _, _ => False
  | k + 1, rep0, conf, repf => ∃ rep1, JR (nT p) (Qc p) rep0 rep1 ∧ Qc p (Er rep1) ∧ ((Neg p rep1 ∧ k = 0 ∧ conf ∧ ∀ t, t < nT p → repf t = rep1 t) ∨ (¬ Neg p rep1 ∧ ∃ rep2, JR (nT p) (Qt p rep1) rep1 rep2 ∧ Qt p rep1 (Er rep2) ∧ ((¬ (∃ s t, s < nT p ∧ t < nT p ∧ Tight p rep1 s t ∧ rep1 s ≠ rep1 t) ∧ k = 0 ∧ (conf ↔ ∃ i, i < nL p ∧ (lit p i).1 = 1 ∧ rep2 (lit p i).2.1 = rep2 (lit p i).2.2.1) ∧ ∀ t, t < nT p → repf t = rep2 t) ∨ ((∃ s t, s < nT p ∧ t < nT p ∧ Tight p rep1 s t ∧ rep1 s ≠ rep1 t) ∧ ExR p k rep2 conf repf))))
theorem Tight_congr {p : Pb} {r r' : Nat → Nat} (h : ∀ t, t < nT p → r t = r' t) : Tight p r = Tight p r' := by unfold Tight; rw [exE_congr h]
theorem ExR.uniq {p : Pb} (hwf : PbWf p) : ∀ (k k' : Nat) (r0 r0' : Nat → Nat) (c c' : Prop) (r r' : Nat → Nat), Rp (nT p) r0 → Rp (nT p) r0' → (∀ t, t < nT p → r0 t = r0' t) → ExR p k r0 c r → ExR p k' r0' c' r' → k = k' ∧ (c ↔ c') ∧ ∀ t, t < nT p → r t = r' t
  | 0, _, _, _, _, _, _, _, _, _, _, h, _ => h.elim
  | _ + 1, 0, _, _, _, _, _, _, _, _, _, _, h => h.elim
  | k + 1, k' + 1, r0, r0', c, c', r, r', w0, w0', e0, ⟨r1, a1, a2, a3⟩, ⟨s1, b1, b2, b3⟩ => by
    have e1 : ∀ t, t < nT p → r1 t = s1 t := JR.uniq a1 b1 e0 w0 w0' a2 b2
    have eN : Neg p r1 ↔ Neg p s1 := by unfold Neg; rw [exE_congr e1]
    have eT : Tight p r1 = Tight p s1 := Tight_congr e1
    have eQ : Qt p r1 = Qt p s1 := by unfold Qt; rw [eT]
    rcases a3 with ⟨x1, x2, x3, x4⟩ | ⟨x1, r2, x2, x3, x4⟩
    · rcases b3 with ⟨y1, y2, y3, y4⟩ | ⟨y1, -⟩
      · exact ⟨by omega, ⟨fun _ => y3, fun _ => x3⟩, fun t ht => by rw [x4 t ht, y4 t ht, e1 t ht]⟩
      · exact absurd (eN.mp x1) y1
    · rcases b3 with ⟨y1, -⟩ | ⟨y1, s2, y2, y3, y4⟩
      · exact absurd (eN.mpr y1) x1
      · have e2 : ∀ t, t < nT p → r2 t = s2 t := JR.uniq x2 (by rw [eQ]; exact y2) e1 a1.1 b1.1 x3 (by rw [eQ]; exact y3)
        have eX : (∃ s t, s < nT p ∧ t < nT p ∧ Tight p r1 s t ∧ r1 s ≠ r1 t) ↔ ∃ s t, s < nT p ∧ t < nT p ∧ Tight p s1 s t ∧ s1 s ≠ s1 t := by
          rw [eT]
          constructor
          · rintro ⟨s, t, h1, h2, h3, h4⟩; exact ⟨s, t, h1, h2, h3, by rw [← e1 s h1, ← e1 t h2]; exact h4⟩
          · rintro ⟨s, t, h1, h2, h3, h4⟩; exact ⟨s, t, h1, h2, h3, by rw [e1 s h1, e1 t h2]; exact h4⟩
        rcases x4 with ⟨u1, u2, u3, u4⟩ | ⟨u1, u2⟩
        · rcases y4 with ⟨v1, v2, v3, v4⟩ | ⟨v1, -⟩
          · refine ⟨by omega, ?_, fun t ht => by rw [u4 t ht, v4 t ht, e2 t ht]⟩
            rw [u3, v3]
            constructor
            · rintro ⟨i, h1, h2, h3⟩
              obtain ⟨-, g2, g3, -⟩ := hwf.2.2.2.2.2 i h1
              exact ⟨i, h1, h2, by rw [← e2 _ g2, ← e2 _ g3]; exact h3⟩
            · rintro ⟨i, h1, h2, h3⟩
              obtain ⟨-, g2, g3, -⟩ := hwf.2.2.2.2.2 i h1
              exact ⟨i, h1, h2, by rw [e2 _ g2, e2 _ g3]; exact h3⟩
          · exact absurd (eX.mpr v1) u1
        · rcases y4 with ⟨v1, -⟩ | ⟨v1, v2⟩
          · exact absurd (eX.mp u1) v1
          · obtain ⟨z1, z2, z3⟩ := ExR.uniq hwf k k' r2 s2 c c' r r' x2.1 y2.1 e2 u2 v2
            exact ⟨by omega, z2, z3⟩
