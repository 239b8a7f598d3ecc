/-! THE REFERENCE'S EXCHANGE: ways -/
def wM (S : St) : Mx := fun i j => (S.2 42 (10 * i + j)).toInt
theorem wM_set {S : St} {i j a b : Nat} {v : Int64} (hj : j < 10) (hb : b < 10) : wM (sL S 42 (10 * i + j) v) a b = if a = i ∧ b = j then v.toInt else wM S a b := by
  unfold wM
  simp only [sL]
  by_cases c : a = i ∧ b = j
  · obtain ⟨rfl, rfl⟩ := c; simp
  · rw [if_neg c, if_neg (by omega)]
def Wy (p : Pb) (rep : Nat → Nat) (B : Int) (M : Mx) : Prop := (∀ i j, i < nT p → j < nT p → M i j < FM → (∃ r, pw (exE p rep) i r ∧ pe i r = j ∧ pt r = M i j) ∧ -B ≤ M i j ∧ M i j ≤ B) ∧ ∀ i j, i < nT p → j < nT p → M i j ≤ FM
def Cv (p : Pb) (rep : Nat → Nat) (M : Mx) : Prop := ∀ a b w, exE p rep a b w → a < nT p → b < nT p → M a b < FM ∧ M a b ≤ w
def Clo (N k : Nat) (M : Mx) : Prop := ∀ x i j, x < k → i < N → j < N → M i x < FM → M x j < FM → M i j < FM ∧ M i j ≤ M i x + M x j
/-- in the midst of a pass: k, and so far as row s, column t -/
def Ps (p : Pb) (rep : Nat → Nat) (B : Int) (M V : Mx) (k s t : Nat) : Prop :=
  (∀ i j, i < nT p → j < nT p → (s < i ∨ (i = s ∧ t ≤ j)) → V i j = M i j) ∧
  (∀ i j, i < nT p → j < nT p → V i j < FM → ∃ r, pw (exE p rep) i r ∧ pe i r = j ∧ pt r = V i j) ∧
  (∀ i j, i < nT p → j < nT p → V i j ≤ M i j ∧ V i j ≤ FM) ∧
  (∀ i j, i < nT p → j < nT p → V i j < FM → -(6 * B) ≤ V i j ∧ V i j ≤ 2 * B ∧ (i = k → -(3 * B) ≤ V i j ∧ V i j ≤ B) ∧ (j = k → -(3 * B) ≤ V i j ∧ V i j ≤ B) ∧ (i = k → j = k → -(2 * B) ≤ V i j)) ∧
  (0 ≤ M k k → ∀ i j, i < nT p → j < nT p → V i j = midM M (adM FM M k k 0) s t i j)
theorem Ps.begin {p : Pb} {rep : Nat → Nat} {B : Int} {M : Mx} {k : Nat} (hB : 0 ≤ B) (h : Wy p rep B M) : Ps p rep B M M k 0 0 :=
  ⟨fun _ _ _ _ _ => rfl, fun i j hi hj hf => (h.1 i j hi hj hf).1, fun i j hi hj => ⟨by omega, h.2 i j hi hj⟩, fun i j hi hj hf => by have := (h.1 i j hi hj hf).2; exact ⟨by omega, by omega, fun _ => by omega, fun _ => by omega, fun _ _ => by omega⟩, fun _ i j _ _ => by unfold midM; rw [if_neg (by omega)]⟩
theorem Ps.row {p : Pb} {rep : Nat → Nat} {B : Int} {M V : Mx} {k s : Nat} (h : Ps p rep B M V k s (nT p)) : Ps p rep B M V k (s + 1) 0 := by
  obtain ⟨h1, h2, h3, h4, h5⟩ := h
  refine ⟨fun i j hi hj hc => h1 i j hi hj (by omega), h2, h3, h4, fun h0 i j hi hj => ?_⟩
  rw [h5 h0 i j hi hj]
  unfold midM
  by_cases c : i < s ∨ (i = s ∧ j < nT p)
  · rw [if_pos c, if_pos (by omega)]
  · rw [if_neg c, if_neg (by omega)]
theorem ad_kr {M : Mx} {k : Nat} (h : 0 ≤ M k k) (j : Nat) : adM FM M k k 0 k j = M k j := by
  unfold adM; split
  · rw [if_neg (by omega)]
  · rfl
theorem ad_kc {M : Mx} {k : Nat} (h : 0 ≤ M k k) (i : Nat) : adM FM M k k 0 i k = M i k := by
  unfold adM; split
  · rw [if_neg (by omega)]
  · rfl
theorem mid_kr {M : Mx} {k s t : Nat} (h : 0 ≤ M k k) (j : Nat) : midM M (adM FM M k k 0) s t k j = M k j := by unfold midM; split; exact ad_kr h j; rfl
theorem mid_kc {M : Mx} {k s t : Nat} (h : 0 ≤ M k k) (i : Nat) : midM M (adM FM M k k 0) s t i k = M i k := by unfold midM; split; exact ad_kc h i; rfl
theorem Ps.step {p : Pb} {rep : Nat → Nat} {B : Int} {M V V2 : Mx} {k s t : Nat} (hB : 0 ≤ B) (hB2 : 12 * B < FM) (hW : Wy p rep B M) (h : Ps p rep B M V k s t) (hk : k < nT p) (hs : s < nT p) (ht : t < nT p) (ho : ∀ i j, i < nT p → j < nT p → ¬ (i = s ∧ j = t) → V2 i j = V i j) (hn : V2 s t = if V s k < FM ∧ V k t < FM then (if V s k + V k t < V s t then V s k + V k t else V s t) else V s t) : Ps p rep B M V2 k s (t + 1) := by
  obtain ⟨h1, h2, h3, h4, h5⟩ := h
  have n1 : V s t = M s t := h1 s t hs ht (Or.inr ⟨rfl, Nat.le_refl _⟩)
  have n2 := h3 s t hs ht
  by_cases hc : (V s k < FM ∧ V k t < FM) ∧ V s k + V k t < V s t
  · rw [if_pos hc.1, if_pos hc.2] at hn
    obtain ⟨⟨c1, c2⟩, c3⟩ := hc
    have b1 := h4 s k hs hk c1
    have b2 := h4 k t hk ht c2
    have lt : V2 s t < FM := by omega
    refine ⟨fun i j hi hj hc => ?_, fun i j hi hj hf => ?_, fun i j hi hj => ?_, fun i j hi hj hf => ?_, fun h0 i j hi hj => ?_⟩
    · rw [ho i j hi hj (by omega)]; exact h1 i j hi hj (by omega)
    · by_cases e : i = s ∧ j = t
      · obtain ⟨rfl, rfl⟩ := e
        obtain ⟨r, r1, r2, r3⟩ := h2 i k hs hk c1
        obtain ⟨u, u1, u2, u3⟩ := h2 k j hk ht c2
        exact ⟨r ++ u, (pw_app _ r u i).mpr ⟨r1, by rw [r2]; exact u1⟩, by rw [pe_app, r2, u2], by rw [pt_app, r3, u3, hn]⟩
      · rw [ho i j hi hj e] at hf ⊢; exact h2 i j hi hj hf
    · by_cases e : i = s ∧ j = t
      · obtain ⟨rfl, rfl⟩ := e
        omega
      · rw [ho i j hi hj e]; exact h3 i j hi hj
    · by_cases e : i = s ∧ j = t
      · obtain ⟨rfl, rfl⟩ := e
        rw [hn]
        by_cases ek : i = k
        · subst ek
          have vk := b1.2.2.2.2 rfl rfl
          have vk2 := b1.2.2.1 rfl
          have vt := b2.2.2.1 rfl
          by_cases et : j = i
          · subst et
            have m1 := (hW.1 j j hs ht (by omega)).2
            have e1 : V j j = M j j := n1
            exact ⟨by omega, by omega, fun _ => by omega, fun _ => by omega, fun _ _ => by omega⟩
          · have m1 := (hW.1 i j hs ht (by omega)).2
            exact ⟨by omega, by omega, fun _ => by omega, fun e => absurd e et, fun _ e => absurd e et⟩
        · by_cases et : j = k
          · subst et
            have vk := b2.2.2.2.2 rfl rfl
            have vk2 := b2.2.2.1 rfl
            have m1 := (hW.1 i j hs ht (by omega)).2
            have vt := b1.2.2.2.1 rfl
            exact ⟨by omega, by omega, fun e => absurd e ek, fun _ => by omega, fun e => absurd e ek⟩
          · have v1 := b1.2.2.2.1 rfl
            have v2 := b2.2.2.1 rfl
            exact ⟨by omega, by omega, fun e => absurd e ek, fun e => absurd e et, fun e => absurd e ek⟩
      · rw [ho i j hi hj e] at hf ⊢; exact h4 i j hi hj hf
    · have q := h5 h0
      by_cases e : i = s ∧ j = t
      · obtain ⟨rfl, rfl⟩ := e
        have x1 : V i k = M i k := by rw [q i k hs hk]; exact mid_kc h0 i
        have x2 : V k j = M k j := by rw [q k j hk ht]; exact mid_kr h0 j
        rw [hn]
        unfold midM
        rw [if_pos (by omega)]
        unfold adM
        rw [if_pos (by omega), if_pos (by omega), x1, x2]; omega
      · rw [ho i j hi hj e, q i j hi hj]
        unfold midM
        by_cases c : i < s ∨ (i = s ∧ j < t)
        · rw [if_pos c, if_pos (by omega)]
        · rw [if_neg c, if_neg (by omega)]
  · have hn2 : V2 s t = V s t := by
      rw [hn]
      by_cases c : V s k < FM ∧ V k t < FM
      · rw [if_pos c, if_neg (fun q => hc ⟨c, q⟩)]
      · rw [if_neg c]
    have al : ∀ i j, i < nT p → j < nT p → V2 i j = V i j := fun i j hi hj => by
      by_cases e : i = s ∧ j = t
      · obtain ⟨rfl, rfl⟩ := e; exact hn2
      · exact ho i j hi hj e
    refine ⟨fun i j hi hj hc => ?_, fun i j hi hj hf => ?_, fun i j hi hj => ?_, fun i j hi hj hf => ?_, fun h0 i j hi hj => ?_⟩
    · rw [al i j hi hj]; exact h1 i j hi hj (by omega)
    · rw [al i j hi hj] at hf ⊢; exact h2 i j hi hj hf
    · rw [al i j hi hj]; exact h3 i j hi hj
    · rw [al i j hi hj] at hf ⊢; exact h4 i j hi hj hf
    · have q := h5 h0
      rw [al i j hi hj]
      by_cases e : i = s ∧ j = t
      · obtain ⟨rfl, rfl⟩ := e
        have x1 : V i k = M i k := by rw [q i k hs hk]; exact mid_kc h0 i
        have x2 : V k j = M k j := by rw [q k j hk ht]; exact mid_kr h0 j
        unfold midM
        rw [if_pos (by omega), n1]
        unfold adM
        by_cases c : M i k < FM ∧ M k j < FM
        · rw [if_pos c, if_neg (fun hq => hc ⟨by rw [x1, x2]; exact c, by omega⟩)]
        · rw [if_neg c]
      · rw [q i j hi hj]
        unfold midM
        by_cases c : i < s ∨ (i = s ∧ j < t)
        · rw [if_pos c, if_pos (by omega)]
        · rw [if_neg c, if_neg (by omega)]
theorem Ps.neg {p : Pb} {rep : Nat → Nat} {B : Int} {M V : Mx} {k s t i : Nat} (h : Ps p rep B M V k s t) (hi : i < nT p) (hn : V i i < 0) : Neg p rep := by
  obtain ⟨r, r1, r2, r3⟩ := h.2.1 i i hi hi (by have : (0 : Int) < FM := by decide
                                                omega)
  exact ⟨i, r, hi, r1, r2, by omega⟩
theorem Ps.finish {p : Pb} {rep : Nat → Nat} {B : Int} {M V : Mx} {k : Nat} (hB : 0 ≤ B) (hB2 : 12 * B < FM) (hk : k < nT p) (h : Ps p rep B M V k (nT p) 0) (hW : Wy p rep B M) (hC : Cv p rep M) (hL : Clo (nT p) k M) (hd : ∀ i, i < nT p → 0 ≤ V i i) : Wy p rep (6 * B) V ∧ Cv p rep V ∧ Clo (nT p) (k + 1) V := by
  obtain ⟨h1, h2, h3, h4, h5⟩ := h
  have h0 : 0 ≤ M k k := by have := hd k hk; have := (h3 k k hk hk).1; omega
  have q : ∀ i j, i < nT p → j < nT p → V i j = adM FM M k k 0 i j := fun i j hi hj => by
    rw [h5 h0 i j hi hj]; unfold midM; rw [if_pos (Or.inl hi)]
  refine ⟨⟨fun i j hi hj hf => ⟨h2 i j hi hj hf, ?_⟩, fun i j hi hj => (h3 i j hi hj).2⟩, fun a b w he ha hb => ?_, ?_⟩
  · have := h4 i j hi hj hf; omega
  · have x := hC a b w he ha hb
    have := (h3 a b ha hb).1
    omega
  · have key : ∀ i j, i < nT p → j < nT p → V i j ≤ M i j ∧ (M i k < FM → M k j < FM → V i j ≤ M i k + M k j) := fun i j hi hj => by
      refine ⟨(h3 i j hi hj).1, fun c1 c2 => ?_⟩
      rw [q i j hi hj]
      unfold adM
      rw [if_pos ⟨c1, c2⟩]
      split <;> omega
    have dec : ∀ i j, i < nT p → j < nT p → V i j < FM → V i j = M i j ∨ (M i k < FM ∧ M k j < FM ∧ V i j = M i k + M k j) := fun i j hi hj hf => by
      rw [q i j hi hj] at hf ⊢
      unfold adM at hf ⊢
      by_cases c : M i k < FM ∧ M k j < FM
      · rw [if_pos c] at hf ⊢
        by_cases c2 : M i k + 0 + M k j < M i j
        · rw [if_pos c2]; exact Or.inr ⟨c.1, c.2, by omega⟩
        · rw [if_neg c2]; exact Or.inl rfl
      · rw [if_neg c]; exact Or.inl rfl
    intro x i j hx hi hj f1 f2
    have hxN : x < nT p := by omega
    suffices hh : V i j ≤ V i x + V x j from ⟨by have a := h4 i x hi hxN f1; have b := h4 x j hxN hj f2; omega, hh⟩
    have K := key i j hi hj
    by_cases ex : x = k
    · subst ex
      have e1 : V i x = M i x := by rw [q i x hi hk]; exact ad_kc h0 i
      have e2 : V x j = M x j := by rw [q x j hk hj]; exact ad_kr h0 j
      have := K.2 (by omega) (by omega)
      omega
    · have hx' : x < k := by omega
      have a := dec i x hi hxN f1
      have b := dec x j hxN hj f2
      rcases a with a | ⟨a1, a2, a3⟩
      · rcases b with b | ⟨b1, b2, b3⟩
        · have := (hL x i j hx' hi hj (by omega) (by omega)).2; omega
        · have g := hL x i k hx' hi hk (by omega) b1
          have := K.2 g.1 b2; omega
      · rcases b with b | ⟨b1, b2, b3⟩
        · have g := hL x k j hx' hk hj a2 (by omega)
          have := K.2 a1 g.1; omega
        · have g := hL x k k hx' hk hk a2 b1
          have := K.2 a1 b2; omega
