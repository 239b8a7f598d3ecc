/-! either: two pairs of names -/
def pcd (j : Nat) : Nat := ([1, 2, 3, 4, 12, 13, 14, 23, 24, 34] : List Nat).getD j 0
def idc (c : Nat) : Nat := if c < 10 then c - 1 else if c < 20 then c - 8 else if c < 30 then c - 16 else 9
theorem pcd_ok : ∀ j, j < 10 → loF j = nI (pcd j / 10) ∧ upF j = nI (pcd j % 10) ∧ pcd j / 10 < pcd j % 10 ∧ pcd j % 10 < 5 ∧ ((10 : Int32) * loF j) + upF j = nI (pcd j) := by decide +kernel
theorem pcd_lt : ∀ i, i < 10 → ∀ j, j < 10 → i < j → pcd i < pcd j := by decide +kernel
theorem idc_ok : ∀ c, c < 50 → c / 10 < c % 10 → c % 10 < 5 → idc c < 10 ∧ pcd (idc c) = c := by decide +kernel
theorem dm_ok : ∀ c, c < 50 → nI c / (10 : Int32) = nI (c / 10) ∧ nI c - nI c / (10 : Int32) * (10 : Int32) = nI (c % 10) := by decide +kernel
theorem isCd.lt {c : Nat} (h : isCd c) : c < 50 := by unfold isCd at h; omega
theorem or_ok : ∀ i, i < 10 → ∀ m, m < 2 ^ i → (nI m ||| ((1 : Int32) <<< (nI i &&& 31))) = nI (m + 2 ^ i) ∧ (m + 2 ^ i) / 2 ^ i % 2 = 1 ∧ ∀ q, q < i → (m + 2 ^ i) / 2 ^ q % 2 = m / 2 ^ q % 2 := by decide +kernel
theorem shr_ok : ∀ q, q < 10 → ∀ m, m < 1024 → ((((nI m >>> (nI q &&& 31)) &&& (1 : Int32)) = (1 : Int32)) ↔ m / 2 ^ q % 2 = 1) := by decide +kernel
theorem names_c {n cc i : Nat} {S : St} {P : (Nat → Int) → Prop} (h : Ld S cc P) (hcc : cc < 22) (hi : i < 10) : ∃ T, f_X4_demandDifferentNames n S (nI i) = some ((), T) ∧ Keeps wS S T ∧ Go S T ∧ Ld T (cc + 1) (fun v => P v ∧ Ev (pcd i) v) := by
  obtain ⟨p1, p2, p3, p4, -⟩ := pcd_ok i hi
  obtain ⟨T, a, b, c⟩ := differ_c (n := n) h hcc (s := pcd i / 10) (t := pcd i % 10) (by omega) (by omega)
  refine ⟨T, ?_, (fq_X6_demandDifferent n S _ _ () T a).mono (fun c h => h), b, c⟩
  unfold f_X4_demandDifferentNames
  rw [if_neg (nI_pos (by omega)), if_neg (by rw [show (10 : Int32) = nI 10 from rfl, nI_leI (by omega) (by omega)]; omega), if_neg (nI_bad (by omega) (by omega)), if_neg (nI_bad (by omega) (by omega)), nI_c (by omega), p1, p2, bo_some a]
/-- what is noted of a pair -/
def TI (P : (Nat → Int) → Prop) (i : Nat) (x : Int32) : Prop := (x = -1 ∧ ¬ ∃ v, P v ∧ Ev (pcd i) v) ∨ ∃ m, m < 1024 ∧ x = nI m ∧ (∃ v, P v ∧ Ev (pcd i) v) ∧ ∀ q, q < 10 → ¬ m / 2 ^ q % 2 = 1 → ∃ v, P v ∧ Ev (pcd i) v ∧ Ev (pcd q) v
theorem pow_mono10 : ∀ i, i < 10 → 2 ^ (i + 1) = 2 ^ i + 2 ^ i ∧ 2 ^ (i + 1) ≤ 1024 := by decide +kernel
theorem small_bit : ∀ i, i < 10 → ∀ m, m < 2 ^ i → m / 2 ^ i % 2 = 0 := by decide +kernel
theorem tied_c {n i : Nat} {S : St} {g : Gh} (hn : 110 ≤ n) (hg : Gd g) (h : CI S g) (m : Int32) (hi : i < 10) : ∃ x T, f_X4_pairsTiedWith n S (nI i) m = some (x, T) ∧ Keeps wS S T ∧ TI (Sol (gP g) m) i x := by
  obtain ⟨T1, cc, a1, a2, a3, a4, a5, a6, a7⟩ := loadC hn hg h m
  obtain ⟨T2, b1, b2, b3, b4⟩ := names_c (n := n) a7 (by omega) hi
  obtain ⟨r, T3, c1, c2, -, -⟩ := ask_c (n := n) (gl := 0) (gr := 0) (by omega) (by omega) (by omega) (b3.1.trans a5) (b3.2.trans a6) b4
  have k3 : Keeps wS S T3 := (a2.trans b2).trans ((fq_X6_hasSolution n T2 r T3 c1).mono (fun c h => h))
  unfold f_X4_pairsTiedWith
  rw [bo_some a1, bo_some b1, bo_some c1]
  rcases c2 with ⟨e, hno⟩ | ⟨e, ⟨E, e1, -, e3⟩, -⟩
  · rw [if_pos e]
    exact ⟨-1, T3, rfl, k3, Or.inl ⟨rfl, fun ⟨v, hv⟩ => hno v hv⟩⟩
  · rw [if_neg (by rw [e]; decide)]
    simp only [bd]
    refine for_up2' (α := Int32 × St) (β := Int32) (f_X4_pairsTiedWith_30 n) (fun _ _ _ => none) 10 (fun q T a => T = T3 ∧ ∃ k, k < 2 ^ q ∧ a = nI k ∧ ∀ x, x < q → ¬ k / 2 ^ x % 2 = 1 → ∃ v, Sat E v ∧ Ev (pcd x) v) (fun o => ∃ x T, o = some (x, T) ∧ Keeps wS S T ∧ TI (Sol (gP g) m) i x) ?_ ?_ n 0 T3 0 (by omega) (by omega) ⟨rfl, 0, by decide, rfl, fun x hx => by omega⟩
    · rintro q T a k hq ⟨rfl, w, w1, rfl, w2⟩
      right
      obtain ⟨p1, p2, p3, p4, -⟩ := pcd_ok q hq
      obtain ⟨q1, q2⟩ := pow_mono10 q hq
      unfold f_X4_pairsTiedWith_30 f_X4_pairsTiedWith_66 f_X6_foundEqual
      rw [if_neg (by rw [show (10 : Int32) = nI 10 from rfl, nI_leI (by omega) (by omega)]; omega), if_neg (nI_bad (by omega) (by omega)), if_neg (nI_bad (by omega) (by omega)), nI_c (by omega), p1, p2]
      obtain ⟨r, d1, d2⟩ := areEqual_c (n := n) (q := 95) (S := T) (s := pcd q / 10) (t := pcd q % 10) (by omega) (by omega)
      rw [d1]
      simp only [bo, bd]
      rw [if_neg (by rcases d2 with ⟨z, -⟩ | ⟨z, -⟩ <;> rw [z] <;> decide)]
      simp only []
      rw [nI_1]
      rcases d2 with ⟨z, z2, z3⟩ | ⟨z, z2⟩
      · rw [if_neg (by rw [z]; decide)]
        obtain ⟨o1, o2, o3⟩ := or_ok q hq w w1
        rw [o1]
        refine ⟨T, _, ⟨rfl, w + 2 ^ q, by omega, rfl, fun x hx hb => ?_⟩, rfl⟩
        by_cases e : x = q
        · subst e; exact absurd o2 hb
        · rw [o3 x (by omega)] at hb; exact w2 x (by omega) hb
      · rw [if_pos z]
        refine ⟨T, _, ⟨rfl, w, by omega, rfl, fun x hx hb => ?_⟩, rfl⟩
        by_cases e : x = q
        · subst e
          obtain ⟨m1, m2⟩ := mat_sup e1.1 (by decide) (s := pcd x / 10) (t := pcd x % 10) (by omega) (by omega)
          obtain ⟨n1, n2⟩ := mat_sup e1.1 (by decide) (s := pcd x % 10) (t := pcd x / 10) (by omega) (by omega)
          unfold Ev
          by_cases y1 : cM T 95 (pcd x / 10) (pcd x % 10) = 0
          · have y2 : ¬ cM T 95 (pcd x % 10) (pcd x / 10) = 0 := fun q => z2 ⟨y1, q⟩
            by_cases y3 : cM T 95 (pcd x % 10) (pcd x / 10) < FC
            · obtain ⟨v, v1, v2⟩ := n1 y3
              exact ⟨v, v1, by omega⟩
            · obtain ⟨v, v1, v2⟩ := n2 y3 1
              exact ⟨v, v1, by omega⟩
          · by_cases y3 : cM T 95 (pcd x / 10) (pcd x % 10) < FC
            · obtain ⟨v, v1, v2⟩ := m1 y3
              exact ⟨v, v1, by omega⟩
            · obtain ⟨v, v1, v2⟩ := m2 y3 1
              exact ⟨v, v1, by omega⟩
        · exact w2 x (by omega) hb
    · rintro T a k ⟨rfl, w, w1, rfl, w2⟩
      unfold f_X4_pairsTiedWith_30
      rw [if_pos (by decide)]
      obtain ⟨v0, hv0⟩ := e1.some
      refine ⟨_, T, rfl, k3, Or.inr ⟨w, w1, rfl, ⟨v0, e3 v0 hv0⟩, fun q hq hb => ?_⟩⟩
      obtain ⟨v, v1, v2⟩ := w2 q hq hb
      exact ⟨v, (e3 v v1).1, (e3 v v1).2, v2⟩
theorem areTied_c {n i j : Nat} {S : St} {P : (Nat → Int) → Prop} (hi : i < 10) (hj : j < 10) (h1 : TI P i (S.1 27 i)) (h2 : TI P j (S.1 27 j)) : ∃ r, f_X4_areTied n S (nI i) (nI j) = some (r, S) ∧ ((r = 1 ∧ (∃ v, P v ∧ Ev (pcd i) v) ∧ ∃ v, P v ∧ Ev (pcd j) v) ∨ (r = 0 ∧ ¬ E2 P (pcd i) (pcd j))) := by
  unfold f_X4_areTied
  simp only [if_neg (nI_g hi (by omega)), if_neg (nI_g hj (by omega)), nI_c (show i < 2 ^ 31 by omega), nI_c (show j < 2 ^ 31 by omega)]
  rcases h1 with ⟨a, b⟩ | ⟨m, a1, a2, a3, a4⟩
  · rw [if_pos a]
    exact ⟨0, rfl, Or.inr ⟨rfl, fun h => b h.1⟩⟩
  · rw [if_neg (by rw [a2]; exact nm1 (by omega))]
    rcases h2 with ⟨a, b⟩ | ⟨k, b1, b2, b3, b4⟩
    · rw [if_pos a]
      exact ⟨0, rfl, Or.inr ⟨rfl, fun h => b h.2.1⟩⟩
    · rw [if_neg (by rw [b2]; exact nm1 (by omega)), a2, b2]
      by_cases c1 : m / 2 ^ j % 2 = 1
      · rw [if_pos ((shr_ok j hj m a1).mpr c1)]
        by_cases c2 : k / 2 ^ i % 2 = 1
        · rw [if_pos ((shr_ok i hi k b1).mpr c2)]
          exact ⟨1, rfl, Or.inl ⟨rfl, a3, b3⟩⟩
        · rw [if_neg (fun h => c2 ((shr_ok i hi k b1).mp h))]
          obtain ⟨v, v1, v2, v3⟩ := b4 i hi c2
          exact ⟨0, rfl, Or.inr ⟨rfl, fun h => h.2.2 ⟨v, v1, v3, v2⟩⟩⟩
      · rw [if_neg (fun h => c1 ((shr_ok j hj m a1).mp h))]
        exact ⟨0, rfl, Or.inr ⟨rfl, fun h => h.2.2 (a4 j hj c1)⟩⟩
theorem one_c {n i j : Nat} {S : St} {g : Gh} (hn : 110 ≤ n) (hg : Gd g) (h : CI S g) (m : Int32) (hi : i < 10) (hj : j < 10) : ∃ r T, f_X4_oneIsEqual n S (nI i) (nI j) m = some (r, T) ∧ Keeps wS S T ∧ ((r = 1 ∧ ¬ ∃ v, Sol (gP g) m v ∧ Ev (pcd i) v ∧ Ev (pcd j) v) ∨ (r = 0 ∧ ∃ v, Sol (gP g) m v ∧ Ev (pcd i) v ∧ Ev (pcd j) v)) := by
  obtain ⟨T1, cc, a1, a2, a3, a4, a5, a6, a7⟩ := loadC hn hg h m
  obtain ⟨T2, b1, b2, b3, b4⟩ := names_c (n := n) a7 (by omega) hi
  obtain ⟨T3, c1, c2, c3, c4⟩ := names_c (n := n) b4 (by omega) hj
  obtain ⟨r, T4, d1, d2⟩ := ask1 (n := n) (gl := 0) (gr := 0) (by omega) (by omega) (by omega) ((c3.1.trans b3.1).trans a5) ((c3.2.trans b3.2).trans a6) c4
  have k : Keeps wS S T4 := ((a2.trans b2).trans c2).trans ((fq_X6_hasSolution n T3 r T4 d1).mono (fun c h => h))
  unfold f_X4_oneIsEqual
  rw [bo_some a1, bo_some b1, bo_some c1, bo_some d1]
  rcases d2 with ⟨e, f⟩ | ⟨e, v, f⟩
  · rw [if_pos e]
    exact ⟨1, T4, rfl, k, Or.inl ⟨rfl, fun ⟨v, v1, v2, v3⟩ => f ⟨v, ⟨v1, v2⟩, v3⟩⟩⟩
  · rw [if_neg (by rw [e]; decide)]
    exact ⟨0, T4, rfl, k, Or.inr ⟨rfl, v, f.1.1, f.1.2, f.2⟩⟩
theorem ansOf_c {n i : Nat} {S : St} (hi : i < 10) : f_X4_asAnswerOf n S (nI i) = some (nI (pcd i), S) := by
  unfold f_X4_asAnswerOf
  rw [if_neg (nI_pos (by omega)), if_neg (by rw [show (10 : Int32) = nI 10 from rfl, nI_leI (by omega) (by omega)]; omega), if_neg (nI_bad (by omega) (by omega)), if_neg (nI_bad (by omega) (by omega)), nI_c (by omega), (pcd_ok i hi).2.2.2.2]
theorem CI.k26 {S T : St} {g : Gh} {w : Nat → Prop} (h : CI S g) (h15 : S.1 0 15 = 0) (k : Keeps w S T) (hw : ∀ c, c ≤ 22 ∨ c = 121 → ¬ w c) : CI T g ∧ T.1 0 15 = 0 := by
  have e : ∀ c, c ≤ 22 → T.1 c = S.1 c := fun c hc => (k c (hw c (by omega))).1
  have e0 := e 0 (by omega)
  obtain ⟨a, b, c, -⟩ := h
  have h15' : T.1 0 15 = 0 := by rw [e0]; exact h15
  refine ⟨⟨a.keep (fun c hc => e c (by omega)) (fun j _ => by rw [e0]), ?_, ?_, Or.inl h15'⟩, h15'⟩
  · rw [e0]; exact b.imp id (fun h => h.keep (e 21 (by omega)) (e 22 (by omega)) (k 121 (hw 121 (by omega))).2)
  · unfold SoC at *; rw [e0]; exact c
/-- what has been found, ahead of the pairs i, q -/
def Rs (P : (Nat → Int) → Prop) (i q : Nat) (T : St) : Prop := (T.1 26 2 = -2000000001 ∧ T.1 26 3 = -2000000001 ∧ ∀ a b, a < b → b < 10 → (a < i ∨ (a = i ∧ b < q)) → ¬ E2 P (pcd a) (pcd b)) ∨ ∃ a b, a < b ∧ b < 10 ∧ E2 P (pcd a) (pcd b) ∧ (∀ x y, x < y → y < 10 → E2 P (pcd x) (pcd y) → a < x ∨ (a = x ∧ b ≤ y)) ∧ T.1 26 2 = nI (pcd a) ∧ T.1 26 3 = nI (pcd b)
theorem pcd_50 : ∀ i, i < 10 → pcd i < 50 := by decide +kernel
theorem Rs.ei {P : (Nat → Int) → Prop} {i q : Nat} {T : St} (h : Rs P i q T) (hi : 10 ≤ i ∨ ¬ T.1 26 2 = -2000000001) : EiA P (T.1 26 2) (T.1 26 3) := by
  have cnv : ∀ c d, isCd c → isCd d → c < d → ∃ x y, x < y ∧ y < 10 ∧ pcd x = c ∧ pcd y = d := by
    intro c d hc hd hl
    obtain ⟨a1, a2⟩ := idc_ok c hc.lt hc.1 hc.2
    obtain ⟨b1, b2⟩ := idc_ok d hd.lt hd.1 hd.2
    refine ⟨idc c, idc d, ?_, b1, a2, b2⟩
    by_cases e : idc c < idc d
    · exact e
    · by_cases e2 : idc c = idc d
      · rw [e2] at a2; omega
      · have := pcd_lt _ b1 _ a1 (by omega)
        omega
  rcases h with ⟨a, b, c⟩ | ⟨x, y, h1, h2, h3, h4, h5, h6⟩
  · have h10 : 10 ≤ i := hi.resolve_right (fun q => q a)
    refine Or.inl ⟨a, b, fun c' d' hc hd hl he => ?_⟩
    obtain ⟨x, y, h1, h2, rfl, rfl⟩ := cnv c' d' hc hd hl
    exact c x y h1 h2 (by omega) he
  · have p1 := pcd_ok x (by omega)
    have p2 := pcd_ok y h2
    refine Or.inr ⟨pcd x, pcd y, ⟨p1.2.2.1, p1.2.2.2.1⟩, ⟨p2.2.2.1, p2.2.2.2.1⟩, pcd_lt x (by omega) y h2 h1, h3, fun c' d' hc hd hl he => ?_, h5, h6⟩
    obtain ⟨x', y', g1, g2, rfl, rfl⟩ := cnv c' d' hc hd hl
    rcases h4 x' y' g1 g2 he with h | ⟨h, h'⟩
    · exact Or.inl (pcd_lt x (by omega) x' (by omega) h)
    · refine Or.inr ⟨by rw [h], ?_⟩
      by_cases e : y = y'
      · rw [e]; exact Nat.le_refl _
      · exact Nat.le_of_lt (pcd_lt y h2 y' g2 (by omega))
theorem Rs.keep {P : (Nat → Int) → Prop} {i q : Nat} {S T : St} (h : Rs P i q S) (e : T.1 26 = S.1 26) : Rs P i q T := by unfold Rs at *; rw [e]; exact h
def wF : Nat → Prop := fun c => (50 ≤ c ∧ c < 121) ∨ c = 23 ∨ c = 26 ∨ c = 27
theorem wF_ci (c : Nat) (h : c ≤ 22 ∨ c = 121) : ¬ wF c := fun q => by unfold wF at q; omega
theorem wS_F {S T : St} (k : Keeps wS S T) : Keeps wF S T := k.mono (fun c h => by unfold wS at h; unfold wF; omega)
/-- what the finding keeps -/
def FI (g : Gh) (m : Int32) (T : St) : Prop := CI T g ∧ T.1 0 15 = 0 ∧ ∀ j, j < 10 → TI (Sol (gP g) m) j (T.1 27 j)
theorem FI.go {g : Gh} {m : Int32} {S T : St} (h : FI g m S) (k : Keeps wF S T) (e : T.1 27 = S.1 27) : FI g m T := by
  obtain ⟨a, b, c⟩ := h
  obtain ⟨a', b'⟩ := a.k26 b k wF_ci
  exact ⟨a', b', fun j hj => by rw [e]; exact c j hj⟩
theorem find_c {n : Nat} {S : St} {g : Gh} (hn : 110 ≤ n) (hg : Gd g) (h : CI S g) (h15 : S.1 0 15 = 0) (m : Int32) : ∃ T, f_X4_find n S m = some ((), T) ∧ CI T g ∧ T.1 0 15 = 0 ∧ EiA (Sol (gP g) m) (T.1 26 2) (T.1 26 3) := by
  unfold f_X4_find
  simp only [bd]
  generalize hS1 : sI (sI S 26 2 (-2000000001)) 26 3 (-2000000001) = S1
  have k1 : Keeps wF S S1 := by
    intro c hc
    have hc' : c ≠ 26 := by unfold wF at hc; omega
    rw [← hS1]
    exact ⟨by funext j; simp [sI, hc'], rfl⟩
  obtain ⟨i1, i2⟩ := h.k26 h15 k1 wF_ci
  have i3 : S1.1 26 2 = -2000000001 ∧ S1.1 26 3 = -2000000001 := by rw [← hS1]; simp [sI]
  refine for_up (α := Unit × St) (f_X4_find_14 n m) (fun _ _ => none) 10 (fun i T => CI T g ∧ T.1 0 15 = 0 ∧ (T.1 26 2 = -2000000001 ∧ T.1 26 3 = -2000000001) ∧ ∀ j, j < i → TI (Sol (gP g) m) j (T.1 27 j)) (fun o => ∃ T, o = some ((), T) ∧ CI T g ∧ T.1 0 15 = 0 ∧ EiA (Sol (gP g) m) (T.1 26 2) (T.1 26 3)) ?_ ?_ n 0 S1 (by omega) (by omega) ⟨i1, i2, i3, fun j hj => by omega⟩
  · rintro i T k hi ⟨q1, q2, q3, q4⟩
    right
    obtain ⟨x, V, a1, a2, a3⟩ := tied_c (n := n) hn hg q1 m hi
    unfold f_X4_find_14
    rw [if_neg (by rw [show (10 : Int32) = nI 10 from rfl, nI_leI (by omega) (by omega)]; omega), bo_some a1, if_neg (nI_bad hi (by omega)), nI_c (by omega)]
    simp only [bd]
    rw [nI_1]
    have kV : Keeps wF V (sI V 27 i x) := by
      intro c hc
      have hc' : c ≠ 27 := by unfold wF at hc; omega
      exact ⟨by funext j; simp [sI, hc'], rfl⟩
    obtain ⟨b1, b2⟩ := q1.k26 q2 ((wS_F a2).trans kV) wF_ci
    have e26 : ∀ j, (sI V 27 i x).1 26 j = T.1 26 j := fun j => by rw [← (a2 26 (by unfold wS; omega)).1]; simp [sI]
    refine ⟨_, ?_, rfl⟩
    refine ⟨b1, b2, by rw [e26, e26]; exact q3, fun j hj => ?_⟩
    by_cases e : j = i
    · subst e
      have : (sI V 27 j x).1 27 j = x := by simp [sI]
      rw [this]; exact a3
    · have : (sI V 27 i x).1 27 j = T.1 27 j := by rw [← (a2 27 (by unfold wS; omega)).1]; simp [sI, e]
      rw [this]; exact q4 j (by omega)
  · rintro T k ⟨q1, q2, q3, q4⟩
    unfold f_X4_find_14
    rw [if_pos (by decide)]
    simp only [bd]
    refine for_up (α := Unit × St) (f_X4_find_40 n m) (fun _ _ => none) 10 (fun i T => FI g m T ∧ Rs (Sol (gP g) m) i (i + 1) T) (fun o => ∃ T, o = some ((), T) ∧ CI T g ∧ T.1 0 15 = 0 ∧ EiA (Sol (gP g) m) (T.1 26 2) (T.1 26 3)) ?_ ?_ n 0 T (by omega) (by omega) ⟨⟨q1, q2, q4⟩, Or.inl ⟨q3.1, q3.2, fun a b h1 h2 h3 => by omega⟩⟩
    · rintro i U k40 hi ⟨f1, f2⟩
      unfold f_X4_find_40
      rw [if_neg (by rw [show (10 : Int32) = nI 10 from rfl, nI_leI (by omega) (by omega)]; omega)]
      by_cases c26 : U.1 26 2 = -2000000001
      · rw [if_pos c26]
        simp only [bd]
        rw [nI_1]
        right
        have nxt : ∀ V : St, FI g m V → Rs (Sol (gP g) m) i 10 V ∨ (Rs (Sol (gP g) m) i 10 V ∨ (∃ q, Rs (Sol (gP g) m) i q V) ∧ ¬ V.1 26 2 = -2000000001) → ∃ S', (FI g m S' ∧ Rs (Sol (gP g) m) (i + 1) (i + 1 + 1) S') ∧ f_X4_find_115 n m k40 V (nI i) = k40 S' (nI (i + 1)) := by
          intro V hV hR
          unfold f_X4_find_115
          simp only [bd]
          rw [nI_1]
          have up : Rs (Sol (gP g) m) i 10 V → Rs (Sol (gP g) m) (i + 1) (i + 1 + 1) V := by
            rintro (⟨a, b, c⟩ | h)
            · exact Or.inl ⟨a, b, fun x y h1 h2 h3 => c x y h1 h2 (by omega)⟩
            · exact Or.inr h
          refine ⟨V, ⟨hV, ?_⟩, rfl⟩
          rcases hR with h | h | ⟨⟨q, h⟩, h'⟩
          · exact up h
          · exact up h
          · rcases h with ⟨a, -⟩ | h
            · exact absurd a h'
            · exact Or.inr h
        refine for_up (α := Unit × St) (f_X4_find_59 n m (nI i) k40) (fun _ _ => none) 10 (fun q V => i < q ∧ FI g m V ∧ Rs (Sol (gP g) m) i q V) (fun o => ∃ S', (FI g m S' ∧ Rs (Sol (gP g) m) (i + 1) (i + 1 + 1) S') ∧ o = k40 S' (nI (i + 1))) ?_ ?_ n (i + 1) U (by omega) (by omega) ⟨by omega, f1, f2⟩
        · rintro q V k59 hq ⟨hiq, g1, g2⟩
          unfold f_X4_find_59
          rw [if_neg (by rw [show (10 : Int32) = nI 10 from rfl, nI_leI (by omega) (by omega)]; omega)]
          by_cases d26 : V.1 26 2 = -2000000001
          · rw [if_pos d26]
            right
            have go : ∀ W : St, FI g m W → Rs (Sol (gP g) m) i (q + 1) W → ∃ S', (i < q + 1 ∧ FI g m S' ∧ Rs (Sol (gP g) m) i (q + 1) S') ∧ f_X4_find_109 n m (nI i) k40 k59 W (nI q) = k59 S' (nI (q + 1)) := fun W h1 h2 => ⟨W, ⟨by omega, h1, h2⟩, by unfold f_X4_find_109; simp only [bd]; rw [nI_1]⟩
            have one : ¬ E2 (Sol (gP g) m) (pcd i) (pcd q) → Rs (Sol (gP g) m) i (q + 1) V := by
              intro hne
              rcases g2 with ⟨a, b, c⟩ | h
              · refine Or.inl ⟨a, b, fun x y h1 h2 h3 => ?_⟩
                by_cases e : x = i ∧ y = q
                · rw [e.1, e.2]; exact hne
                · exact c x y h1 h2 (by omega)
              · exact Or.inr h
            obtain ⟨r, r1, r2⟩ := areTied_c (n := n) (S := V) hi hq (g1.2.2 i hi) (g1.2.2 q hq)
            rw [bo_some r1]
            rcases r2 with ⟨z, z1, z2⟩ | ⟨z, z1⟩
            · rw [if_neg (by rw [z]; decide)]
              obtain ⟨y, W, w1, w2, w3⟩ := one_c (n := n) hn hg g1.1 m hi hq
              have g1W : FI g m W := g1.go (wS_F w2) (w2 27 (by unfold wS; omega)).1
              have e26 : W.1 26 = V.1 26 := (w2 26 (by unfold wS; omega)).1
              rw [bo_some w1]
              rcases w3 with ⟨y0, y1⟩ | ⟨y0, v, v1, v2, v3⟩
              · rw [if_neg (by rw [y0]; decide), bo_some (ansOf_c hi)]
                simp only [bd]
                rw [bo_some (ansOf_c hq)]
                have kW : Keeps wF W (sI (sI W 26 2 (nI (pcd i))) 26 3 (nI (pcd q))) := by
                  intro c hc
                  have hc' : c ≠ 26 := by unfold wF at hc; omega
                  exact ⟨by funext j; simp [sI, hc'], rfl⟩
                refine go _ (g1W.go kW (by funext j; simp [sI])) (Or.inr ⟨i, q, hiq, hq, ⟨z1, z2, y1⟩, fun x y h1 h2 h3 => ?_, by simp [sI], by simp [sI]⟩)
                rcases g2 with ⟨-, -, c⟩ | ⟨a, b, hab, hb, -, -, h5, -⟩
                · have hh : ¬ (x < i ∨ (x = i ∧ y < q)) := fun hh => c x y h1 h2 hh h3
                  omega
                · rw [d26] at h5
                  exact absurd h5.symm (nI_none (by have := pcd_50 a (by omega); omega))
              · rw [if_pos y0]
                exact go W g1W ((one (fun h => h.2.2 ⟨v, v1, v2, v3⟩)).keep e26)
            · rw [if_pos z]
              exact go V g1 (one z1)
          · rw [if_neg d26]
            left
            exact nxt V g1 (Or.inr (Or.inr ⟨⟨q, g2⟩, d26⟩))
        · rintro V k59 ⟨-, g1, g2⟩
          unfold f_X4_find_59
          rw [if_pos (by decide)]
          exact nxt V g1 (Or.inl g2)
      · rw [if_neg c26]
        left
        exact ⟨U, rfl, f1.1, f1.2.1, f2.ei (Or.inr c26)⟩
    · rintro U k40 ⟨f1, f2⟩
      unfold f_X4_find_40
      rw [if_pos (by decide)]
      exact ⟨U, rfl, f1.1, f1.2.1, f2.ei (Or.inl (Nat.le_refl _))⟩
