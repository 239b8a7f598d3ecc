/-! THE REFERENCE: a side of a split, on the next level -/
theorem MOKm.no {N : Nat} {E : Ed} {S : St} {l s t : Nat} {w : Int} (h : MOKm W0 N E S l) (hs : s < N) (ht : t < N) (h1 : mM S l t s < FM) (h2 : mM S l t s + w < 0) {v : Nat → Int} (hv : Sat E v) : ¬ v s - v t ≤ w := by
  have := h.1.sat hv ht hs h1
  omega
/-- what a side leaves alone -/
def SideF (l : Nat) (S T : St) : Prop := T.1 = S.1 ∧ (∀ c, c ≠ 43 → T.2 c = S.2 c) ∧ Lv (l + 1) S T
theorem side_m {n l : Nat} {S : St} {p : Pb} {E : Ed} {c : Cl} (hn : 110 ≤ n) (hl : l + 1 < 64) (hp : MRep S p) (hS : Spl p S l c) (hE : MOKm W0 (nT p) E S l) {o : Nat} (ho : o < 5) :
    ∃ r T, f_X9_takesSide n S (nI l) (nI o) = some (r, T) ∧ SideF l S T ∧ ((r = 0 ∧ ∀ v, Sat E v → ¬ clWay c o v) ∨ (r = 1 ∧ MOKm W0 (nT p) (clAdd E c o) T (l + 1) ∧ (c.2.2 = none → o < 4) ∧ ∀ a b, a < nT p → b < nT p → mM T (l + 1) a b ≤ mM S l a b)) := by
  have W0v : W0 = 2000000000 := rfl
  have m1 : (-1 : Int64).toInt = -1 := by decide
  obtain ⟨hwf, hsz, hkd, hfs, -⟩ := id hp
  have hT10 : nT p ≤ 10 := hwf.2.1
  unfold f_X9_takesSide
  rw [if_neg (nI_bad (by omega) (by omega)), nI_c (by omega)]
  simp only [bd]
  rw [if_neg (fun h => h.elim (nI_pos (by omega)) (by omega))]
  refine for_up (α := Int32 × St) (f_X9_takesSide_18 n (nI l) (nI o) (S.1 46 l) (S.1 47 l)) (fun _ _ => none) 100 (fun i T => SideF l S T ∧ ∀ k, k < i → T.2 43 (100 * (l + 1) + k) = S.2 43 (100 * l + k)) (fun x => ∃ r T, x = some (r, T) ∧ SideF l S T ∧ ((r = 0 ∧ ∀ v, Sat E v → ¬ clWay c o v) ∨ (r = 1 ∧ MOKm W0 (nT p) (clAdd E c o) T (l + 1) ∧ (c.2.2 = none → o < 4) ∧ ∀ a b, a < nT p → b < nT p → mM T (l + 1) a b ≤ mM S l a b))) ?_ ?_ n 0 S (by omega) (by omega) ⟨⟨rfl, fun _ _ => rfl, Lv.rf⟩, fun k hk => absurd hk (Nat.not_lt_zero _)⟩
  · rintro i T k hi ⟨⟨g1, g2, g3⟩, g4⟩
    right
    unfold f_X9_takesSide_18
    rw [if_neg (by rw [show (100 : Int32) = nI 100 from rfl, nI_leI (by omega) (by omega)]; omega), ix100, nI_add, show nI (100 * l) + (100 : Int32) = nI (100 * l + 100) from by rw [show (100 : Int32) = nI 100 from rfl, nI_add], nI_add, if_neg (nI_bad (i := 100 * l + i) (by omega) (by omega)), if_neg (nI_bad (i := 100 * l + 100 + i) (by omega) (by omega)), nI_c (i := 100 * l + i) (by omega), nI_c (i := 100 * l + 100 + i) (by omega)]
    simp only [bd]
    rw [nI_1]
    refine ⟨sL T 43 (100 * l + 100 + i) (T.2 43 (100 * l + i)), ⟨⟨g1, fun c hc => ?_, fun k hk => ?_⟩, fun k hk => ?_⟩, rfl⟩
    · rw [← g2 c hc]; funext b; simp [sL, hc]
    · rw [← g3 k hk]
      have : ¬ k = 100 * l + 100 + i := by omega
      simp [sL, this]
    · by_cases e : k = i
      · subst e
        rw [← g3 (100 * l + k) (by omega)]
        simp only [sL, show (100 * (l + 1) + k) = 100 * l + 100 + k by omega]
        simp
      · rw [← g4 k (by omega)]
        have : ¬ (100 * (l + 1) + k) = 100 * l + 100 + i := by omega
        simp [sL, this]
  · rintro T k ⟨gS, g4⟩
    obtain ⟨g1, g2, g3⟩ := id gS
    have hT : T.1 28 18 = nI (nT p) := by rw [g1]; exact hsz
    have eM : ∀ a b, a < nT p → b < nT p → mM T (l + 1) a b = mM S l a b := fun a b ha hb => by
      unfold mM
      rw [show 100 * (l + 1) + 10 * a + b = 100 * (l + 1) + (10 * a + b) by omega, g4 (10 * a + b) (by omega), show 100 * l + (10 * a + b) = 100 * l + 10 * a + b by omega]
    have hE1 : MOKm W0 (nT p) E T (l + 1) := ⟨hE.1.congr eM, fun i j hi hj => by rw [eM i j hi hj]; exact hE.2.1 i j hi hj, hE.2.2⟩
    have l1 : nI l + 1 = nI (l + 1) := nI_1 l
    -- one bound by -1
    have one : ∀ (s t : Nat) (G : Ed), s < nT p → t < nT p → (∀ v, clWay c o v ↔ v s - v t ≤ -1) → clAdd E c o = adE E s t (-1) → (c.2.2 = none → o < 4) → ∃ r T', f_X9_bound n T (nI (l + 1)) (nI s) (nI t) (-1 : Int64) = some (r, T') ∧ (r = 0 ∨ r = 1) ∧ SideF l S T' ∧ ((r = 0 ∧ ∀ v, Sat E v → ¬ clWay c o v) ∨ (r = 1 ∧ MOKm W0 (nT p) (clAdd E c o) T' (l + 1) ∧ (c.2.2 = none → o < 4) ∧ ∀ a b, a < nT p → b < nT p → mM T' (l + 1) a b ≤ mM S l a b)) := by
      intro s t _ hs ht hw he h4
      obtain ⟨r, T', a1, a2, a3, a4, a5⟩ := bound_m (n := n) (by omega) hT10 hl hT hE1 hs ht (w := (-1 : Int64)) (by rw [m1]; omega)
      refine ⟨r, T', a1, ?_, ⟨a2.trans g1, fun c hc => (a4 c hc).trans (g2 c hc), g3.trans a3⟩, ?_⟩
      · rcases a5 with ⟨h, -⟩ | ⟨h, -⟩
        · exact Or.inl h
        · exact Or.inr h
      · rcases a5 with ⟨rfl, rfl, b1, b2⟩ | ⟨rfl, b1, b2⟩
        · left
          refine ⟨rfl, fun v hv hc => ?_⟩
          rw [m1] at b2
          exact hE1.no hs ht b1 b2 hv ((hw v).mp hc)
        · right
          rw [m1] at b1 b2
          rw [he]
          refine ⟨rfl, b1, h4, fun a b ha hb => ?_⟩
          rw [b2 a b ha hb, ← eM a b ha hb]
          exact adM_le _ _ _ _ _ _ _
    have none0 : (∀ v, ¬ clWay c o v) → ∃ r T', (some ((0 : Int32), T) : Option (Int32 × St)) = some (r, T') ∧ SideF l S T' ∧ ((r = 0 ∧ ∀ v, Sat E v → ¬ clWay c o v) ∨ (r = 1 ∧ MOKm W0 (nT p) (clAdd E c o) T' (l + 1) ∧ (c.2.2 = none → o < 4) ∧ ∀ a b, a < nT p → b < nT p → mM T' (l + 1) a b ≤ mM S l a b)) := fun h => ⟨0, T, rfl, gS, Or.inl ⟨rfl, fun v _ => h v⟩⟩
    unfold f_X9_takesSide_18
    rw [if_pos (by decide), if_neg (nI_bad (by omega) (by omega)), nI_c (by omega), g1, l1]
    rcases hS with ⟨s0, e, rfl, e1, e2, s1, s2⟩ | ⟨s0, e, rfl, x1, x2, x3, x4, s1, s2⟩
    · -- an inequality
      rw [s0, if_pos rfl, s1, s2]
      match o, ho with
      | 0, _ =>
        rw [if_pos (by decide)]
        obtain ⟨r, T', a1, a2, a3, a4⟩ := one e.1 e.2 E e1 e2 (fun v => Iff.rfl) rfl (fun _ => by omega)
        rw [bo_some a1, if_neg (by rcases a2 with h | h <;> rw [h] <;> decide)]
        exact ⟨r, T', rfl, a3, a4⟩
      | 1, _ =>
        rw [if_neg (by decide), if_pos (by decide)]
        obtain ⟨r, T', a1, a2, a3, a4⟩ := one e.2 e.1 E e2 e1 (fun v => Iff.rfl) rfl (fun _ => by omega)
        rw [bo_some a1]
        rcases a2 with rfl | rfl
        · rw [if_pos rfl]; exact ⟨0, T', rfl, a3, a4⟩
        · rw [if_neg (by decide)]; exact ⟨1, T', rfl, a3, a4⟩
      | 2, _ =>
        rw [if_neg (by decide), if_neg (by decide)]
        exact none0 (fun v h => by have h : v 0 - v 0 ≤ -1 := h; omega)
      | 3, _ =>
        rw [if_neg (by decide), if_neg (by decide)]
        exact none0 (fun v h => by have h : v 0 - v 0 ≤ -1 := h; omega)
      | 4, _ =>
        rw [if_neg (by decide), if_neg (by decide)]
        exact none0 (fun v h => by obtain ⟨q, hq, -⟩ := h; cases hq)
    · -- two terms with one function
      have wa := hwf.2.2.2.2.1 e.1 (by omega) x3
      have wb := hwf.2.2.2.2.1 e.2 x1 (by omega)
      obtain ⟨fa1, fa2⟩ := hfs e.1 (by omega) x3
      obtain ⟨fb1, fb2⟩ := hfs e.2 x1 (by omega)
      rw [s0, if_neg (by decide), s1, s2]
      have first : ∀ (o' : Nat), o' = o → o' < 2 → ∃ r T', f_X9_takesSide_147 n T (nI l) (nI o') (nI e.1) (nI e.2) = some (r, T') ∧ SideF l S T' ∧ ((r = 0 ∧ ∀ v, Sat E v → ¬ clWay (conC p e) o v) ∨ (r = 1 ∧ MOKm W0 (nT p) (clAdd E (conC p e) o) T' (l + 1) ∧ ((conC p e).2.2 = none → o < 4) ∧ ∀ a b, a < nT p → b < nT p → mM T' (l + 1) a b ≤ mM S l a b)) := by
        intro o' he ho'
        unfold f_X9_takesSide_147 f_X9_takesSide_167 f_X9_takesSide_191
        rw [if_neg (by rw [show (2 : Int32) = nI 2 from rfl, nI_leI (by omega) (by omega)]; omega), if_neg (nI_bad (i := e.1) (by omega) (by omega)), nI_c (i := e.1) (by omega)]
        simp only [bd]
        rw [if_neg (by rw [show (2 : Int32) = nI 2 from rfl, nI_leI (by omega) (by omega)]; omega), if_neg (nI_bad (i := e.2) (by omega) (by omega)), nI_c (i := e.2) (by omega), g1, fa1, fb1, l1]
        match o', ho', he with
        | 0, _, he =>
          subst he
          rw [if_pos (by decide)]
          obtain ⟨r, T', a1, a2, a3, a4⟩ := one (tm p e.1).2.1 (tm p e.2).2.1 E (by omega) (by omega) (fun v => Iff.rfl) rfl (fun _ => by omega)
          rw [bo_some a1, if_neg (by rcases a2 with h | h <;> rw [h] <;> decide)]
          exact ⟨r, T', rfl, a3, a4⟩
        | 1, _, he =>
          subst he
          rw [if_neg (by decide)]
          obtain ⟨r, T', a1, a2, a3, a4⟩ := one (tm p e.2).2.1 (tm p e.1).2.1 E (by omega) (by omega) (fun v => Iff.rfl) rfl (fun _ => by omega)
          rw [bo_some a1, if_neg (by rcases a2 with h | h <;> rw [h] <;> decide)]
          exact ⟨r, T', rfl, a3, a4⟩
      have second : (tm p e.1).1 = 2 → ∀ (o' : Nat), o' = o → 2 ≤ o' → o' < 4 → ∃ r T', f_X9_takesSide_147 n T (nI l) (nI o') (nI e.1) (nI e.2) = some (r, T') ∧ SideF l S T' ∧ ((r = 0 ∧ ∀ v, Sat E v → ¬ clWay (conC p e) o v) ∨ (r = 1 ∧ MOKm W0 (nT p) (clAdd E (conC p e) o) T' (l + 1) ∧ ((conC p e).2.2 = none → o < 4) ∧ ∀ a b, a < nT p → b < nT p → mM T' (l + 1) a b ≤ mM S l a b)) := by
        intro k2 o' he ho2 ho'
        have k2b : (tm p e.2).1 = 2 := by omega
        have e21 : (conC p e).2.1 = ((tm p e.1).2.2, (tm p e.2).2.2) := by unfold conC; simp only [if_pos k2]
        unfold f_X9_takesSide_147 f_X9_takesSide_167 f_X9_takesSide_191
        rw [if_pos (by rw [show (2 : Int32) = nI 2 from rfl, nI_leI (by omega) (by omega)]; omega), if_neg (nI_bad (i := e.1) (by omega) (by omega)), nI_c (i := e.1) (by omega)]
        simp only [bd]
        rw [if_pos (by rw [show (2 : Int32) = nI 2 from rfl, nI_leI (by omega) (by omega)]; omega), if_neg (nI_bad (i := e.2) (by omega) (by omega)), nI_c (i := e.2) (by omega), g1, fa2, fb2, if_pos k2, if_pos k2b, l1]
        match o', ho2, ho', he with
        | 2, _, _, he =>
          subst he
          rw [if_pos (by decide)]
          obtain ⟨r, T', a1, a2, a3, a4⟩ := one (tm p e.1).2.2 (tm p e.2).2.2 E (by omega) (by omega) (fun v => by show v (conC p e).2.1.1 - v (conC p e).2.1.2 ≤ -1 ↔ _; rw [e21]) (by show adE E (conC p e).2.1.1 (conC p e).2.1.2 (-1) = _; rw [e21]) (fun _ => by omega)
          rw [bo_some a1, if_neg (by rcases a2 with h | h <;> rw [h] <;> decide)]
          exact ⟨r, T', rfl, a3, a4⟩
        | 3, _, _, he =>
          subst he
          rw [if_neg (by decide)]
          obtain ⟨r, T', a1, a2, a3, a4⟩ := one (tm p e.2).2.2 (tm p e.1).2.2 E (by omega) (by omega) (fun v => by show v (conC p e).2.1.2 - v (conC p e).2.1.1 ≤ -1 ↔ _; rw [e21]) (by show adE E (conC p e).2.1.2 (conC p e).2.1.1 (-1) = _; rw [e21]) (fun _ => by omega)
          rw [bo_some a1, if_neg (by rcases a2 with h | h <;> rw [h] <;> decide)]
          exact ⟨r, T', rfl, a3, a4⟩
      have one1 : (tm p e.1).1 ≠ 2 → (conC p e).2.1 = (0, 0) := fun k2 => by unfold conC; simp only [if_neg k2]
      match o, ho with
      | 0, _ =>
        rw [if_neg (by decide), if_pos (by decide)]
        exact first 0 rfl (by omega)
      | 1, _ =>
        rw [if_neg (by decide), if_pos (by decide)]
        exact first 1 rfl (by omega)
      | 2, _ =>
        rw [if_neg (by decide), if_neg (by decide), if_neg (nI_bad (i := e.1) (by omega) (by omega)), nI_c (i := e.1) (by omega), hkd e.1 x3]
        by_cases k1 : (tm p e.1).1 = 1
        · rw [k1, if_pos (by decide)]
          exact none0 (fun v h => by have h : v (conC p e).2.1.1 - v (conC p e).2.1.2 ≤ -1 := h; rw [one1 (by omega)] at h; dsimp only at h; omega)
        · rw [if_neg (by rw [show (1 : Int32) = nI 1 from rfl, nI_eq (by omega) (by omega)]; exact k1)]
          exact second (by omega) 2 rfl (by omega) (by omega)
      | 3, _ =>
        rw [if_neg (by decide), if_neg (by decide), if_neg (nI_bad (i := e.1) (by omega) (by omega)), nI_c (i := e.1) (by omega), hkd e.1 x3]
        by_cases k1 : (tm p e.1).1 = 1
        · rw [k1, if_pos (by decide)]
          exact none0 (fun v h => by have h : v (conC p e).2.1.2 - v (conC p e).2.1.1 ≤ -1 := h; rw [one1 (by omega)] at h; dsimp only at h; omega)
        · rw [if_neg (by rw [show (1 : Int32) = nI 1 from rfl, nI_eq (by omega) (by omega)]; exact k1)]
          exact second (by omega) 3 rfl (by omega) (by omega)
      | 4, _ =>
        rw [if_pos (by decide)]
        have way4 : ∀ v, clWay (conC p e) 4 v ↔ v e.1 - v e.2 ≤ 0 ∧ v e.2 - v e.1 ≤ 0 := fun v => by
          constructor
          · rintro ⟨q, hq, h1, h2⟩; cases hq; exact ⟨h1, h2⟩
          · rintro ⟨h1, h2⟩; exact ⟨e, rfl, h1, h2⟩
        unfold f_X9_boundBoth
        obtain ⟨r, T1, a1, a2, a3, a4, a5⟩ := bound_m (n := n) (by omega) hT10 hl hT hE1 x3 (show e.2 < nT p by omega) (w := (0 : Int64)) (by rw [z64]; omega)
        rw [bo_some a1]
        rcases a5 with ⟨rfl, rfl, b1, b2⟩ | ⟨rfl, b1, b2⟩
        · rw [if_pos rfl]
          simp only [bo]
          rw [if_neg (by decide)]
          refine ⟨0, T1, rfl, gS, Or.inl ⟨rfl, fun v hv hc => ?_⟩⟩
          rw [z64] at b2
          exact hE1.no x3 (by omega) b1 b2 hv ((way4 v).mp hc).1
        · rw [if_neg (by decide)]
          rw [z64] at b1 b2
          obtain ⟨r, T2, c1, c2, c3, c4, c5⟩ := bound_m (n := n) (by omega) hT10 hl (by rw [a2]; exact hT) b1 (show e.2 < nT p by omega) x3 (w := (0 : Int64)) (by rw [z64]; omega)
          rw [bo_some c1]
          have fT2 : SideF l S T2 := ⟨c2.trans (a2.trans g1), fun c hc => (c4 c hc).trans ((a4 c hc).trans (g2 c hc)), (g3.trans a3).trans c3⟩
          rcases c5 with ⟨rfl, rfl, d1, d2⟩ | ⟨rfl, d1, d2⟩
          · rw [if_pos rfl]
            simp only [bo]
            rw [if_neg (by decide)]
            refine ⟨0, T2, rfl, fT2, Or.inl ⟨rfl, fun v hv hc => ?_⟩⟩
            rw [z64] at d2
            have hw := (way4 v).mp hc
            exact b1.no (by omega) x3 d1 d2 (sat_ad.mpr ⟨hv, hw.1⟩) hw.2
          · rw [if_neg (by decide)]
            simp only [bo]
            rw [if_neg (by decide)]
            rw [z64] at d1 d2
            refine ⟨1, T2, rfl, fT2, Or.inr ⟨rfl, d1, (fun h => by cases h), fun a b ha hb => ?_⟩⟩
            rw [d2 a b ha hb, ← eM a b ha hb]
            have u1 := adM_le FM (mM T1 (l + 1)) e.2 e.1 0 a b
            have u2 := adM_le FM (mM T (l + 1)) e.1 e.2 0 a b
            rw [← b2 a b ha hb] at u2
            omega
