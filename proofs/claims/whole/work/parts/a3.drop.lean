/-! drop -/
def sh (k j : Nat) : Nat := if j < k then j else j + 1
def drG (G : Gl) (k : Nat) : Gl := fun j => G (sh k j)
theorem sh_lt {k j L : Nat} (hk : k < L) (hj : j < L - 1) : sh k j < L := by unfold sh; split <;> omega
theorem drG_ok {G : Gl} {k L : Nat} (hk : k < L) (h : GOk G L) : GOk (drG G k) (L - 1) := fun j hj => h (sh k j) (sh_lt hk hj)
theorem drG_n {G : Gl} {k L : Nat} (hk : k < L) (h : NOk G L) : NOk (drG G k) (L - 1) := fun j hj => h (sh k j) (sh_lt hk hj)
theorem remove_c {n L k : Nat} {S : St} (hn : 30 ≤ n) (hL : L ≤ 10) (hk : k < L) (hS : S.1 16 4 = nI L) : ∃ T, f_X3_removeAt n S (nI k) = some ((), T) ∧ T.1 16 4 = nI (L - 1) ∧ (∀ c, 17 ≤ c → c ≤ 20 → ∀ j, j < L - 1 → T.1 c j = S.1 c (sh k j)) ∧ (∀ c, ¬ (16 ≤ c ∧ c ≤ 20) → T.1 c = S.1 c) ∧ T.2 = S.2 := by
  unfold f_X3_removeAt
  rw [bo_some (has3 hS hL hk), if_neg (by decide)]
  simp only [bd]
  refine for_up (α := Unit × St) (f_X3_removeAt_11 n) (fun _ _ => none) (L - 1) (fun i T => k ≤ i ∧ T.1 16 4 = nI L ∧ (∀ c, 17 ≤ c → c ≤ 20 → (∀ j, k ≤ j → j < i → T.1 c j = S.1 c (j + 1)) ∧ ∀ j, (j < k ∨ i ≤ j) → T.1 c j = S.1 c j) ∧ (∀ c, ¬ (16 ≤ c ∧ c ≤ 20) → T.1 c = S.1 c) ∧ T.2 = S.2) (fun o => ∃ T, o = some ((), T) ∧ T.1 16 4 = nI (L - 1) ∧ (∀ c, 17 ≤ c → c ≤ 20 → ∀ j, j < L - 1 → T.1 c j = S.1 c (sh k j)) ∧ (∀ c, ¬ (16 ≤ c ∧ c ≤ 20) → T.1 c = S.1 c) ∧ T.2 = S.2) ?_ ?_ n k S (by omega) (by omega) ⟨Nat.le_refl _, hS, fun c _ _ => ⟨fun j h1 h2 => by omega, fun _ _ => rfl⟩, fun _ _ => rfl, rfl⟩
  · rintro i T k11 hi ⟨q0, q1, q2, q3, q4⟩
    right
    unfold f_X3_removeAt_11
    simp only [bd, nI_1, if_neg (nI_g (show i < 10 by omega) (by omega)), if_neg (nI_g (show i + 1 < 10 by omega) (by omega)), nI_c (show i < 2 ^ 31 by omega), nI_c (show i + 1 < 2 ^ 31 by omega)]
    rw [q1, if_neg (by rw [nI_leI (by omega) (by omega)]; omega), if_neg (by rw [show (10 : Int32) = nI 10 from rfl, nI_leI (by omega) (by omega)]; omega)]
    refine ⟨_, ?_, rfl⟩
    refine ⟨by omega, ?_, fun c h1 h2 => ⟨fun j h3 h4 => ?_, fun j hj => ?_⟩, fun c hc => ?_, q4⟩
    · rw [← q1]; simp [sI]
    · have hc : c = 17 ∨ c = 18 ∨ c = 19 ∨ c = 20 := by omega
      have old := (q2 c h1 h2).2 (i + 1) (by omega)
      by_cases e : j = i
      · subst e
        rcases hc with rfl | rfl | rfl | rfl <;> (rw [← old]; simp [sI])
      · have := (q2 c h1 h2).1 j h3 (by omega)
        rcases hc with rfl | rfl | rfl | rfl <;> (rw [← this]; simp [sI, e])
    · have hc : c = 17 ∨ c = 18 ∨ c = 19 ∨ c = 20 := by omega
      have e : j ≠ i := by omega
      have := (q2 c h1 h2).2 j (by omega)
      rcases hc with rfl | rfl | rfl | rfl <;> (rw [← this]; simp [sI, e])
    · rw [← q3 c hc]
      have x2 : c ≠ 17 := by omega
      have x3 : c ≠ 18 := by omega
      have x4 : c ≠ 19 := by omega
      have x5 : c ≠ 20 := by omega
      funext j; simp [sI, x2, x3, x4, x5]
  · rintro T k11 ⟨q0, q1, q2, q3, q4⟩
    unfold f_X3_removeAt_11 f_X3_removeAt_91
    have eL : nI (L - 1) + 1 = nI L := by rw [nI_1]; congr 1; omega
    rw [q1, eL, if_pos (by rw [nI_leI (by omega) (by omega)]; omega)]
    simp only [bd]
    have e2 : nI L - 1 = nI (L - 1) := by rw [← nI_pred (L - 1)]; congr 2; omega
    rw [e2]
    refine ⟨_, rfl, by simp [sI], fun c h1 h2 j hj => ?_, fun c hc => ?_, q4⟩
    · have x1 : c ≠ 16 := by omega
      have e : (sI T 16 4 (nI (L - 1))).1 c j = T.1 c j := by simp [sI, x1]
      rw [e]
      unfold sh
      by_cases c1 : j < k
      · rw [if_pos c1]; exact (q2 c h1 h2).2 j (by omega)
      · rw [if_neg c1]; exact (q2 c h1 h2).1 j (by omega) hj
    · have x1 : c ≠ 16 := by omega
      rw [← q3 c hc]; funext j; simp [sI, x1]
theorem copy7_c {n : Nat} {S : St} {F : Tb} (hn : 30 ≤ n) (h : CT S 6 F) : ∃ T, f_X7_copyFrom n 11 S 6 = some ((), T) ∧ CT T 11 F ∧ (∀ c, ¬ (11 ≤ c ∧ c ≤ 15) → T.1 c = S.1 c) ∧ T.2 = S.2 := by
  unfold f_X7_copyFrom
  simp only [bd]
  refine for_up (α := Unit × St) (f_X7_copyFrom_2 n 11 6) (fun _ _ => none) 10 (fun i T => (∀ j, j < i → T.1 12 j = S.1 7 j ∧ T.1 13 j = S.1 8 j ∧ T.1 14 j = S.1 9 j ∧ T.1 15 j = S.1 10 j) ∧ (∀ c, ¬ (11 ≤ c ∧ c ≤ 15) → T.1 c = S.1 c) ∧ T.2 = S.2) (fun o => ∃ T, o = some ((), T) ∧ CT T 11 F ∧ (∀ c, ¬ (11 ≤ c ∧ c ≤ 15) → T.1 c = S.1 c) ∧ T.2 = S.2) ?_ ?_ n 0 S (by omega) (by omega) ⟨fun j hj => by omega, fun _ _ => rfl, rfl⟩
  · rintro i T k hi ⟨q1, q2, q3⟩
    right
    unfold f_X7_copyFrom_2
    simp only [bd, nI_1, if_neg (nI_g (show i < 10 by omega) (by omega)), nI_c (show i < 2 ^ 31 by omega)]
    rw [if_neg (by rw [show (10 : Int32) = nI 10 from rfl, nI_leI (by omega) (by omega)]; omega)]
    refine ⟨_, ?_, rfl⟩
    refine ⟨fun j hj => ?_, fun c hc => ?_, q3⟩
    · have a7 := congrFun (q2 7 (by omega)) j
      have a8 := congrFun (q2 8 (by omega)) j
      have a9 := congrFun (q2 9 (by omega)) j
      have a10 := congrFun (q2 10 (by omega)) j
      by_cases e : j = i
      · subst e
        refine ⟨?_, ?_, ?_, ?_⟩
        · rw [← a7]; simp [sI]
        · rw [← a8]; simp [sI]
        · rw [← a9]; simp [sI]
        · rw [← a10]; simp [sI]
      · obtain ⟨b1, b2, b3, b4⟩ := q1 j (by omega)
        refine ⟨?_, ?_, ?_, ?_⟩
        · rw [← b1]; simp [sI, e]
        · rw [← b2]; simp [sI, e]
        · rw [← b3]; simp [sI, e]
        · rw [← b4]; simp [sI, e]
    · rw [← q2 c hc]
      have x2 : c ≠ 12 := by omega
      have x3 : c ≠ 13 := by omega
      have x4 : c ≠ 14 := by omega
      have x5 : c ≠ 15 := by omega
      funext j; simp [sI, x2, x3, x4, x5]
  · rintro T k ⟨q1, q2, q3⟩
    unfold f_X7_copyFrom_2
    rw [if_pos (by decide)]
    simp only [bd]
    rw [q2 6 (by omega)]
    refine ⟨_, rfl, ?_, fun c hc => ?_, q3⟩
    · obtain ⟨a, b, c, d, e, f⟩ := h
      have v : ∀ c j, c ≠ 11 → (sI T 11 4 (S.1 6 4)).1 c j = T.1 c j := fun c j hc => by simp [sI, hc]
      refine ⟨a, b, by rw [← c]; simp [sI], fun t ht => ?_, fun t h5 ht => ?_, fun t ht => ?_⟩
      · rw [v 12 t (by omega), (q1 t (by omega)).1]; exact d t ht
      · have lt := (a.2.2.1 t h5 ht).lt (by omega)
        rw [v (11 + 2) t (by omega), v (11 + 3) t (by omega), v (11 + 4) t (by omega), v (11 + 4) _ (by omega), v (11 + 4) _ (by omega), (q1 t (by omega)).2.1, (q1 t (by omega)).2.2.1, (q1 t (by omega)).2.2.2, (q1 _ (show (F.2 t).2.1 < 10 by omega)).2.2.2, (q1 _ (show (F.2 t).2.2 < 10 by omega)).2.2.2]
        exact e t h5 ht
      · rw [v (11 + 2) t (by omega), v (11 + 3) t (by omega), v (11 + 4) t (by omega), (q1 t (by omega)).2.1, (q1 t (by omega)).2.2.1, (q1 t (by omega)).2.2.2]
        exact f t ht
    · have x1 : c ≠ 11 := by omega
      rw [← q2 c hc]; funext j; simp [sI, x1]
theorem Emb0 {F : Tb} (hF : TbWf F) : Emb F tb0 id := ⟨fun i hi => by have := hF.1; have : i < 5 := hi; show i < F.1; omega, fun i j _ _ h => h, fun _ _ => rfl, fun i h5 hi => by have : i < 5 := hi; omega⟩
theorem anewAll_c {n L' : Nat} {S : St} {F : Tb} {G' : Gl} {lo ro : Nat → Nat} (hn : 30 ≤ n) (hL : L' ≤ 10) (hF : CT S 6 F) (he : Ext tb0 F) (hS : S.1 16 4 = nI L') (ho : ∀ j, j < L' → S.1 18 j = nI (lo j) ∧ S.1 19 j = nI (ro j) ∧ lo j < F.1 ∧ ro j < F.1 ∧ (G' j).2.1 = U F (lo j) ∧ (G' j).2.2.1 = U F (ro j)) :
    ∃ T, f_X8_numberTermsAnew n S = some ((), T) ∧ CT T 6 (tbl G' L') ∧ (∀ j, j < L' → T.1 18 j = nI (lft G' j) ∧ T.1 19 j = nI (rgt G' j)) ∧ (∀ c, ¬ ((6 ≤ c ∧ c ≤ 15) ∨ c = 18 ∨ c = 19) → T.1 c = S.1 c ∧ T.2 c = S.2 c) := by
  have hFw := hF.1
  have hF10 := hF.2.1
  have hF5 := hFw.1
  unfold f_X8_numberTermsAnew
  obtain ⟨T1, a1, a2, a3, a4⟩ := copy7_c (n := n) hn hF
  rw [bo_some a1]
  have s6 : T1.1 6 4 = nI F.1 := by rw [a3 6 (by omega)]; exact hF.2.2.1
  have esh : ∃ T2, f_X7_shrinkTo n 6 T1 (5 : Int32) = some ((), T2) ∧ T2.1 6 4 = nI 5 ∧ (∀ c, c ≠ 6 → T2.1 c = T1.1 c) ∧ T2.2 = T1.2 := by
    unfold f_X7_shrinkTo
    rw [if_neg (by decide), s6]
    by_cases c : F.1 ≤ 5
    · rw [if_pos (by rw [show (5 : Int32) = nI 5 from rfl, nI_leI (by omega) (by omega)]; exact c)]
      exact ⟨T1, rfl, by rw [s6]; congr 1; omega, fun _ _ => rfl, rfl⟩
    · rw [if_neg (by rw [show (5 : Int32) = nI 5 from rfl, nI_leI (by omega) (by omega)]; exact c)]
      simp only [bd]
      exact ⟨_, rfl, by simp [sI]; rfl, fun c hc => by funext j; simp [sI, hc], rfl⟩
  obtain ⟨T2, b1, b2, b3, b4⟩ := esh
  rw [bo_some b1]
  simp only [bd]
  have c6 : CT T2 6 tb0 := CT.cut tb0_wf (CT.keep hF (by rw [a3 6 (by omega)]) (a3 7 (by omega)) (a3 8 (by omega)) (a3 9 (by omega)) (a3 10 (by omega)) : CT T1 6 F) he b2 (b3 7 (by omega)) (b3 8 (by omega)) (b3 9 (by omega)) (b3 10 (by omega))
  have c11 : CT T2 11 F := a2.keep (by rw [b3 11 (by omega)]) (b3 12 (by omega)) (b3 13 (by omega)) (b3 14 (by omega)) (b3 15 (by omega))
  refine for_up (α := Unit × St) (f_X8_numberTermsAnew_21 n) (fun _ _ => none) L' (fun i T => CT T 11 F ∧ (∃ φ, Emb F (tbl G' i) φ) ∧ CT T 6 (tbl G' i) ∧ (∀ j, j < i → T.1 18 j = nI (lft G' j) ∧ T.1 19 j = nI (rgt G' j)) ∧ (∀ j, i ≤ j → T.1 18 j = S.1 18 j ∧ T.1 19 j = S.1 19 j) ∧ (∀ c, ¬ ((6 ≤ c ∧ c ≤ 15) ∨ c = 18 ∨ c = 19) → T.1 c = S.1 c ∧ T.2 c = S.2 c)) (fun o => ∃ T, o = some ((), T) ∧ CT T 6 (tbl G' L') ∧ (∀ j, j < L' → T.1 18 j = nI (lft G' j) ∧ T.1 19 j = nI (rgt G' j)) ∧ (∀ c, ¬ ((6 ≤ c ∧ c ≤ 15) ∨ c = 18 ∨ c = 19) → T.1 c = S.1 c ∧ T.2 c = S.2 c)) ?_ ?_ n 0 T2 (by omega) (by omega) ⟨c11, ⟨id, Emb0 hFw⟩, c6, fun j hj => by omega, fun j _ => by rw [b3 18 (by omega), b3 19 (by omega), a3 18 (by omega), a3 19 (by omega)]; exact ⟨rfl, rfl⟩, fun c hc => ⟨by rw [b3 c (by omega), a3 c (by omega)], by rw [b4, a4]⟩⟩
  · rintro i T k21 hi ⟨q1, ⟨φ, q2⟩, q3, q4, q5, q6⟩
    right
    obtain ⟨o1, o2, o3, o4, o5, o6⟩ := ho i hi
    have s16 : T.1 16 4 = nI L' := by rw [(q6 16 (by omega)).1]; exact hS
    unfold f_X8_numberTermsAnew_21 f_X3_size
    simp only [bo]
    rw [s16, if_neg (by rw [nI_leI (by omega) (by omega)]; omega), left3 s16 hL hi, (q5 i (Nat.le_refl _)).1, o1]
    simp only []
    obtain ⟨r1, V, tb1, ψ, d1, d2, d3, d4, d5, d6, d7, d8⟩ := anew_c (n := n) (by omega) hFw hF10 13 (lo i) 0 T (tbl G' i) φ (by omega) (by omega) o3 q1 q3 q2
    have kV := fr_X8_numberAnew n 13 T _ _ _ V d1
    have vV : ∀ c, ¬ (6 ≤ c ∧ c ≤ 10) → V.1 c = T.1 c ∧ V.2 c = T.2 c := fun c hc => kV c (fun q => by unfold wr_X8_numberAnew at q; omega)
    rw [nI_0] at d1
    rw [d1]
    simp only [bd]
    have s16V : V.1 16 4 = nI L' := by rw [(vV 16 (by omega)).1]; exact s16
    rw [right3 s16V hL hi, (vV 19 (by omega)).1, (q5 i (Nat.le_refl _)).2, o2]
    simp only []
    have v11 : CT V 11 F := q1.keep (by rw [(vV 11 (by omega)).1]) (vV 12 (by omega)).1 (vV 13 (by omega)).1 (vV 14 (by omega)).1 (vV 15 (by omega)).1
    obtain ⟨r2, W, tb2, χ, e1, e2, e3, e4, e5, e6, e7, e8⟩ := anew_c (n := n) (by omega) hFw hF10 13 (ro i) 0 V tb1 ψ (by omega) (by omega) o4 v11 d2 d3
    have kW := fr_X8_numberAnew n 13 V _ _ _ W e1
    have vW : ∀ c, ¬ (6 ≤ c ∧ c ≤ 10) → W.1 c = V.1 c ∧ W.2 c = V.2 c := fun c hc => kW c (fun q => by unfold wr_X8_numberAnew at q; omega)
    rw [nI_0] at e1
    rw [e1]
    simp only []
    have s16W : W.1 16 4 = nI L' := by rw [(vW 16 (by omega)).1]; exact s16V
    unfold f_X3_setTerms
    rw [has3 s16W hL hi]
    simp only [bo]
    rw [if_neg (by decide), if_neg (nI_bad (by omega) (by omega)), nI_c (by omega)]
    simp only [bd]
    rw [if_neg (nI_g (show i < 10 by omega) (by omega))]
    simp only []
    rw [nI_1]
    have el : lay1 (tbl G' i) (G' i).2.1 (G' i).2.2.1 = (tb2, r1, r2) := by
      unfold lay1
      rw [o5, o6, d8 []]
      dsimp only
      rw [e8 []]
      rfl
    have et : tbl G' (i + 1) = tb2 := by show (lay1 (tbl G' i) (G' i).2.1 (G' i).2.2.1).1 = tb2; rw [el]
    have e_l : lft G' i = r1 := by unfold lft; rw [el]
    have e_r : rgt G' i = r2 := by unfold rgt; rw [el]
    have fc : ∀ c, c ≠ 18 → c ≠ 19 → (sI (sI W 18 i (nI r1)) 19 i (nI r2)).1 c = W.1 c := fun c h1 h2 => by funext j; simp [sI, h1, h2]
    have w11 : CT W 11 F := v11.keep (by rw [(vW 11 (by omega)).1]) (vW 12 (by omega)).1 (vW 13 (by omega)).1 (vW 14 (by omega)).1 (vW 15 (by omega)).1
    refine ⟨_, ?_, rfl⟩
    refine ⟨w11.keep (by rw [fc 11 (by omega) (by omega)]) (fc 12 (by omega) (by omega)) (fc 13 (by omega) (by omega)) (fc 14 (by omega) (by omega)) (fc 15 (by omega) (by omega)), ⟨χ, by rw [et]; exact e3⟩, by rw [et]; exact e2.keep (by rw [fc 6 (by omega) (by omega)]) (fc 7 (by omega) (by omega)) (fc 8 (by omega) (by omega)) (fc 9 (by omega) (by omega)) (fc 10 (by omega) (by omega)), fun j hj => ?_, fun j hj => ?_, fun c hc => ⟨?_, ?_⟩⟩
    · by_cases e : j = i
      · subst e
        rw [e_l, e_r]
        exact ⟨by simp [sI], by simp [sI]⟩
      · obtain ⟨x, y⟩ := q4 j (by omega)
        rw [← x, ← y, ← (vV 18 (by omega)).1, ← (vV 19 (by omega)).1, ← (vW 18 (by omega)).1, ← (vW 19 (by omega)).1]
        exact ⟨by simp [sI, e], by simp [sI, e]⟩
    · obtain ⟨x, y⟩ := q5 j (by omega)
      have e : j ≠ i := by omega
      rw [← x, ← y, ← (vV 18 (by omega)).1, ← (vV 19 (by omega)).1, ← (vW 18 (by omega)).1, ← (vW 19 (by omega)).1]
      exact ⟨by simp [sI, e], by simp [sI, e]⟩
    · rw [fc c (by omega) (by omega), (vW c (by omega)).1, (vV c (by omega)).1, (q6 c hc).1]
    · show W.2 c = S.2 c
      rw [(vW c (by omega)).2, (vV c (by omega)).2, (q6 c hc).2]
  · rintro T k21 ⟨q1, -, q3, q4, q5, q6⟩
    have s16 : T.1 16 4 = nI L' := by rw [(q6 16 (by omega)).1]; exact hS
    unfold f_X8_numberTermsAnew_21 f_X3_size
    simp only [bo]
    rw [s16, if_pos (by rw [nI_leI (by omega) (by omega)]; omega)]
    exact ⟨T, rfl, q3, q4, q6⟩
def gDrop (g : Gh) (k : Nat) : Gh := ((g.1.1 - 1, drG g.1.2 k), g.2.1, (g.2.2.1, g.2.2.2.1 + 1, g.2.2.2.2))
theorem drop_C {n k : Nat} {S : St} {g : Gh} (hn : 30 ≤ n) (hg : Gd g) (h : CI S g) (hk : k < g.1.1) : ∃ T, f_X8_drop n S (nI k) = some (nI (g.1.1 - 1), T) ∧ CI T (gDrop g k) ∧ (tbl (drG g.1.2 k) (g.1.1 - 1)).1 ≤ 10 := by
  have hL := hg.1.1
  have s16 := h.1.2.1.1
  obtain ⟨T1, a1, a2, a3, a4, a5⟩ := remove_c (n := n) hn hL hk s16
  have hF : CT T1 6 (tbl g.1.2 g.1.1) := h.1.1.keep (by rw [a4 6 (by omega)]) (a4 7 (by omega)) (a4 8 (by omega)) (a4 9 (by omega)) (a4 10 (by omega))
  obtain ⟨T2, b1, b2, b3, b4⟩ := anewAll_c (n := n) (L' := g.1.1 - 1) (G' := drG g.1.2 k) (lo := fun j => lft g.1.2 (sh k j)) (ro := fun j => rgt g.1.2 (sh k j)) hn (by omega) hF (tbl_ext (j := 0) (Nat.zero_le _) hg.1.2.1) a2 (fun j hj => by
    have hs := sh_lt hk hj
    obtain ⟨-, x2, x3, -⟩ := h.1.2.1.2 (sh k j) hs
    obtain ⟨t1, t2, t3, t4⟩ := tbl_lit hs hg.1.2.1
    exact ⟨by rw [a3 18 (by omega) (by omega) j hj]; exact x2, by rw [a3 19 (by omega) (by omega) j hj]; exact x3, t1, t2, t3, t4⟩)
  unfold f_X8_drop
  rw [bo_some (has3 s16 hL hk), if_neg (by decide), bo_some a1, bo_some b1]
  simp only [bd]
  rw [bo_some forg_e]
  generalize hW : sI T2 0 10 (T2.1 0 10 + 1) = W
  have Wc : ∀ c, c ≠ 0 → W.1 c = T2.1 c := fun c hc => by rw [← hW]; funext j; simp [sI, hc]
  have W0 : ∀ j, j ≠ 10 → W.1 0 j = T2.1 0 j := fun j hj => by rw [← hW]; simp [sI, hj]
  have TS : ∀ c, c ≤ 1 → T2.1 c = S.1 c := fun c hc => by rw [(b4 c (by omega)).1, a4 c (by omega)]
  unfold f_X3_size
  simp only [bo]
  have e16 : (forg W).1 16 4 = nI (g.1.1 - 1) := by rw [forg_c (by omega), Wc 16 (by omega), (b4 16 (by omega)).1]; exact a2
  rw [e16]
  refine ⟨_, rfl, CCo.forg ?_, b2.2.1⟩
  refine ⟨b2.keep (by rw [Wc 6 (by omega)]) (Wc 7 (by omega)) (Wc 8 (by omega)) (Wc 9 (by omega)) (Wc 10 (by omega)), ⟨?_, fun j hj => ?_⟩, ⟨?_, fun i hi => ?_⟩, ?_, ?_, ?_⟩
  · rw [Wc 16 (by omega), (b4 16 (by omega)).1]; exact a2
  · have hs := sh_lt hk hj
    obtain ⟨x1, -, -, x4⟩ := h.1.2.1.2 (sh k j) hs
    rw [Wc 17 (by omega), Wc 18 (by omega), Wc 19 (by omega), Wc 20 (by omega), (b4 17 (by omega)).1, (b4 20 (by omega)).1, a3 17 (by omega) (by omega) j hj, a3 20 (by omega) (by omega) j hj]
    exact ⟨x1, (b3 j hj).1, (b3 j hj).2, x4⟩
  · rw [W0 1 (by omega), TS 0 (by omega)]; exact h.1.2.2.1.1
  · rw [Wc 1 (by omega), TS 1 (by omega)]; exact h.1.2.2.1.2 i hi
  · rw [W0 9 (by omega), TS 0 (by omega)]; exact h.1.2.2.2.1
  · show W.1 0 10 = g.2.2.2.1 + 1
    rw [← hW, TS 0 (by omega), h.1.2.2.2.2.1]; simp [sI]
  · rw [W0 11 (by omega), TS 0 (by omega)]; exact h.1.2.2.2.2.2
theorem drop_M {n k : Nat} {S : St} {g : Gh} (hn : 110 ≤ n) (hg : Gd g) (h : MI S g) (hk : k < g.1.1) (h10 : (tbl (drG g.1.2 k) (g.1.1 - 1)).1 ≤ 10) : ∃ T, f_X9_drop n S (nI k) = some (nI (g.1.1 - 1), T) ∧ MI T (gDrop g k) := by
  have hL := hg.1.1
  have s2 := h.2.1.1
  have e2 : nI g.1.1 - 1 = nI (g.1.1 - 1) := by rw [← nI_pred (g.1.1 - 1)]; congr 2; omega
  unfold f_X9_drop f_X9_isLiteral
  rw [s2, wi_in hk (by omega)]
  simp only [bo]
  rw [if_neg (by decide)]
  simp only []
  rw [if_neg (by decide)]
  simp only [bd]
  rw [s2, e2]
  generalize hS1 : sI (sI S 28 2 (nI (g.1.1 - 1))) 28 8 ((sI S 28 2 (nI (g.1.1 - 1))).1 28 8 + 1) = S1
  have Sc : ∀ c, c ≠ 28 → S1.1 c = S.1 c := fun c hc => by rw [← hS1]; funext j; simp [sI, hc]
  have S28 : ∀ j, j ≠ 2 → j ≠ 8 → S1.1 28 j = S.1 28 j := fun j h1 h2 => by rw [← hS1]; simp [sI, h1, h2]
  have S2v : S1.1 28 2 = nI (g.1.1 - 1) := by rw [← hS1]; simp [sI]
  have S8 : S1.1 28 8 = g.2.2.2.1 + 1 := by rw [← hS1, ← h.2.2.2.2.2.1]; simp [sI]
  have ix : ∀ i q, ((40 : Int32) * nI i) + nI q = nI (40 * i + q) := fun i q => ix40
  have ix2 : ∀ i q, (((40 : Int32) * nI i) + (40 : Int32)) + nI q = nI (40 * (i + 1) + q) := fun i q => by
    rw [show (40 : Int32) = nI 40 from rfl, pk_mul, nI_add, nI_add]; congr 1
  refine for_up (α := Int32 × St) (f_X9_drop_33 n) (fun _ _ => none) (g.1.1 - 1) (fun i T => k ≤ i ∧ (∀ c, 31 ≤ c → c ≤ 33 → (∀ j, k ≤ j → j < i → T.1 c j = S.1 c (j + 1)) ∧ ∀ j, (j < k ∨ i ≤ j) → T.1 c j = S.1 c j) ∧ ((∀ j, k ≤ j → j < i → ∀ q, q < 40 → T.1 30 (40 * j + q) = S.1 30 (40 * (j + 1) + q)) ∧ ∀ x, (x < 40 * k ∨ 40 * i ≤ x) → T.1 30 x = S.1 30 x) ∧ (∀ c, ¬ (30 ≤ c ∧ c ≤ 33) → T.1 c = S1.1 c)) (fun o => ∃ T, o = some (nI (g.1.1 - 1), T) ∧ MI T (gDrop g k)) ?_ ?_ n k S1 (by omega) (by omega) ⟨Nat.le_refl _, fun c h1 h2 => ⟨fun j h3 h4 => by omega, fun j _ => by rw [Sc c (by omega)]⟩, ⟨fun j h3 h4 => by omega, fun x _ => by rw [Sc 30 (by omega)]⟩, fun _ _ => rfl⟩
  · rintro i T k33 hi ⟨q0, q1, q2, q3⟩
    right
    unfold f_X9_drop_33
    simp only [bd, nI_1, if_neg (nI_g (show i < 10 by omega) (by omega)), if_neg (nI_g (show i + 1 < 10 by omega) (by omega)), nI_c (show i < 2 ^ 31 by omega), nI_c (show i + 1 < 2 ^ 31 by omega)]
    rw [q3 28 (by omega), S2v, if_neg (by rw [nI_leI (by omega) (by omega)]; omega)]
    generalize hT1 : sI (sI (sI T 32 i (T.1 32 (i + 1))) 33 i ((sI T 32 i (T.1 32 (i + 1))).1 33 (i + 1))) 31 i ((sI (sI T 32 i (T.1 32 (i + 1))) 33 i ((sI T 32 i (T.1 32 (i + 1))).1 33 (i + 1))).1 31 (i + 1)) = T1
    have r1 : ∀ c, 31 ≤ c → c ≤ 33 → (∀ j, k ≤ j → j < i + 1 → T1.1 c j = S.1 c (j + 1)) ∧ ∀ j, (j < k ∨ i + 1 ≤ j) → T1.1 c j = S.1 c j := by
      intro c h1 h2
      have hc : c = 31 ∨ c = 32 ∨ c = 33 := by omega
      have old := (q1 c h1 h2).2 (i + 1) (by omega)
      refine ⟨fun j h3 h4 => ?_, fun j hj => ?_⟩
      · by_cases e : j = i
        · subst e
          rcases hc with rfl | rfl | rfl <;> (rw [← old, ← hT1]; simp [sI])
        · have := (q1 c h1 h2).1 j h3 (by omega)
          rcases hc with rfl | rfl | rfl <;> (rw [← this, ← hT1]; simp [sI, e])
      · have e : j ≠ i := by omega
        have := (q1 c h1 h2).2 j (by omega)
        rcases hc with rfl | rfl | rfl <;> (rw [← this, ← hT1]; simp [sI, e])
    have r2 : ∀ c, ¬ (31 ≤ c ∧ c ≤ 33) → T1.1 c = T.1 c := fun c hc => by
      have x1 : c ≠ 31 := by omega
      have x2 : c ≠ 32 := by omega
      have x3 : c ≠ 33 := by omega
      rw [← hT1]; funext j; simp [sI, x1, x2, x3]
    refine for_up (α := Int32 × St) (f_X9_drop_85 n (nI i) k33) (fun _ _ => none) 40 (fun q V => (∀ c, c ≠ 30 → V.1 c = T1.1 c) ∧ (∀ y, y < q → V.1 30 (40 * i + y) = S.1 30 (40 * (i + 1) + y)) ∧ ∀ x, ¬ (40 * i ≤ x ∧ x < 40 * i + q) → V.1 30 x = T.1 30 x) (fun o => ∃ S', (k ≤ i + 1 ∧ (∀ c, 31 ≤ c → c ≤ 33 → (∀ j, k ≤ j → j < i + 1 → S'.1 c j = S.1 c (j + 1)) ∧ ∀ j, (j < k ∨ i + 1 ≤ j) → S'.1 c j = S.1 c j) ∧ ((∀ j, k ≤ j → j < i + 1 → ∀ q, q < 40 → S'.1 30 (40 * j + q) = S.1 30 (40 * (j + 1) + q)) ∧ ∀ x, (x < 40 * k ∨ 40 * (i + 1) ≤ x) → S'.1 30 x = S.1 30 x) ∧ (∀ c, ¬ (30 ≤ c ∧ c ≤ 33) → S'.1 c = S1.1 c)) ∧ o = k33 S' (nI (i + 1))) ?_ ?_ n 0 T1 (by omega) (by omega) ⟨fun _ _ => rfl, fun y hy => by omega, fun x _ => by rw [r2 30 (by omega)]⟩
    · rintro q V k85 hq ⟨v1, v2, v3⟩
      right
      unfold f_X9_drop_85
      rw [if_neg (by rw [show (40 : Int32) = nI 40 from rfl, nI_leI (by omega) (by omega)]; omega), ix2, ix, if_neg (nI_bad (by omega) (by omega)), if_neg (nI_bad (by omega) (by omega)), nI_c (by omega), nI_c (by omega)]
      simp only [bd]
      rw [nI_1]
      have old : V.1 30 (40 * (i + 1) + q) = S.1 30 (40 * (i + 1) + q) := by rw [v3 _ (by omega)]; exact q2.2 _ (by omega)
      refine ⟨_, ?_, rfl⟩
      refine ⟨fun c hc => ?_, fun y hy => ?_, fun x hx => ?_⟩
      · rw [← v1 c hc]; funext j; simp [sI, hc]
      · by_cases e : y = q
        · subst e; rw [← old]; simp [sI]
        · rw [← v2 y (by omega)]; simp [sI, e]
      · have : x ≠ 40 * i + q := by omega
        rw [← v3 x (by omega)]; simp [sI, this]
    · rintro V k85 ⟨v1, v2, v3⟩
      unfold f_X9_drop_85
      rw [if_pos (by decide)]
      simp only [bd]
      rw [nI_1]
      refine ⟨V, ⟨by omega, fun c h1 h2 => ?_, ⟨fun j h1 h2 q hq => ?_, fun x hx => ?_⟩, fun c hc => ?_⟩, rfl⟩
      · rw [v1 c (by omega)]; exact r1 c h1 h2
      · by_cases e : j = i
        · subst e; exact v2 q hq
        · rw [v3 _ (by omega)]; exact q2.1 j h1 (by omega) q hq
      · rw [v3 _ (by omega)]; exact q2.2 x (by omega)
      · rw [v1 c (by omega), r2 c (by omega)]; exact q3 c hc
  · rintro T k33 ⟨q0, q1, q2, q3⟩
    unfold f_X9_drop_33
    rw [q3 28 (by omega), S2v, if_pos (by rw [nI_leI (by omega) (by omega)]; omega)]
    have val : ∀ c, 31 ≤ c → c ≤ 33 → ∀ j, j < g.1.1 - 1 → T.1 c j = S.1 c (sh k j) := by
      intro c h1 h2 j hj
      unfold sh
      by_cases e : j < k
      · rw [if_pos e]; exact (q1 c h1 h2).2 j (by omega)
      · rw [if_neg e]; exact (q1 c h1 h2).1 j (by omega) hj
    have txt : ∀ j, j < g.1.1 - 1 → Txt T j (drG g.1.2 k j).2.1 (drG g.1.2 k j).2.2.1 := by
      intro j hj
      obtain ⟨pg, len, gg, t1, t2, t3, t4⟩ := h.2.2.1 (sh k j) (sh_lt hk hj)
      refine ⟨pg, len, gg, t1, by rw [val 31 (by omega) (by omega) j hj]; exact t2, fun i hi => ⟨?_, (t3 i hi).2⟩, t4⟩
      rw [← (t3 i hi).1]
      unfold sh
      by_cases e : j < k
      · rw [if_pos e]; exact q2.2 _ (by omega)
      · rw [if_neg e]; exact q2.1 j (by omega) hj i (by omega)
    obtain ⟨V, v1, v2, v3, v4⟩ := layTerms_m (n := n) (S := T) (G := drG g.1.2 k) (L := g.1.1 - 1) (by omega) (by omega) (by rw [q3 28 (by omega)]; exact S2v) h10 txt
    rw [bo_some v1]
    have V28 : ∀ j, j ≠ 18 → V.1 28 j = S1.1 28 j := fun j hj => by rw [v4.2 28 j (by omega) (by omega), q3 28 (by omega)]
    rw [V28 2 (by omega), S2v]
    refine ⟨V, rfl, v2, ⟨by rw [V28 2 (by omega)]; exact S2v, fun j hj => ?_⟩, fun j hj => ?_, ⟨?_, fun i hi => ?_⟩, ?_, ?_, ?_⟩
    · obtain ⟨x1, -, -, x4⟩ := h.2.1.2 (sh k j) (sh_lt hk hj)
      rw [v4.2 32 j (by omega) (by omega), v4.2 33 j (by omega) (by omega), val 32 (by omega) (by omega) j hj, val 33 (by omega) (by omega) j hj]
      exact ⟨x1, (v3 j hj).1, (v3 j hj).2, x4⟩
    · exact (txt j hj).keep (by funext x; exact v4.2 30 x (by omega) (by omega)) (v4.2 31 j (by omega) (by omega))
    · rw [V28 0 (by omega), S28 0 (by omega) (by omega)]; exact h.2.2.2.1.1
    · rw [v4.2 29 i (by omega) (by omega), q3 29 (by omega), Sc 29 (by omega)]; exact h.2.2.2.1.2 i hi
    · rw [V28 7 (by omega), S28 7 (by omega) (by omega)]; exact h.2.2.2.2.1
    · rw [V28 8 (by omega)]; exact S8
    · rw [V28 9 (by omega), S28 9 (by omega) (by omega)]; exact h.2.2.2.2.2.2
theorem op_drop {n : Nat} {S : St} (hn : 110 ≤ n) (hI : Inv S) (a : Int32) : OpOk (fun S => f_X8_drop n S a) (fun S => f_X9_drop n S a) S := by
  obtain ⟨g, hg, hc, hm⟩ := hI
  have hL := hg.1.1
  rcases rng a g.1.1 (by omega) with ⟨k, hk, rfl⟩ | ho
  · obtain ⟨T, a1, a2, a3⟩ := drop_C (n := n) (by omega) hg hc hk
    have hmT : MI T g := hm.kp (fr_X8_drop n S _ _ T a1) (fun c hc h => by unfold wr_X8_drop at h; omega)
    obtain ⟨V, b1, b2⟩ := drop_M (n := n) hn hg hmT hk a3
    exact ⟨_, T, V, a1, b1, gDrop g k, ⟨⟨by show g.1.1 - 1 ≤ 10; omega, drG_ok hk hg.1.2.1, drG_n hk hg.1.2.2.1, a3⟩, hg.2.1, hg.2.2⟩, a2.kp (fr_X9_drop n T _ _ V b1) (fun c hc h => by unfold wr_X9_drop at h; omega), b2⟩
  · refine ⟨-2000000002, S, S, ?_, ?_, g, hg, hc, hm⟩
    · show f_X8_drop n S a = _
      unfold f_X8_drop
      rw [bo_some (has3_out hc.1.2.1.1 ho), if_pos rfl]
    · show f_X9_drop n S a = _
      unfold f_X9_drop f_X9_isLiteral
      rw [hm.2.1.1, wi_out ho (by omega)]
      simp only [bo]
      rw [if_neg (by decide)]
      simp only []
      first | rw [if_pos rfl] | rw [if_pos trivial]
