/-! add: the reference, and both -/
theorem add_M {n : Nat} {S : St} {g : Gh} {z : Gs} (hn : 110 ≤ n) (hg : Gd g) (h : MI S g) (hL : g.1.1 < 10) (hz : grun g.2.1.2 g.2.1.1 = some z) (hw : gwh z) (hmg : MG S z) (h17 : S.1 28 17 = nI (gse g.2.1.2 g.2.1.1)) :
    ∃ r T, fixF (fun _ _ => none) (f_X9_add_35 n) n S (0 : Int32) = some (r, T) ∧ ((r = -2000000005 ∧ 10 < (lay1 (tbl g.1.2 g.1.1) z.2.1.1 z.2.1.2).1.1 ∧ MI T g) ∨ (r = nI g.1.1 ∧ (lay1 (tbl g.1.2 g.1.1) z.2.1.1 z.2.1.2).1.1 ≤ 10 ∧ MI T (gAdd g z))) := by
  have hP := hg.2.1.1
  obtain ⟨s1, s2, kd2, ng1, nm6, z2, e1, e2, e3, e4, e5, e6⟩ := gwh.ok hz hw hP
  have h10 := hg.1.2.2.2
  have ix : ∀ i, ((40 : Int32) * nI g.1.1) + nI i = nI (40 * g.1.1 + i) := fun i => ix40
  refine for_up (α := Int32 × St) (f_X9_add_35 n) (fun _ _ => none) (gse g.2.1.2 g.2.1.1) (fun i T => (∀ c, c ≠ 30 → T.1 c = S.1 c) ∧ T.2 = S.2 ∧ (∀ j, j < 40 * g.1.1 → T.1 30 j = S.1 30 j) ∧ ∀ j, j < i → T.1 30 (40 * g.1.1 + j) = nI (g.2.1.2 j)) (fun o => ∃ r T, o = some (r, T) ∧ ((r = -2000000005 ∧ 10 < (lay1 (tbl g.1.2 g.1.1) z.2.1.1 z.2.1.2).1.1 ∧ MI T g) ∨ (r = nI g.1.1 ∧ (lay1 (tbl g.1.2 g.1.1) z.2.1.1 z.2.1.2).1.1 ≤ 10 ∧ MI T (gAdd g z)))) ?_ ?_ n 0 S (by omega) (by omega) ⟨fun _ _ => rfl, rfl, fun _ _ => rfl, fun j hj => by omega⟩
  · rintro i T k hi ⟨q1, q2, q3, q4⟩
    right
    unfold f_X9_add_35
    rw [q1 28 (by omega), h17, h.2.1.1, if_neg (by rw [nI_leI (by omega) (by omega)]; omega), if_neg (nI_bad (by omega) (by omega)), ix i, if_neg (nI_bad (by omega) (by omega)), nI_c (by omega), nI_c (by omega), q1 29 (by omega), h.2.2.2.1.2 i (by omega)]
    simp only [bd]
    rw [nI_1]
    refine ⟨_, ?_, rfl⟩
    refine ⟨fun c hc => ?_, q2, fun j hj => ?_, fun j hj => ?_⟩
    · rw [← q1 c hc]; funext j; simp [sI, hc]
    · rw [← q3 j hj]; have : j ≠ 40 * g.1.1 + i := by omega
      simp [sI, this]
    · by_cases e : j = i
      · subst e; simp [sI]
      · rw [← q4 j (by omega)]; simp [sI, e]
  · rintro T k ⟨q1, q2, q3, q4⟩
    unfold f_X9_add_35
    rw [q1 28 (by omega), h17, h.2.1.1, if_pos (by rw [nI_leI (by omega) (by omega)]; omega), if_neg (nI_bad (by omega) (by omega)), nI_c (by omega)]
    simp only [bd]
    generalize hU : sI T 31 g.1.1 (nI (gse g.2.1.2 g.2.1.1)) = U
    have Uc : ∀ c, c ≠ 30 → c ≠ 31 → U.1 c = S.1 c := fun c h1 h2 => by rw [← q1 c h1, ← hU]; funext j; simp [sI, h2]
    have U30 : U.1 30 = T.1 30 := by rw [← hU]; funext j; simp [sI]
    have U31 : ∀ k, k ≠ g.1.1 → U.1 31 k = S.1 31 k := fun k hk => by rw [← q1 31 (by omega), ← hU]; simp [sI, hk]
    have u2 : U.1 28 2 = nI g.1.1 := by rw [Uc 28 (by omega) (by omega)]; exact h.2.1.1
    have txtk : ∀ k, k < g.1.1 → Txt U k (g.1.2 k).2.1 (g.1.2 k).2.2.1 := by
      intro k hk
      obtain ⟨pg, len, gg, t1, t2, t3, t4⟩ := h.2.2.1 k hk
      refine ⟨pg, len, gg, t1, by rw [U31 k (by omega)]; exact t2, fun i hi => ⟨?_, (t3 i hi).2⟩, t4⟩
      rw [U30, q3 _ (by omega)]; exact (t3 i hi).1
    have txtL : Txt U g.1.1 z.2.1.1 z.2.1.2 := ⟨g.2.1.2, gse g.2.1.2 g.2.1.1, z2, by omega, by rw [← hU]; simp [sI], fun i hi => ⟨by rw [U30]; exact q4 i hi, hg.2.1.2 i (by omega)⟩, e2, e3, e4, e5, e6⟩
    have mtU : MT U (tbl g.1.2 g.1.1) := h.1.keep (by rw [Uc 28 (by omega) (by omega)]) (Uc 35 (by omega) (by omega)) (Uc 36 (by omega) (by omega)) (Uc 37 (by omega) (by omega))
    obtain ⟨V, v1, v2, v3, v4, v5⟩ := lay_m (n := n) (by omega) hL mtU h10 txtL
    rw [u2, bo_some v1]
    have V28 : ∀ j, j ≠ 18 → V.1 28 j = S.1 28 j := fun j hj => by rw [v5.2 28 j (by omega) (by omega) (by omega) (by omega), Uc 28 (by omega) (by omega)]
    have mt60 := v2.2.1
    by_cases c10 : (lay1 (tbl g.1.2 g.1.1) z.2.1.1 z.2.1.2).1.1 ≤ 10
    · rw [v2.2.2.1, if_pos (by rw [show (10 : Int32) = nI 10 from rfl, nI_leI (by omega) (by omega)]; exact c10)]
      have k14 : V.1 28 14 = nI (sgn z.1.2.2) := by rw [V28 14 (by omega)]; exact hmg.2.2.2.2.1 hw.1
      have V2 : V.1 28 2 = nI g.1.1 := by rw [V28 2 (by omega)]; exact h.2.1.1
      -- behind the sign
      have fin : ∃ r T, f_X9_add_141 n V (nI g.1.1) (nI z.1.2.2) = some (r, T) ∧ r = nI g.1.1 ∧ MI T (gAdd g z) := by
        generalize hW : sI V 32 g.1.1 (nI z.1.2.2) = W
        have Wc : ∀ c, c ≠ 32 → W.1 c = V.1 c := fun c hc => by rw [← hW]; funext j; simp [sI, hc]
        have enum : ∃ v : Int32, f_X9_add_141 n V (nI g.1.1) (nI z.1.2.2) = f_X9_add_169 n W (nI g.1.1) v ∧ v.toInt = numZ z := by
          unfold f_X9_add_141 numZ
          rw [if_neg (nI_bad hL (by omega)), nI_c (by omega)]
          simp only [bd]
          rw [hW, Wc 28 (by omega), V28 16 (by omega), V28 15 (by omega), V2, hmg.2.2.2.2.2.1, hmg.2.2.2.2.2.2]
          by_cases q : z.2.2.1 = 0
          · rw [if_pos (by rw [q]; rfl), if_pos q]
            exact ⟨_, rfl, nI_toInt (by omega)⟩
          · have q1 : z.2.2.1 = 1 := by omega
            rw [if_neg (by rw [q1]; decide), if_neg q]
            exact ⟨_, rfl, neg_nI nm6⟩
        obtain ⟨v, w1, w2⟩ := enum
        generalize hX : sI (sI (sI (sI W 33 g.1.1 v) 28 2 (nI (g.1.1 + 1))) 28 7 (g.2.2.1 + 1)) 28 0 0 = X
        have ee : f_X9_add_169 n W (nI g.1.1) v = some (nI g.1.1, X) := by
          unfold f_X9_add_169
          rw [if_neg (nI_bad hL (by omega)), nI_c (by omega)]
          simp only [bd]
          have x1 : (sI W 33 g.1.1 v).1 28 2 = nI g.1.1 := by rw [← V2, ← Wc 28 (by omega)]; simp [sI]
          rw [x1, nI_1]
          have x2 : (sI (sI W 33 g.1.1 v) 28 2 (nI (g.1.1 + 1))).1 28 7 = g.2.2.1 := by rw [← h.2.2.2.2.1, ← V28 7 (by omega), ← Wc 28 (by omega)]; simp [sI]
          rw [x2, hX]
          have x3 : X.1 28 2 = nI (g.1.1 + 1) := by rw [← hX]; simp [sI]
          rw [x3, nI_pred]
        refine ⟨_, X, w1.trans ee, rfl, ?_⟩
        obtain ⟨as1, as2, as3⟩ := addG_s (G := g.1.2) (L := g.1.1) (x := litZ z)
        have Xc : ∀ c, c ≠ 28 → c ≠ 33 → X.1 c = W.1 c := fun c h1 h2 => by rw [← hX]; funext j; simp [sI, h1, h2]
        have X28 : ∀ j, j ≠ 0 → j ≠ 2 → j ≠ 7 → X.1 28 j = V.1 28 j := fun j h1 h2 h3 => by rw [← Wc 28 (by omega), ← hX]; simp [sI, h1, h2, h3]
        have XU : ∀ c, (29 ≤ c ∧ c ≤ 31) → X.1 c = U.1 c := fun c hc => by
          rw [Xc c (by omega) (by omega), Wc c (by omega)]; funext j; exact v5.2 c j (by omega) (by omega) (by omega) (by omega)
        refine ⟨?_, ⟨?_, fun k hk => ?_⟩, fun k hk => ?_, ⟨?_, fun i hi => absurd hi (Nat.not_lt_zero _)⟩, ?_, ?_, ?_⟩
        · show MT X (tbl (addG g.1.2 g.1.1 (litZ z)) (g.1.1 + 1))
          rw [as1]
          exact v2.keep (X28 18 (by omega) (by omega) (by omega)) (by rw [Xc 35 (by omega) (by omega), Wc 35 (by omega)]) (by rw [Xc 36 (by omega) (by omega), Wc 36 (by omega)]) (by rw [Xc 37 (by omega) (by omega), Wc 37 (by omega)])
        · rw [← hX]; simp [sI]; rfl
        · have hk' : k < g.1.1 + 1 := hk
          show X.1 32 k = nI (addG g.1.2 g.1.1 (litZ z) k).1 ∧ X.1 38 k = nI (lft (addG g.1.2 g.1.1 (litZ z)) k) ∧ X.1 39 k = nI (rgt (addG g.1.2 g.1.1 (litZ z)) k) ∧ (X.1 33 k).toInt = (addG g.1.2 g.1.1 (litZ z) k).2.2.2
          rw [Xc 32 (by omega) (by omega), Xc 38 (by omega) (by omega), Xc 39 (by omega) (by omega), Wc 38 (by omega), Wc 39 (by omega)]
          by_cases e : k = g.1.1
          · have eg : addG g.1.2 g.1.1 (litZ z) k = litZ z := by unfold addG; rw [if_pos e]
            rw [eg, e, as2, as3]
            refine ⟨by rw [← hW]; simp [sI, litZ], v3, v4, ?_⟩
            have : X.1 33 g.1.1 = v := by rw [← hX]; simp [sI]
            rw [this, w2]; rfl
          · obtain ⟨x1, x2, x3⟩ := addG_l (G := g.1.2) (L := g.1.1) (k := k) (x := litZ z) (by omega)
            rw [x1, x2, x3]
            have hl := h.2.1.2 k (by omega)
            have y32 : W.1 32 k = S.1 32 k := by
              have : W.1 32 k = V.1 32 k := by rw [← hW]; simp [sI, e]
              rw [this, v5.2 32 k (by omega) (by omega) (by omega) (by omega), Uc 32 (by omega) (by omega)]
            have y33 : X.1 33 k = S.1 33 k := by
              have : X.1 33 k = W.1 33 k := by rw [← hX]; simp [sI, e]
              rw [this, Wc 33 (by omega), v5.2 33 k (by omega) (by omega) (by omega) (by omega), Uc 33 (by omega) (by omega)]
            rw [y32, y33, v5.2 38 k (by omega) (by omega) (by omega) (by omega), v5.2 39 k (by omega) (by omega) (by omega) (by omega), Uc 38 (by omega) (by omega), Uc 39 (by omega) (by omega)]
            exact hl
        · have hk' : k < g.1.1 + 1 := hk
          show Txt X k (addG g.1.2 g.1.1 (litZ z) k).2.1 (addG g.1.2 g.1.1 (litZ z) k).2.2.1
          by_cases e : k = g.1.1
          · have eg : addG g.1.2 g.1.1 (litZ z) k = litZ z := by unfold addG; rw [if_pos e]
            rw [eg, e]
            exact txtL.keep (XU 30 (by omega)) (by rw [XU 31 (by omega)])
          · rw [(addG_l (G := g.1.2) (L := g.1.1) (k := k) (x := litZ z) (by omega)).1]
            exact (txtk k (by omega)).keep (XU 30 (by omega)) (by rw [XU 31 (by omega)])
        · rw [← hX]; simp [sI]; rfl
        · show X.1 28 7 = g.2.2.1 + 1
          rw [← hX]; simp [sI]
        · show X.1 28 8 = g.2.2.2.1
          rw [X28 8 (by omega) (by omega) (by omega), V28 8 (by omega)]; exact h.2.2.2.2.2.1
        · show X.1 28 9 = nI g.2.2.2.2
          rw [X28 9 (by omega) (by omega) (by omega), V28 9 (by omega)]; exact h.2.2.2.2.2.2
      obtain ⟨r, T', f1, f2, f3⟩ := fin
      refine ⟨r, T', ?_, Or.inr ⟨f2, c10, f3⟩⟩
      rw [k14, V2]
      have hk : z.1.2.2 = 0 ∨ z.1.2.2 = 1 ∨ z.1.2.2 = 2 := by omega
      rcases hk with e | e | e
      · rw [e] at f1 ⊢
        rw [if_pos (by decide)]; exact f1
      · rw [e] at f1 ⊢
        rw [if_neg (by decide), if_pos (by decide)]; exact f1
      · rw [e] at f1 ⊢
        rw [if_neg (by decide), if_neg (by decide)]; exact f1
    · rw [v2.2.2.1, if_neg (by rw [show (10 : Int32) = nI 10 from rfl, nI_leI (by omega) (by omega)]; exact c10)]
      have VU : ∀ c, (29 ≤ c ∧ c ≤ 34) → V.1 c = U.1 c := fun c hc => by
        funext j; exact v5.2 c j (by omega) (by omega) (by omega) (by omega)
      obtain ⟨X, x1, x2, x3, x4⟩ := layTerms_m (n := n) (S := V) (G := g.1.2) (L := g.1.1) (by omega) hg.1.1 (by rw [V28 2 (by omega)]; exact h.2.1.1) h10 (fun k hk => (txtk k hk).keep (VU 30 (by omega)) (by rw [VU 31 (by omega)]))
      rw [bo_some x1]
      refine ⟨_, X, rfl, Or.inl ⟨rfl, by omega, x2, ⟨?_, fun k hk => ?_⟩, fun k hk => ?_, ⟨?_, fun i hi => ?_⟩, ?_, ?_, ?_⟩⟩
      · rw [x4.2 28 2 (by omega) (by omega), V28 2 (by omega)]; exact h.2.1.1
      · have hl := h.2.1.2 k hk
        rw [x4.2 32 k (by omega) (by omega), x4.2 33 k (by omega) (by omega), VU 32 (by omega), VU 33 (by omega), Uc 32 (by omega) (by omega), Uc 33 (by omega) (by omega)]
        exact ⟨hl.1, (x3 k hk).1, (x3 k hk).2, hl.2.2.2⟩
      · exact (txtk k hk).keep (by funext j; rw [x4.2 30 j (by omega) (by omega), VU 30 (by omega)]) (by rw [x4.2 31 k (by omega) (by omega), VU 31 (by omega)])
      · rw [x4.2 28 0 (by omega) (by omega), V28 0 (by omega)]; exact h.2.2.2.1.1
      · rw [x4.2 29 i (by omega) (by omega), VU 29 (by omega), Uc 29 (by omega) (by omega)]; exact h.2.2.2.1.2 i hi
      · rw [x4.2 28 7 (by omega) (by omega), V28 7 (by omega)]; exact h.2.2.2.2.1
      · rw [x4.2 28 8 (by omega) (by omega), V28 8 (by omega)]; exact h.2.2.2.2.2.1
      · rw [x4.2 28 9 (by omega) (by omega), V28 9 (by omega)]; exact h.2.2.2.2.2.2
theorem gAdd_ok {g : Gh} {z : Gs} (hg : Gd g) (hL : g.1.1 < 10) (hz : grun g.2.1.2 g.2.1.1 = some z) (hw : gwh z) (h10 : (lay1 (tbl g.1.2 g.1.1) z.2.1.1 z.2.1.2).1.1 ≤ 10) : Gd (gAdd g z) := by
  obtain ⟨s1, s2, kd2, ng1, nm6, -⟩ := gwh.ok hz hw hg.2.1.1
  refine ⟨⟨by show g.1.1 + 1 ≤ 10; omega, fun k hk => ?_, fun k hk => ?_, ?_⟩, ⟨Nat.zero_le _, fun i hi => absurd hi (Nat.not_lt_zero _)⟩, hg.2.2⟩
  · have hk' : k < g.1.1 + 1 := hk
    show SOk (addG g.1.2 g.1.1 (litZ z) k).2.1 ∧ SOk (addG g.1.2 g.1.1 (litZ z) k).2.2.1
    by_cases e : k = g.1.1
    · have eg : addG g.1.2 g.1.1 (litZ z) k = litZ z := by unfold addG; rw [if_pos e]
      rw [eg]; exact ⟨s1, s2⟩
    · rw [(addG_l (G := g.1.2) (L := g.1.1) (k := k) (x := litZ z) (by omega)).1]
      exact hg.1.2.1 k (by omega)
  · have hk' : k < g.1.1 + 1 := hk
    show (addG g.1.2 g.1.1 (litZ z) k).1 ≤ 2 ∧ -2000000000 ≤ (addG g.1.2 g.1.1 (litZ z) k).2.2.2 ∧ (addG g.1.2 g.1.1 (litZ z) k).2.2.2 ≤ 2000000000
    by_cases e : k = g.1.1
    · have eg : addG g.1.2 g.1.1 (litZ z) k = litZ z := by unfold addG; rw [if_pos e]
      rw [eg]
      refine ⟨kd2, ?_⟩
      show -2000000000 ≤ numZ z ∧ numZ z ≤ 2000000000
      unfold numZ
      split <;> omega
    · rw [(addG_l (G := g.1.2) (L := g.1.1) (k := k) (x := litZ z) (by omega)).1]
      exact hg.1.2.2.1 k (by omega)
  · show (tbl (addG g.1.2 g.1.1 (litZ z)) (g.1.1 + 1)).1 ≤ 10
    rw [addG_s.1]; exact h10
theorem op_add {n : Nat} {S : St} (hn : 110 ≤ n) (hI : Inv S) : OpOk (fun S => f_X8_add n S) (fun S => f_X9_add n S) S := by
  obtain ⟨g, hg, hc, hm⟩ := hI
  have hP := hg.2.1.1
  have hwc : ∀ c, 28 ≤ c ∧ c ≤ 39 → ¬ wr_X8_add c := fun c hc h => by unfold wr_X8_add at h; omega
  have hwm : ∀ c, c ≤ 22 ∨ c = 26 ∨ c = 121 → ¬ wr_X9_add c := fun c hc h => by unfold wr_X9_add at h; omega
  have fin : ∀ (r : Int32) (T : St) (g' : Gh), f_X8_add n S = some (r, T) → Gd g' → CI T g' → (∀ U, MI U g → ∃ V, f_X9_add n U = some (r, V) ∧ MI V g') → OpOk (fun S => f_X8_add n S) (fun S => f_X9_add n S) S := by
    intro r T g' e hg' hcT hU
    obtain ⟨V, v1, v2⟩ := hU T (hm.kp (fr_X8_add n S r T e) hwc)
    exact ⟨r, T, V, e, v1, g', hg', hcT.kp (fr_X9_add n T r V v1) hwm, v2⟩
  obtain ⟨f, T1, a1, a2, a3, a4, a5⟩ := fault_C (n := n) (by omega) hg hc
  have t01 : T1.1 0 1 = nI g.2.1.1 := a3.1.2.2.1.1
  have hf := a4.1
  by_cases cf : f < g.2.1.1
  · refine fin (-2000000004) T1 g ?_ hg a3 (fun U hU => ?_)
    · unfold f_X8_add
      rw [bo_some a1, t01, if_pos (nI_lt cf (by omega))]
    · obtain ⟨f2, V, b1, b2, -, -, b5, b6, -⟩ := along_M (n := n) (by omega) hg hU
      have : f = f2 := isFault.uniq a4 b6
      subst this
      refine ⟨V, ?_, b5⟩
      unfold f_X9_add
      rw [bo_some b1, b5.2.2.2.1.1, if_pos (nI_lt cf (by omega))]
  · have ef : f = g.2.1.1 := by omega
    obtain ⟨z, z1, z2⟩ := a5 ef
    have mdl : ∀ U, MI U g → ∃ V, MI V g ∧ MG V z ∧ V.1 28 17 = nI (gse g.2.1.2 g.2.1.1) ∧ f_X9_add n U = bo (f_X9_isWhole n V) fun (r_29 : Int32) (S_30 : St) => if r_29 = 0 then some ((-2000000004 : Int32), S_30) else if (S_30.1 28 2) = (10 : Int32) then some ((-2000000005 : Int32), S_30) else fixF (fun _ _ => none) (f_X9_add_35 n) n S_30 (0 : Int32) := by
      intro U hU
      obtain ⟨f2, V, b1, b2, -, -, b5, b6, b7⟩ := along_M (n := n) (by omega) hg hU
      have : f = f2 := isFault.uniq a4 b6
      subst this
      obtain ⟨y, y1, y2, y3⟩ := b7 ef
      rw [z1] at y1
      cases y1
      refine ⟨V, b5, y2, y3, ?_⟩
      unfold f_X9_add
      rw [bo_some b1, b5.2.2.2.1.1, if_neg (nI_nlt (by omega) (by omega))]
      rfl
    obtain ⟨r, c1, c2⟩ := complete_c (n := n) hP z2 (grun_ok z1)
    have pre : f_X8_add n S = if r = 0 then some ((-2000000004 : Int32), T1) else bo (f_X3_size n T1) fun (r_9 : Int32) (S_10 : St) => if r_9 < (10 : Int32) then (bo (f_X7_size n 6 S_10) fun (r_13 : Int32) (S_14 : St) => bd (r_13) fun (x1_16 : Int32) => bo (f_X5_buildIn n S_14 6) fun (r_17 : Int32) (S_18 : St) => if r_17 = 0 then (bo (f_X7_shrinkTo n 6 S_18 x1_16) fun (_ : Unit) (S_45 : St) => some ((-2000000005 : Int32), S_45)) else (bo (f_X5_kind n S_18) fun (r_21 : Int32) (S_22 : St) => bo (f_X5_left n S_22) fun (r_24 : Int32) (S_25 : St) => bo (f_X5_right n S_25) fun (r_27 : Int32) (S_28 : St) => bo (f_X5_number n S_28) fun (r_30 : Int32) (S_31 : St) => bo (f_X3_append n S_31 r_21 r_24 r_27 r_30) fun (_ : Unit) (S_34 : St) => bd (sI S_34 0 1 (0 : Int32)) fun (S_36 : St) => bd (sI S_36 0 9 ((S_36.1 0 9) + (1 : Int32))) fun (S_37 : St) => bo (f_X8_forgetResults n S_37) fun (_ : Unit) (S_39 : St) => bo (f_X3_size n S_39) fun (r_41 : Int32) (S_42 : St) => some ((r_41 - (1 : Int32)), S_42))) else some ((-2000000005 : Int32), S_10) := by
      unfold f_X8_add
      rw [bo_some a1, t01, if_neg (nI_nlt (by omega) (by omega)), bo_some c1]
    rcases c2 with ⟨cr, hw⟩ | ⟨cr, hw⟩
    · rw [if_neg (by rw [cr]; decide)] at pre
      have es : f_X3_size n T1 = some (nI g.1.1, T1) := by unfold f_X3_size; rw [a3.1.2.1.1]
      rw [bo_some es] at pre
      have mdl2 : ∀ U, MI U g → ∃ V, MI V g ∧ MG V z ∧ V.1 28 17 = nI (gse g.2.1.2 g.2.1.1) ∧ f_X9_add n U = if nI g.1.1 = (10 : Int32) then some ((-2000000005 : Int32), V) else fixF (fun _ _ => none) (f_X9_add_35 n) n V (0 : Int32) := by
        intro U hU
        obtain ⟨V, v1, v2, v3, v4⟩ := mdl U hU
        refine ⟨V, v1, v2, v3, ?_⟩
        obtain ⟨q, q1, q2⟩ := whole_m (n := n) hP v2 (grun_ok z1)
        obtain ⟨q2, -⟩ := q2.resolve_right (fun x => x.2 hw)
        rw [v4, bo_some q1, if_neg (by rw [q2]; decide), v1.2.1.1]
      have hL := hg.1.1
      by_cases cL : g.1.1 = 10
      · refine fin (-2000000005) T1 g ?_ hg a3 (fun U hU => ?_)
        · rw [pre, if_neg (by rw [cL]; decide)]
        · obtain ⟨V, v1, -, -, v4⟩ := mdl2 U hU
          exact ⟨V, by rw [v4, if_pos (by rw [cL]; rfl)], v1⟩
      · rw [if_pos (by rw [show (10 : Int32) = nI 10 from rfl, nI_ltI (by omega) (by omega)]; omega)] at pre
        obtain ⟨r5, T5, d1, d2⟩ := add_C (n := n) hn hg a3 (by omega) z1 hw z2
        rw [d1] at pre
        have mdl3 : ∀ U, MI U g → ∃ r V, f_X9_add n U = some (r, V) ∧ ((r = -2000000005 ∧ 10 < (lay1 (tbl g.1.2 g.1.1) z.2.1.1 z.2.1.2).1.1 ∧ MI V g) ∨ (r = nI g.1.1 ∧ (lay1 (tbl g.1.2 g.1.1) z.2.1.1 z.2.1.2).1.1 ≤ 10 ∧ MI V (gAdd g z))) := by
          intro U hU
          obtain ⟨V, v1, v2, v3, v4⟩ := mdl2 U hU
          obtain ⟨r, W, w1, w2⟩ := add_M (n := n) hn hg v1 (by omega) z1 hw v2 v3
          exact ⟨r, W, by rw [v4, if_neg (by rw [show (10 : Int32) = nI 10 from rfl, nI_eq (by omega) (by omega)]; exact cL)]; exact w1, w2⟩
        rcases d2 with ⟨x1, x2, x3⟩ | ⟨x1, x2, x3⟩
        · refine fin r5 T5 g pre hg x3 (fun U hU => ?_)
          obtain ⟨r, V, v1, v2⟩ := mdl3 U hU
          obtain ⟨y1, -, y3⟩ := v2.resolve_right (fun q => by have := q.2.1; omega)
          exact ⟨V, by rw [v1, y1, x1], y3⟩
        · refine fin r5 T5 (gAdd g z) pre (gAdd_ok hg (by omega) z1 hw x2) x3 (fun U hU => ?_)
          obtain ⟨r, V, v1, v2⟩ := mdl3 U hU
          obtain ⟨y1, -, y3⟩ := v2.resolve_left (fun q => by have := q.2.1; omega)
          exact ⟨V, by rw [v1, y1, x1], y3⟩
    · refine fin (-2000000004) T1 g (by rw [pre, if_pos cr]) hg a3 (fun U hU => ?_)
      obtain ⟨V, v1, v2, -, v4⟩ := mdl U hU
      obtain ⟨q, q1, q2⟩ := whole_m (n := n) hP v2 (grun_ok z1)
      obtain ⟨q2, -⟩ := q2.resolve_left (fun x => hw x.2)
      exact ⟨V, by rw [v4, bo_some q1, if_pos q2], v1⟩
