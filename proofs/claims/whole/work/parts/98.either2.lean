/-! either: the reference; both -/
theorem PM4 {p : Pb} {m : Int32} {c d : Nat} (v : Nat → Int) : PM p m (some (1, (c / 10, c % 10))) (some (d / 10, d % 10)) v ↔ Sol p m v ∧ Ev c v ∧ Ev d v := by
  unfold PM
  constructor
  · rintro ⟨h, h2, -⟩
    exact ⟨h, h2 (c / 10, c % 10) (by simp [mext, ext1, ext2]), h2 (d / 10, d % 10) (by simp [mext, ext1, ext2])⟩
  · rintro ⟨h, h2, h3⟩
    refine ⟨h, fun e he => ?_, mo1⟩
    simp [mext, ext1, ext2] at he
    rcases he with rfl | rfl
    · exact h2
    · exact h3
theorem both_q {n : Nat} {S : St} {g : Gh} (hn : NB ≤ n) (hg : Gd g) (h : MI S g) {c d : Nat} (hc : isCd c) (hd : isCd d) : ∃ x T, f_X9_canBothBeUnlike n S (nI c) (nI d) = some (x, T) ∧ MI T g ∧ ((x = 0 ∧ ¬ ∃ v, Sol (gP g) (allM g.1.1) v ∧ Ev c v ∧ Ev d v) ∨ (x = 1 ∧ ∃ v, Sol (gP g) (allM g.1.1) v ∧ Ev c v ∧ Ev d v)) := by
  obtain ⟨p1, p2, p3, p4⟩ := plain_f S
  have h5 := hg.wf.1
  have c50 := hc.lt
  have d50 := hd.lt
  obtain ⟨c1, c2⟩ := hc
  obtain ⟨d1, d2⟩ := hd
  generalize hU1 : sI (sI (sI (sI (sI (plain S) 28 32 (1 : Int32)) 28 33 (nI (c / 10))) 28 34 (nI (c % 10))) 28 35 (nI (d / 10))) 28 36 (nI (d % 10)) = U1
  have k1 : MKeep S U1 := by rw [← hU1]; exact ((((plain_k.trans (fld_mk (by omega))).trans (fld_mk (by omega))).trans (fld_mk (by omega))).trans (fld_mk (by omega))).trans (fld_mk (by omega))
  have e1 : U1.1 28 32 = nI 1 ∧ U1.1 28 33 = nI (c / 10) ∧ U1.1 28 34 = nI (c % 10) ∧ U1.1 28 35 = nI (d / 10) ∧ U1.1 28 36 = nI (d % 10) ∧ U1.1 28 37 = -2000000001 ∧ U1.1 28 38 = -2000000001 := by
    rw [← hU1]
    refine ⟨?_, ?_, ?_, ?_, ?_, ?_, ?_⟩
    · simp [sI]; rfl
    · simp [sI]
    · simp [sI]
    · simp [sI]
    · simp [sI]
    · rw [← p3]; simp [sI]
    · rw [← p4]; simp [sI]
  have hm2 := (h.mk k1).1
  obtain ⟨W, w1, w2, w3⟩ := seek_q (n := n) (S := U1) (mo := some (1, (c / 10, c % 10))) (ot := some (d / 10, d % 10)) (w := none) (allM g.1.1) hn hg hm2 ⟨by show 1 ≤ 2; omega, by show c / 10 < _; omega, by show c % 10 < _; omega, e1.1, e1.2.1, e1.2.2.1⟩ ⟨by show d / 10 < _; omega, by show d % 10 < _; omega, e1.2.2.2.1, e1.2.2.2.2.1⟩ ⟨e1.2.2.2.2.2.1, e1.2.2.2.2.2.2⟩
  have hmW := h.mk (k1.trans w2)
  unfold f_X9_canBothBeUnlike
  rw [bo_some plain_e, (dm_ok c c50).2, (dm_ok c c50).1, (dm_ok d d50).2, (dm_ok d d50).1]
  simp only [bd]
  rw [hU1, bo_some (all_m hm2), bo_some w1, if_neg (by rcases w3 with ⟨e, -⟩ | ⟨e, -⟩ <;> rw [e] <;> decide)]
  refine ⟨_, W, rfl, hmW.1, ?_⟩
  rcases w3 with ⟨e, f⟩ | ⟨e, ⟨v, f⟩, -⟩
  · exact Or.inl ⟨e, fun ⟨v, hv⟩ => f ⟨v, (PM4 v).mpr hv⟩⟩
  · exact Or.inr ⟨e, v, (PM4 v).mp f⟩
/-- what is answered to either -/
def EiW (P : (Nat → Int) → Prop) (w : Int32) (v : Int32) : Prop := ∃ a b, EiA P a b ∧ v = if w = 0 then a else b
theorem EiA.uniq {P : (Nat → Int) → Prop} {a b a' b' : Int32} (h : EiA P a b) (h' : EiA P a' b') : a = a' ∧ b = b' := by
  rcases h with ⟨h1, h2, h3⟩ | ⟨c, d, c1, c2, c3, c4, c5, c6, c7⟩
  · rcases h' with ⟨g1, g2, g3⟩ | ⟨c', d', e1, e2, e3, e4, -⟩
    · exact ⟨h1.trans g1.symm, h2.trans g2.symm⟩
    · exact absurd e4 (h3 c' d' e1 e2 e3)
  · rcases h' with ⟨g1, g2, g3⟩ | ⟨c', d', e1, e2, e3, e4, e5, e6, e7⟩
    · exact absurd c4 (g3 c d c1 c2 c3)
    · have x := c5 c' d' e1 e2 e3 e4
      have y := e5 c d c1 c2 c3 c4
      have ec : c = c' := by omega
      have ed : d = d' := by omega
      rw [c6, c7, e6, e7, ec, ed]
      exact ⟨rfl, rfl⟩
theorem EiW.uniq {P : (Nat → Int) → Prop} {w v v' : Int32} (h : EiW P w v) (h' : EiW P w v') : v = v' := by
  obtain ⟨a, b, h1, rfl⟩ := h
  obtain ⟨a', b', h2, rfl⟩ := h'
  obtain ⟨e1, e2⟩ := h1.uniq h2
  rw [e1, e2]
theorem now_m {n : Nat} {S : St} {g : Gh} (hn : NB ≤ n) (hg : Gd g) (h : MI S g) (w : Int32) : ∃ v T, f_X9_eitherNow n S w = some (v, T) ∧ MI T g ∧ EiW (Sol (gP g) (allM g.1.1)) w v := by
  have hn1 := NB110 hn
  generalize hP : Sol (gP g) (allM g.1.1) = P
  have base : ∀ c d, isCd c → isCd d → c < d → c < 1 → ¬ E2 P c d := by
    intro c d hc _ _ hl
    have e : c = 0 := by omega
    subst e
    exact absurd hc.1 (by decide)
  unfold f_X9_eitherNow
  simp only [bd]
  refine for_up (α := Int32 × St) (f_X9_eitherNow_2 n w) (fun _ _ => none) 50 (fun i T => MI T g ∧ ∀ c d, isCd c → isCd d → c < d → c < i → ¬ E2 P c d) (fun o => ∃ v T, o = some (v, T) ∧ MI T g ∧ EiW P w v) ?_ ?_ n 1 S (by omega) (by omega) ⟨h, base⟩
  · rintro i T k2 hi ⟨q1, q2⟩
    unfold f_X9_eitherNow_2
    rw [if_neg (by rw [show (50 : Int32) = nI 50 from rfl, nI_leI (by omega) (by omega)]; omega)]
    simp only [bd]
    rw [nI_1]
    refine for_up (α := Int32 × St) (f_X9_eitherNow_12 n w (nI i) k2) (fun _ _ => none) 50 (fun j V => i < j ∧ MI V g ∧ ∀ d, isCd i → isCd d → i < d → d < j → ¬ E2 P i d) (fun o => (∃ v T, o = some (v, T) ∧ MI T g ∧ EiW P w v) ∨ ∃ S', (MI S' g ∧ ∀ c d, isCd c → isCd d → c < d → c < i + 1 → ¬ E2 P c d) ∧ o = k2 S' (nI (i + 1))) ?_ ?_ n (i + 1) T (by omega) (by omega) ⟨by omega, q1, fun d _ _ h1 h2 => by omega⟩
    · rintro j V k12 hj ⟨hij, r1, r2⟩
      obtain ⟨i1, i2⟩ := dm_ok i hi
      obtain ⟨j1, j2⟩ := dm_ok j hj
      have go : ∀ W : St, MI W g → (isCd i → isCd j → ¬ E2 P i j) → ∃ S', (i < j + 1 ∧ MI S' g ∧ ∀ d, isCd i → isCd d → i < d → d < j + 1 → ¬ E2 P i d) ∧ f_X9_eitherNow_105 n w (nI i) k2 k12 W (nI j) = k12 S' (nI (j + 1)) := by
        intro W hW hne
        refine ⟨W, ⟨by omega, hW, fun d h1 h2 h3 h4 => ?_⟩, ?_⟩
        · by_cases e : d = j
          · subst e; exact hne h1 h2
          · exact r2 d h1 h2 h3 (by omega)
        · unfold f_X9_eitherNow_105
          simp only [bd]
          rw [nI_1]
      have no : ¬ (isCd i ∧ isCd j) → ∃ S', (i < j + 1 ∧ MI S' g ∧ ∀ d, isCd i → isCd d → i < d → d < j + 1 → ¬ E2 P i d) ∧ f_X9_eitherNow_60 n w (nI i) k2 k12 V (nI j) = k12 S' (nI (j + 1)) := by
        intro hne
        obtain ⟨S', s1, s2⟩ := go V r1 (fun a b => absurd ⟨a, b⟩ hne)
        refine ⟨S', s1, ?_⟩
        unfold f_X9_eitherNow_60 f_X9_eitherNow_61
        simp only [bd]
        first | rw [if_pos rfl] | rw [if_pos trivial]
        exact s2
      unfold f_X9_eitherNow_12
      rw [if_neg (by rw [show (50 : Int32) = nI 50 from rfl, nI_leI (by omega) (by omega)]; omega), i2, j2, i1, j1, show (5 : Int32) = nI 5 from rfl]
      have L1 : nI (i % 10) ≤ nI (i / 10) ↔ i % 10 ≤ i / 10 := nI_leI (by omega) (by omega)
      have L2 : nI 5 ≤ nI (i % 10) ↔ 5 ≤ i % 10 := nI_leI (by omega) (by omega)
      have L3 : nI (j % 10) ≤ nI (j / 10) ↔ j % 10 ≤ j / 10 := nI_leI (by omega) (by omega)
      have L4 : nI 5 ≤ nI (j % 10) ↔ 5 ≤ j % 10 := nI_leI (by omega) (by omega)
      simp only [L1, L2, L3, L4]
      by_cases c1 : i % 10 ≤ i / 10
      · rw [if_pos c1]
        exact Or.inr (no (fun q => by have := q.1.1; omega))
      · rw [if_neg c1]
        by_cases c2 : 5 ≤ i % 10
        · rw [if_pos c2]
          exact Or.inr (no (fun q => by have := q.1.2; omega))
        · rw [if_neg c2]
          by_cases c3 : j % 10 ≤ j / 10
          · rw [if_pos c3]
            exact Or.inr (no (fun q => by have := q.2.1; omega))
          · rw [if_neg c3]
            by_cases c4 : 5 ≤ j % 10
            · rw [if_pos c4]
              exact Or.inr (no (fun q => by have := q.2.2; omega))
            · rw [if_neg c4]
              have ci : isCd i := ⟨by omega, by omega⟩
              have cj : isCd j := ⟨by omega, by omega⟩
              unfold f_X9_eitherNow_61
              simp only [bd]
              rw [if_neg (by decide)]
              obtain ⟨x, W, w1, w2, w3⟩ := both_q (n := n) hn hg r1 ci cj
              rw [hP] at w3
              rw [bo_some w1]
              rcases w3 with ⟨x0, x1⟩ | ⟨x0, x1⟩
              · rw [if_pos x0]
                obtain ⟨y, W2, y1, y2, y3⟩ := both_q (n := n) hn hg w2 ci ci
                rw [hP] at y3
                rw [bo_some y1]
                rcases y3 with ⟨y0, y4⟩ | ⟨y0, v, v1, v2, -⟩
                · rw [if_pos y0]
                  exact Or.inr (go W2 y2 (fun _ _ q => by obtain ⟨v, v1, v2⟩ := q.1; exact y4 ⟨v, v1, v2, v2⟩))
                · rw [if_neg (by rw [y0]; decide)]
                  obtain ⟨z, W3, z1, z2, z3⟩ := both_q (n := n) hn hg y2 cj cj
                  rw [hP] at z3
                  rw [bo_some z1]
                  rcases z3 with ⟨z0, z4⟩ | ⟨z0, u, u1, u2, -⟩
                  · rw [if_pos z0]
                    exact Or.inr (go W3 z2 (fun _ _ q => by obtain ⟨v, v1, v2⟩ := q.2.1; exact z4 ⟨v, v1, v2, v2⟩))
                  · rw [if_neg (by rw [z0]; decide)]
                    left; left
                    have ea : EiA P (nI i) (nI j) := by
                      refine Or.inr ⟨i, j, ci, cj, hij, ⟨⟨v, v1, v2⟩, ⟨u, u1, u2⟩, x1⟩, fun c d hc hd hl he => ?_, rfl, rfl⟩
                      by_cases e1 : c < i
                      · exact absurd he (q2 c d hc hd hl e1)
                      · by_cases e2 : c = i
                        · subst e2
                          by_cases e3 : d < j
                          · exact absurd he (r2 d hc hd hl e3)
                          · exact Or.inr ⟨rfl, by omega⟩
                        · exact Or.inl (by omega)
                    by_cases e0 : w = 0
                    · rw [if_pos e0]
                      exact ⟨_, W3, rfl, z2, nI i, nI j, ea, by rw [if_pos e0]⟩
                    · rw [if_neg e0]
                      exact ⟨_, W3, rfl, z2, nI i, nI j, ea, by rw [if_neg e0]⟩
              · rw [if_neg (by rw [x0]; decide)]
                exact Or.inr (go W w2 (fun _ _ q => q.2.2 x1))
    · rintro V k12 ⟨hij, r1, r2⟩
      unfold f_X9_eitherNow_12
      rw [if_pos (by decide)]
      simp only [bd]
      rw [nI_1]
      right
      refine ⟨V, ⟨r1, fun c d hc hd hl hl2 => ?_⟩, rfl⟩
      by_cases e : c = i
      · subst e; exact r2 d hc hd hl hd.lt
      · exact q2 c d hc hd hl (by omega)
  · rintro T k2 ⟨q1, q2⟩
    unfold f_X9_eitherNow_2
    rw [if_pos (by decide)]
    refine ⟨_, T, rfl, q1, -2000000001, -2000000001, Or.inl ⟨rfl, rfl, fun c d hc hd hl => q2 c d hc hd hl hc.lt⟩, by split <;> rfl⟩
theorem op_either {n : Nat} {S : St} (hn : NB ≤ n) (hI : Inv S) (w : Int32) : OpOk (fun S => f_X8_either n S w) (fun S => f_X9_either n S w) S := by
  obtain ⟨g, hg, hc, hm⟩ := hI
  have hn1 := NB110 hn
  have hE := hg.2.2
  have c1 : nI 2 - 1 = (1 : Int32) := by decide
  have hwc : ∀ c, 28 ≤ c ∧ c ≤ 39 → ¬ wr_X8_either c := fun c hc h => by unfold wr_X8_either at h; omega
  have hwm : ∀ c, c ≤ 22 ∨ c = 26 ∨ c = 121 → ¬ wr_X9_either c := fun c hc h => by unfold wr_X9_either at h; omega
  -- class and reference one behind the other
  have fin : ∀ (r : Int32) (T : St) (g' : Gh), f_X8_either n S w = some (r, T) → Gd g' → CI T g' → (∀ U, MI U g → ∃ V, f_X9_either n U w = some (r, V) ∧ MI V g') → OpOk (fun S => f_X8_either n S w) (fun S => f_X9_either n S w) S := by
    intro r T g' e hg' hcT hU
    obtain ⟨V, v1, v2⟩ := hU T (hm.kp (fr_X8_either n S w r T e) hwc)
    exact ⟨r, T, V, e, v1, g', hg', hcT.kp (fr_X9_either n T w r V v1) hwm, v2⟩
  rcases rng w 2 (by omega) with ⟨j, hj, rfl⟩ | ho
  · have win : ∀ U : St, f_X9_within n U (nI j) (0 : Int32) (1 : Int32) = some (1, U) := fun U => by
      have w1 := wi_in (n := n) (S := U) (t := j) (N := 2) hj (by omega)
      rw [c1] at w1; exact w1
    have pre : f_X8_either n S (nI j) = (if (12 : Int32) ≤ (S.1 0 11) then some ((-2000000004 : Int32), S) else bo (f_X8_isSolvable n S) fun (r_12 : Int32) (S_13 : St) => if r_12 = 0 then some ((-2000000004 : Int32), S_13) else if (S_13.1 0 15) = 0 then (bo (f_X3_all n S_13) fun (r_17 : Int32) (S_18 : St) => bo (f_X4_find n S_18 r_17) fun (_ : Unit) (S_21 : St) => bd (sI S_21 0 15 (1 : Int32)) fun (S_23 : St) => f_X8_either_57 n S_23 (nI j)) else f_X8_either_57 n S_13 (nI j)) := by
      unfold f_X8_either
      rw [if_neg (nI_pos (by omega)), if_pos (by rw [show (1 : Int32) = nI 1 from rfl, nI_leI (by omega) (by omega)]; omega)]
    have prm : ∀ U, MI U g → ∃ (r : Int32) (T : St), MI T g ∧ ((r = 0 ∧ ¬ ∃ v, Sol (gP g) (allM g.1.1) v) ∨ (r = 1 ∧ ∃ v, Sol (gP g) (allM g.1.1) v)) ∧ f_X9_either n U (nI j) = (if r = 0 then some ((-2000000004 : Int32), T) else if (T.1 28 9) = (12 : Int32) then some ((-2000000004 : Int32), T) else bo (f_X9_eitherNow n (sI T 28 9 ((T.1 28 9) + (1 : Int32))) (nI j)) fun (r_14 : Int32) (S_15 : St) => some (r_14, S_15)) := by
      intro U hU
      obtain ⟨r, T, a, b, -, c⟩ := with_q (n := n) (allM g.1.1) hn hg hU
      refine ⟨r, T, b, c, ?_⟩
      unfold f_X9_either
      rw [bo_some (win U), if_neg (by decide), bo_some (all_m hU), bo_some a]
      rfl
    by_cases hE12 : g.2.2.2.2 = 12
    · refine fin (-2000000004) S g ?_ hg hc (fun U hU => ?_)
      · rw [pre, hc.1.2.2.2.2.2, hE12, if_pos (by decide)]
      · obtain ⟨r, T, b, -, e⟩ := prm U hU
        refine ⟨T, ?_, b⟩
        rw [e, b.2.2.2.2.2.2, hE12]
        by_cases hr : r = 0
        · rw [if_pos hr]
        · rw [if_neg hr, if_pos (by decide)]
    · have e11 : ¬ (12 : Int32) ≤ S.1 0 11 := by
        rw [hc.1.2.2.2.2.2, show (12 : Int32) = nI 12 from rfl, nI_leI (by omega) (by omega)]; omega
      rw [if_neg e11] at pre
      obtain ⟨r1, T1, a1, a2, a3⟩ := solvable_c hn1 hg hc
      rw [bo_some a1] at pre
      rcases a3 with ⟨e, hno⟩ | ⟨e, hyes⟩
      · refine fin (-2000000004) T1 g (by rw [pre, if_pos e]) hg a2 (fun U hU => ?_)
        obtain ⟨r, T, b, c, e⟩ := prm U hU
        obtain ⟨c, -⟩ := c.resolve_right (fun q => hno q.2)
        exact ⟨T, by rw [e, if_pos c], b⟩
      · rw [if_neg (by rw [e]; decide)] at pre
        -- where the pairs are known
        have g'E : ∃ g' : Gh, g' = (g.1, g.2.1, g.2.2.1, g.2.2.2.1, g.2.2.2.2 + 1) := ⟨_, rfl⟩
        obtain ⟨g', hg'⟩ := g'E
        have gd' : Gd g' := by rw [hg']; exact ⟨hg.1, hg.2.1, by show g.2.2.2.2 + 1 ≤ 12; omega⟩
        have last : ∀ T2 : St, CI T2 g → PaC g T2 → f_X8_either n S (nI j) = f_X8_either_57 n T2 (nI j) → OpOk (fun S => f_X8_either n S (nI j)) (fun S => f_X9_either n S (nI j)) S := by
          intro T2 b1 b2 b3
          generalize hT3 : sI T2 0 11 ((T2.1 0 11) + (1 : Int32)) = T3
          have c3 : CI T3 g' := by
            obtain ⟨x1, x2, x3, x4⟩ := b1
            have f0 : ∀ k, k ≠ 11 → T3.1 0 k = T2.1 0 k := fun k hk => by rw [← hT3]; simp [sI, hk]
            have fc : ∀ c, c ≠ 0 → T3.1 c = T2.1 c := fun c hc => by rw [← hT3]; funext k; simp [sI, hc]
            obtain ⟨y1, y2, y3, y4, y5, y6⟩ := x1
            rw [hg']
            refine ⟨⟨y1.keep (by rw [fc 6 (by omega)]) (fc 7 (by omega)) (fc 8 (by omega)) (fc 9 (by omega)) (fc 10 (by omega)), ?_, ?_, ?_, ?_, ?_⟩, ?_, ?_, ?_⟩
            · rw [fc 16 (by omega), fc 17 (by omega), fc 18 (by omega), fc 19 (by omega), fc 20 (by omega)]; exact y2
            · rw [f0 1 (by omega), fc 1 (by omega)]; exact y3
            · rw [f0 9 (by omega)]; exact y4
            · rw [f0 10 (by omega)]; exact y5
            · rw [← hT3]
              show (sI T2 0 11 ((T2.1 0 11) + (1 : Int32))).1 0 11 = nI (g.2.2.2.2 + 1)
              rw [y6, nI_1]; simp [sI]
            · rw [f0 12 (by omega)]
              exact x2.imp id (fun h => h.keep (fc 21 (by omega)) (fc 22 (by omega)) (by rw [← hT3]; rfl))
            · unfold SoC at *
              rw [f0 13 (by omega), f0 14 (by omega)]; exact x3
            · unfold PaC at *
              rw [f0 15 (by omega), fc 26 (by omega)]; exact x4
          have e26 : T3.1 26 = T2.1 26 := by rw [← hT3]; funext k; simp [sI]
          have ans : f_X8_either n S (nI j) = some ((if nI j = 0 then T2.1 26 2 else T2.1 26 3), T3) := by
            rw [b3]
            unfold f_X8_either_57 f_X4_first f_X4_second
            simp only [bd]
            rw [hT3]
            simp only [bo]
            rw [e26]
            by_cases ej : nI j = 0
            · rw [if_pos ej, if_pos ej]
            · rw [if_neg ej, if_neg ej]
          refine fin _ T3 g' ans gd' c3 (fun U hU => ?_)
          obtain ⟨r, T, d1, d2, d3⟩ := prm U hU
          obtain ⟨d2, -⟩ := d2.resolve_left (fun q => q.2 hyes)
          have n9 : ¬ T.1 28 9 = (12 : Int32) := by
            rw [d1.2.2.2.2.2.2, show (12 : Int32) = nI 12 from rfl, nI_eq (by omega) (by omega)]; exact hE12
          have m9 : MI (sI T 28 9 ((T.1 28 9) + (1 : Int32))) g' := by
            obtain ⟨x1, x2, x3, x4, x5, x6, x7⟩ := d1
            have f0 : ∀ k, k ≠ 9 → (sI T 28 9 ((T.1 28 9) + (1 : Int32))).1 28 k = T.1 28 k := fun k hk => by simp [sI, hk]
            have fc : ∀ c, c ≠ 28 → (sI T 28 9 ((T.1 28 9) + (1 : Int32))).1 c = T.1 c := fun c hc => by funext k; simp [sI, hc]
            rw [hg']
            refine ⟨x1.keep (f0 18 (by omega)) (fc 35 (by omega)) (fc 36 (by omega)) (fc 37 (by omega)), ?_, fun k hk => (x3 k hk).keep (fc 30 (by omega)) (by rw [fc 31 (by omega)]), ?_, ?_, ?_, ?_⟩
            · rw [f0 2 (by omega), fc 32 (by omega), fc 33 (by omega), fc 38 (by omega), fc 39 (by omega)]; exact x2
            · rw [f0 0 (by omega), fc 29 (by omega)]; exact x4
            · rw [f0 7 (by omega)]; exact x5
            · rw [f0 8 (by omega)]; exact x6
            · show (sI T 28 9 ((T.1 28 9) + (1 : Int32))).1 28 9 = nI (g.2.2.2.2 + 1)
              rw [x7, nI_1]; simp [sI]
          obtain ⟨v, V, v1, v2, v3⟩ := now_m (n := n) hn gd' m9 (nI j)
          have v3' : EiW (Sol (gP g) (allM g.1.1)) (nI j) v := by rw [hg'] at v3; exact v3
          refine ⟨V, ?_, v2⟩
          rw [d3, if_neg (by rw [d2]; decide), if_neg n9, bo_some v1]
          have : v = (if nI j = 0 then T2.1 26 2 else T2.1 26 3) := v3'.uniq ⟨_, _, b2, rfl⟩
          rw [this]
        by_cases h15 : T1.1 0 15 = 0
        · rw [if_pos h15, bo_some (all_c a2)] at pre
          obtain ⟨T2, b1, b2, b3, b4⟩ := find_c (n := n) hn1 hg a2 h15 (allM g.1.1)
          rw [bo_some b1] at pre
          simp only [bd] at pre
          have e26 : ∀ k, (sI T2 0 15 1).1 26 k = T2.1 26 k := fun k => by simp [sI]
          have hp : PaC g (sI T2 0 15 1) := by unfold PaC; rw [e26, e26]; exact b4
          refine last _ ?_ hp pre
          obtain ⟨x1, x2, x3, -⟩ := b2
          have f0 : ∀ k, k ≠ 15 → (sI T2 0 15 1).1 0 k = T2.1 0 k := fun k hk => by simp [sI, hk]
          have fc : ∀ c, c ≠ 0 → (sI T2 0 15 1).1 c = T2.1 c := fun c hc => by funext k; simp [sI, hc]
          refine ⟨x1.keep (fun c hc => fc c (by omega)) (fun k hk => f0 k (by omega)), ?_, ?_, Or.inr hp⟩
          · rw [f0 12 (by omega)]
            exact x2.imp id (fun h => h.keep (fc 21 (by omega)) (fc 22 (by omega)) rfl)
          · unfold SoC at *
            rw [f0 13 (by omega), f0 14 (by omega)]; exact x3
        · rw [if_neg h15] at pre
          exact last T1 a2 (a2.2.2.2.resolve_left h15) pre
  · refine fin (-2000000003) S g ?_ hg hc (fun U hU => ⟨U, ?_, hU⟩)
    · unfold f_X8_either
      by_cases c : w < 0
      · rw [if_pos c]
      · rw [if_neg c, if_neg (fun q => ?_)]
        obtain ⟨j, hj, rfl⟩ := nI_of c
        have := ho.resolve_left c
        rw [nI_leI (by omega) hj] at this
        rw [show (1 : Int32) = nI 1 from rfl, nI_leI hj (by omega)] at q
        omega
    · unfold f_X9_either
      have w1 := wi_out (n := n) (S := U) (N := 2) ho (by omega)
      rw [c1] at w1
      rw [bo_some w1, if_pos rfl]
