/-! QUESTIONS on a term; the distance of two -/
theorem CI.lens {S : St} {g : Gh} (h : CI S g) : Lrec (tbl g.1.2 g.1.1) (S.1 10) := CT.len h.1.1
theorem q_termNow {n : Nat} {g : Gh} (hn : 110 ≤ n) (hg : Gd g) {k : Nat} {c : Prop} {rep : Nat → Nat} (hx : Out g k c rep) {f : Nat → Int32} (hf : Lrec (tbl g.1.2 g.1.1) f) {t j : Nat} (ht : t < (tbl g.1.2 g.1.1).1) (hj : j < 6) : ∃ v, cqA g (fun S => f_X8_term n S (nI t) (nI j)) v ∧ mqA g (fun S => f_X9_termNow n S (nI t) (nI j)) v := by
  have hwf := hg.wf
  have h10 := hg.1.2.2.2
  have hw := tbl_wf hg.1.2.1
  have hj' : j = 0 ∨ j = 1 ∨ j = 2 ∨ j = 3 ∨ j = 4 ∨ j = 5 := by omega
  rcases hj' with rfl | rfl | rfl | rfl | rfl | rfl
  · refine ⟨nI ((tbl g.1.2 g.1.1).2 t).1, fun S h => ⟨S, ?_, h⟩, fun S h => ⟨S, ?_, h, rfl⟩⟩
    · obtain ⟨⟨a, -⟩, -⟩ := h
      show f_X8_term n S (nI t) (nI 0) = _
      unfold f_X8_term
      rw [bo_some (has7 a.2.2.1 h10 ht), if_neg (by decide), if_pos (by decide), bo_some (kind7 a.2.2.1 h10 ht), a.2.2.2.1 t ht]
    · obtain ⟨a, -⟩ := h
      show f_X9_termNow n S (nI t) (nI 0) = _
      unfold f_X9_termNow
      rw [if_pos (by decide), if_neg (nI_bad (by omega) (by omega)), nI_c (by omega), a.2.2.2.1 t ht]
  · refine ⟨if t < 5 then -2000000001 else nI ((tbl g.1.2 g.1.1).2 t).2.1, fun S h => ⟨S, ?_, h⟩, fun S h => ⟨S, ?_, h, rfl⟩⟩
    · obtain ⟨⟨a, -⟩, -⟩ := h
      show f_X8_term n S (nI t) (nI 1) = _
      unfold f_X8_term
      rw [bo_some (has7 a.2.2.1 h10 ht), if_neg (by decide), if_neg (by decide), if_pos (by decide), bo_some (first7 a.2.2.1 h10 ht)]
      by_cases c : t < 5
      · rw [if_pos c, (a.2.2.2.2.2 t c).1]
      · rw [if_neg c, (a.2.2.2.2.1 t (by omega) ht).1]
    · obtain ⟨a, -⟩ := h
      show f_X9_termNow n S (nI t) (nI 1) = _
      unfold f_X9_termNow
      rw [if_neg (by decide), if_pos (by decide), if_neg (nI_bad (by omega) (by omega)), nI_c (by omega)]
      by_cases c : t < 5
      · rw [if_pos c, (a.2.2.2.2.2 t c).1]
      · rw [if_neg c, (a.2.2.2.2.1 t (by omega) ht).1]
  · refine ⟨if t < 5 then -2000000001 else sec ((tbl g.1.2 g.1.1).2 t), fun S h => ⟨S, ?_, h⟩, fun S h => ⟨S, ?_, h, rfl⟩⟩
    · obtain ⟨⟨a, -⟩, -⟩ := h
      show f_X8_term n S (nI t) (nI 2) = _
      unfold f_X8_term
      rw [bo_some (has7 a.2.2.1 h10 ht), if_neg (by decide), if_neg (by decide), if_neg (by decide), if_pos (by decide), bo_some (second7 a.2.2.1 h10 ht)]
      by_cases c : t < 5
      · rw [if_pos c, (a.2.2.2.2.2 t c).2.1]
      · rw [if_neg c, (a.2.2.2.2.1 t (by omega) ht).2.1]
    · obtain ⟨a, -⟩ := h
      show f_X9_termNow n S (nI t) (nI 2) = _
      unfold f_X9_termNow
      rw [if_neg (by decide), if_neg (by decide), if_pos (by decide), if_neg (nI_bad (by omega) (by omega)), nI_c (by omega)]
      by_cases c : t < 5
      · rw [if_pos c, (a.2.2.2.2.2 t c).2]
      · rw [if_neg c, (a.2.2.2.2.1 t (by omega) ht).2]
  · refine ⟨f t, fun S h => ⟨S, ?_, h⟩, fun S h => ?_⟩
    · have hl := Lrec.uniq hw h.lens hf (t + 1) t (by omega) ht
      obtain ⟨⟨a, -⟩, -⟩ := h
      show f_X8_term n S (nI t) (nI 3) = _
      unfold f_X8_term
      rw [bo_some (has7 a.2.2.1 h10 ht), if_neg (by decide), if_neg (by decide), if_neg (by decide), if_neg (by decide), if_pos (by decide), bo_some (length7 a.2.2.1 h10 ht), ← hl]
    · obtain ⟨T, a1, a2, a3⟩ := letters_m (n := n) (by omega) h.1 h10 hf ht
      refine ⟨T, ?_, h.keep (fun c hc _ => a2 c (by omega)) (fun j _ => by rw [a2 28 (by omega)]), by rw [a3]⟩
      show f_X9_termNow n S (nI t) (nI 3) = _
      unfold f_X9_termNow
      rw [if_neg (by decide), if_neg (by decide), if_neg (by decide), if_pos (by decide), bo_some a1]
  · refine ⟨nI (rep t), fun S h => ?_, fun S h => ?_⟩
    · obtain ⟨T, a1, a2, a3⟩ := ensure_c hn hg h
      obtain ⟨-, -, o⟩ := CEx.out hwf hx.1 a3
      refine ⟨T, ?_, a2⟩
      show f_X8_term n S (nI t) (nI 4) = _
      unfold f_X8_term f_X2_smallestSame
      rw [bo_some (has7 h.1.1.2.2.1 h10 ht), if_neg (by decide), if_neg (by decide), if_neg (by decide), if_neg (by decide), if_neg (by decide), if_pos (by decide), bo_some a1, if_neg (nI_pos (by omega)), if_neg (by rw [show (10 : Int32) = nI 10 from rfl, nI_leI (by omega) (by omega)]; omega), if_neg (nI_bad (by omega) (by omega)), nI_c (by omega), o t ht]
      rfl
    · obtain ⟨T, a1, a2, a3, a4⟩ := exq_m hn hg h
      obtain ⟨-, -, o⟩ := MEx.out hwf hx.1 a3
      refine ⟨T, ?_, a2, a4⟩
      show f_X9_termNow n S (nI t) (nI 4) = _
      unfold f_X9_termNow f_X9_sameAs
      rw [if_neg (by decide), if_neg (by decide), if_neg (by decide), if_neg (by decide), if_pos (by decide), bo_some a1, if_neg (nI_bad (by omega) (by omega)), nI_c (by omega), o t ht]
      rfl
  · refine ⟨nI (clN g.1.2 t g.1.1), fun S h => ⟨S, ?_, h⟩, fun S h => ⟨S, ?_, h, rfl⟩⟩
    · show f_X8_term n S (nI t) (nI 5) = _
      unfold f_X8_term
      rw [bo_some (has7 h.1.1.2.2.1 h10 ht), if_neg (by decide), if_neg (by decide), if_neg (by decide), if_neg (by decide), if_neg (by decide), if_neg (by decide), if_pos (by decide), bo_some (have_c (by omega) hg h (by omega))]
    · show f_X9_termNow n S (nI t) (nI 5) = _
      unfold f_X9_termNow
      rw [if_neg (by decide), if_neg (by decide), if_neg (by decide), if_neg (by decide), if_neg (by decide), bo_some (with_m (by omega) hg h (by omega))]
theorem q_term {n : Nat} {g : Gh} (hn : 110 ≤ n) (hg : Gd g) {k : Nat} {c : Prop} {rep : Nat → Nat} (hx : Out g k c rep) {f : Nat → Int32} (hf : Lrec (tbl g.1.2 g.1.1) f) (a w : Int32) : ∃ v, cqA g (fun S => f_X8_term n S a w) v ∧ mqA g (fun S => f_X9_term n S a w) v := by
  have h10 := hg.1.2.2.2
  have c5 : nI 6 - 1 = (5 : Int32) := by decide
  rcases rng a (tbl g.1.2 g.1.1).1 (by omega) with ⟨t, ht, rfl⟩ | ho
  · rcases rng w 6 (by omega) with ⟨j, hj, rfl⟩ | hw
    · obtain ⟨v, h1, h2⟩ := q_termNow (n := n) hn hg hx hf ht hj
      refine ⟨v, h1, fun S h => ?_⟩
      obtain ⟨T, a1, a2, a3⟩ := h2 S h
      refine ⟨T, ?_, a2, a3⟩
      show f_X9_term n S (nI t) (nI j) = _
      unfold f_X9_term
      have w1 := wi_in (n := n) (S := S) (t := j) (N := 6) hj (by omega)
      rw [c5] at w1
      rw [h.1.2.2.1, bo_some (wi_in ht (by omega)), if_neg (by decide), bo_some w1, if_neg (by decide), bo_some a1]
    · refine ⟨-2000000003, fun S h => ⟨S, ?_, h⟩, fun S h => ⟨S, ?_, h, rfl⟩⟩
      · show f_X8_term n S (nI t) w = _
        unfold f_X8_term
        rw [bo_some (has7 h.1.1.2.2.1 h10 ht), if_neg (by decide), if_neg (show ¬ w = (0 : Int32) from out_ne (k := 0) (by omega) (by omega) hw), if_neg (show ¬ w = (1 : Int32) from out_ne (k := 1) (by omega) (by omega) hw), if_neg (show ¬ w = (2 : Int32) from out_ne (k := 2) (by omega) (by omega) hw), if_neg (show ¬ w = (3 : Int32) from out_ne (k := 3) (by omega) (by omega) hw), if_neg (show ¬ w = (4 : Int32) from out_ne (k := 4) (by omega) (by omega) hw), if_neg (show ¬ w = (5 : Int32) from out_ne (k := 5) (by omega) (by omega) hw)]
      · show f_X9_term n S (nI t) w = _
        unfold f_X9_term
        have w1 := wi_out (n := n) (S := S) (N := 6) hw (by omega)
        rw [c5] at w1
        rw [h.1.2.2.1, bo_some (wi_in ht (by omega)), if_neg (by decide), bo_some w1, if_pos rfl]
  · refine ⟨-2000000002, fun S h => ⟨S, ?_, h⟩, fun S h => ⟨S, ?_, h, rfl⟩⟩
    · show f_X8_term n S a w = _
      unfold f_X8_term
      rw [bo_some (has7_out h.1.1.2.2.1 ho), if_pos rfl]
    · show f_X9_term n S a w = _
      unfold f_X9_term
      rw [h.1.2.2.1, bo_some (wi_out ho (by omega)), if_pos rfl]
/-! far -/
theorem ans_told {n : Nat} {S T : St} {x : Int64} (h : x.toInt ≠ FC) : ∃ v, f_X8_asAnswer n S x = some (v, S) ∧ f_X9_told n T x = some (v, T) := by
  unfold f_X8_asAnswer f_X9_told f_X8_isGreat f_X8_isGreat_16 f_X9_told_16
  rw [if_neg (by rw [c_eq, FCi]; exact h)]
  by_cases c1 : 0 < lg_cmp x (2000000000 : Int64)
  · rw [if_pos c1, if_pos c1]
    exact ⟨_, rfl, rfl⟩
  · rw [if_neg c1, if_neg c1]
    by_cases c2 : 0 ≤ lg_cmp x (-2000000000 : Int64)
    · rw [if_pos c2, if_pos c2]
      exact ⟨_, rfl, rfl⟩
    · rw [if_neg c2, if_neg c2]
      exact ⟨_, rfl, rfl⟩
theorem ans_none {n : Nat} {S : St} {x : Int64} (h : x.toInt = FC) : f_X8_asAnswer n S x = some (-2000000001, S) := by
  unfold f_X8_asAnswer
  rw [if_pos (by rw [c_eq, FCi]; exact h)]
/-- two terms, or not -/
theorem two_in {n N s t : Nat} {S : St} (hS : S.1 28 18 = nI N) (hN : N ≤ 10) (hs : s < N) (ht : t < N) : f_X9_areTerms n S (nI s) (nI t) = some (1, S) := by
  unfold f_X9_areTerms
  rw [hS, bo_some (wi_in hs (by omega)), if_neg (by decide), hS, bo_some (wi_in ht (by omega)), if_neg (by decide)]
theorem two_out {n N : Nat} {S : St} {a b : Int32} (hS : S.1 28 18 = nI N) (hN : N ≤ 10) (h : (a < 0 ∨ nI N ≤ a) ∨ ∃ s, s < N ∧ a = nI s ∧ (b < 0 ∨ nI N ≤ b)) : f_X9_areTerms n S a b = some (0, S) := by
  unfold f_X9_areTerms
  rcases h with h | ⟨s, hs, rfl, h⟩
  · rw [hS, bo_some (wi_out h (by omega)), if_pos rfl]
  · rw [hS, bo_some (wi_in hs (by omega)), if_neg (by decide), hS, bo_some (wi_out h (by omega)), if_pos rfl]
theorem two (a b : Int32) {N : Nat} (hN : N ≤ 10) : (∃ s t, s < N ∧ t < N ∧ a = nI s ∧ b = nI t) ∨ (a < 0 ∨ nI N ≤ a) ∨ ∃ s, s < N ∧ a = nI s ∧ (b < 0 ∨ nI N ≤ b) := by
  rcases rng a N (by omega) with ⟨s, hs, rfl⟩ | h
  · rcases rng b N (by omega) with ⟨t, ht, rfl⟩ | h
    · exact Or.inl ⟨s, t, hs, ht, rfl, rfl⟩
    · exact Or.inr (Or.inr ⟨s, hs, rfl, h⟩)
  · exact Or.inr (Or.inl h)
theorem op_far {n : Nat} {S : St} (hn : 110 ≤ n) (hI : Inv S) (a b : Int32) : OpOk (fun S => f_X8_far n S a b) (fun S => f_X9_far n S a b) S := by
  obtain ⟨g, hg, hc, hm⟩ := hI
  have hwf := hg.wf
  have h10 := hg.1.2.2.2
  have s6 := hc.1.1.2.2.1
  rcases two a b h10 with ⟨s, t, hs, ht, rfl, rfl⟩ | ho
  · obtain ⟨T, a1, a2, a3⟩ := ensure_c hn hg hc
    have hm2 : MI T g := hm.kp (fr_X8_ensureExchanged n S () T a1) (fun c hc h => by unfold wr_X8_ensureExchanged at h; omega)
    obtain ⟨V, b1, b2, b3, -⟩ := exq_m hn hg hm2
    have hc2 : CI V g := a2.kp (fr_X9_layExchange n T () V b1) (fun c hc h => by unfold wr_X9_layExchange at h; omega)
    obtain ⟨-, e2, -, e4⟩ := exch_both hwf a3 b3
    have ix : ((10 : Int32) * nI s) + nI t = nI (10 * s + t) := ixv
    have c01 : T.1 21 5 = 0 ∨ T.1 21 5 = 1 := by obtain ⟨k, r, -, -, -, -, -, f, -⟩ := a3; exact f
    have lc : f_X8_far n S (nI s) (nI t) = bo (f_X2_hasConflict n T) (fun (r_12 : Int32) (S_13 : St) => if r_12 = 0 then (bo (f_X2_distance n S_13 (nI s) (nI t)) fun (r_16 : Int64) (S_17 : St) => bo (f_X8_asAnswer n S_17 r_16) fun (r_19 : Int32) (S_20 : St) => some (r_19, S_20)) else some ((-2000000004 : Int32), S_13)) := by
      unfold f_X8_far
      rw [bo_some (has7 s6 h10 hs), if_neg (by decide), bo_some (has7 s6 h10 ht), if_neg (by decide), bo_some a1]
    have lm : f_X9_far n T (nI s) (nI t) = if (V.1 28 27) = 0 then (if (lg_cmp (V.2 42 (10 * s + t)) (1152921504606846976 : Int64)) = 0 then some ((-2000000001 : Int32), V) else bo (f_X9_told n V (V.2 42 (10 * s + t))) fun (r_12 : Int32) (S_13 : St) => some (r_12, S_13)) else some ((-2000000004 : Int32), V) := by
      unfold f_X9_far
      rw [bo_some (two_in hm2.1.2.2.1 h10 hs ht), if_neg (by decide), bo_some b1, ix]
      simp only [if_neg (nI_g (show 10 * s + t < 100 by omega) (by omega)), nI_c (show 10 * s + t < 2 ^ 31 by omega)]
    have ld : f_X2_distance n T (nI s) (nI t) = some (T.2 121 (s * 10 + t), T) := by
      unfold f_X2_distance
      rw [bo_some (between_c (q := 96) (by omega) (by omega))]
    rcases c01 with c0 | c1
    · obtain ⟨f1, f2, f3, f4⟩ := e4 c0 s t hs ht
      have lc2 : f_X8_far n S (nI s) (nI t) = f_X8_asAnswer n T (T.2 121 (s * 10 + t)) := by
        rw [lc]
        unfold f_X2_hasConflict
        rw [if_neg (by rw [c0]; decide)]
        simp only [bo]
        rw [if_pos c0, ld]
        simp only []
        cases f_X8_asAnswer n T (T.2 121 (s * 10 + t)) <;> rfl
      rw [e2] at c0
      rw [if_pos c0] at lm
      have eC : cM T 96 s t = (T.2 121 (s * 10 + t)).toInt := rfl
      have eW : wM V s t = (V.2 42 (10 * s + t)).toInt := rfl
      by_cases hf : cM T 96 s t < FC
      · have hq := f2 hf
        have ex : T.2 121 (s * 10 + t) = V.2 42 (10 * s + t) := Int64.toInt_inj.mp (by rw [← eC, ← eW]; exact hq)
        have hw := f1.mp hf
        obtain ⟨v, v1, v2⟩ := ans_told (n := n) (S := T) (T := V) (x := V.2 42 (10 * s + t)) (by rw [← eW, ← hq]; omega)
        refine ⟨v, T, V, ?_, ?_, g, hg, hc2, b2⟩
        · show f_X8_far n S (nI s) (nI t) = _
          rw [lc2, ex]; exact v1
        · show f_X9_far n T (nI s) (nI t) = _
          rw [lm, if_neg (by rw [c_eq, FMi, ← eW]; omega), bo_some v2]
      · have hw : ¬ wM V s t < FM := fun q => hf (f1.mpr q)
        refine ⟨-2000000001, T, V, ?_, ?_, g, hg, hc2, b2⟩
        · show f_X8_far n S (nI s) (nI t) = _
          rw [lc2]; exact ans_none (by rw [← eC]; omega)
        · show f_X9_far n T (nI s) (nI t) = _
          rw [lm, if_pos (by rw [c_eq, FMi, ← eW]; omega)]
    · refine ⟨-2000000004, T, V, ?_, ?_, g, hg, hc2, b2⟩
      · show f_X8_far n S (nI s) (nI t) = _
        rw [lc]
        unfold f_X2_hasConflict
        rw [if_neg (by rw [c1]; decide)]
        simp only [bo]
        rw [if_neg (by rw [c1]; decide)]
      · show f_X9_far n T (nI s) (nI t) = _
        rw [lm, if_neg (by rw [← e2, c1]; decide)]
  · refine ⟨-2000000002, S, S, ?_, ?_, g, hg, hc, hm⟩
    · show f_X8_far n S a b = _
      unfold f_X8_far
      rcases ho with h | ⟨s, hs, rfl, h⟩
      · rw [bo_some (has7_out s6 h), if_pos rfl]
      · rw [bo_some (has7 s6 h10 hs), if_neg (by decide), bo_some (has7_out s6 h), if_pos rfl]
    · show f_X9_far n S a b = _
      unfold f_X9_far
      rw [bo_some (two_out hm.1.2.2.1 h10 ho), if_pos rfl]
theorem op_exchange {n : Nat} {S : St} (hn : 110 ≤ n) (hI : Inv S) (a : Int32) : OpOk (fun S => f_X8_exchange n S a) (fun S => f_X9_exchange n S a) S := by
  obtain ⟨g, hg, hc, hm⟩ := hI
  obtain ⟨k, c, rep, hx⟩ := hc.outcome hn hg
  obtain ⟨v, q1, q2⟩ := q_exchange (n := n) hn hg hx a
  exact query hg hc hm q1 q2 (fun S r T h => fr_X8_exchange n S a r T h) (fun c hc h => by unfold wr_X8_exchange at h; omega) (fun S r T h => fr_X9_exchange n S a r T h) (fun c hc h => by unfold wr_X9_exchange at h; omega)
theorem op_term {n : Nat} {S : St} (hn : 110 ≤ n) (hI : Inv S) (a w : Int32) : OpOk (fun S => f_X8_term n S a w) (fun S => f_X9_term n S a w) S := by
  obtain ⟨g, hg, hc, hm⟩ := hI
  obtain ⟨k, c, rep, hx⟩ := hc.outcome hn hg
  obtain ⟨v, q1, q2⟩ := q_term (n := n) hn hg hx hc.lens a w
  exact query hg hc hm q1 q2 (fun S r T h => fr_X8_term n S a w r T h) (fun c hc h => by unfold wr_X8_term at h; omega) (fun S r T h => fr_X9_term n S a w r T h) (fun c hc h => by unfold wr_X9_term at h; omega)
theorem op_literal {n : Nat} {S : St} (hI : Inv S) (a w : Int32) : OpOk (fun S => f_X8_literal n S a w) (fun S => f_X9_literal n S a w) S := by
  obtain ⟨g, hg, hc, hm⟩ := hI
  obtain ⟨v, q1, q2⟩ := q_literal (n := n) hg a w
  exact query hg hc hm q1 q2 (fun S r T h => fr_X8_literal n S a w r T h) (fun c hc h => h) (fun S r T h => fr_X9_literal n S a w r T h) (fun c hc h => h)
theorem op_count {n : Nat} {S : St} (hI : Inv S) (a : Int32) : OpOk (fun S => f_X8_count n S a) (fun S => f_X9_count n S a) S := by
  obtain ⟨g, hg, hc, hm⟩ := hI
  obtain ⟨v, q1, q2⟩ := q_count (n := n) (g := g) a
  exact query hg hc hm q1 q2 (fun S r T h => fr_X8_count n S a r T h) (fun c hc h => h) (fun S r T h => fr_X9_count n S a r T h) (fun c hc h => h)
