/-! QUESTIONS on the exchange, terms, distances -/
theorem ensure_c {n : Nat} {S : St} {g : Gh} (hn : 110 ≤ n) (hg : Gd g) (h : CI S g) : ∃ T, f_X8_ensureExchanged n S = some ((), T) ∧ CI T g ∧ CXg g T := by
  unfold f_X8_ensureExchanged
  by_cases c : S.1 0 12 = 0
  · rw [if_pos c]
    obtain ⟨T, e, -, x⟩ := run_c hn (h.rep hg)
    have k := fr_X2_run n S () T e
    rw [bo_some e]
    simp only [bd]
    have kk : ∀ c, c ≠ 21 → c ≠ 22 → c ≠ 121 → T.1 c = S.1 c := fun c h1 h2 h3 => (k c (by unfold wr_X2_run; omega)).1
    have x2 : CXg g (sI T 0 12 1) := x.keep (by funext j; simp [sI]) (by funext j; simp [sI]) rfl
    obtain ⟨a1, -, a3, a4⟩ := h
    refine ⟨_, rfl, ⟨a1.keep (fun c hc => ?_) (fun j hj => ?_), Or.inr x2, ?_, ?_⟩, x2⟩
    · rw [← kk c (by omega) (by omega) (by omega)]; funext j; have : c ≠ 0 := by omega
      simp [sI, this]
    · have : j ≠ 12 := by omega
      rw [← kk 0 (by omega) (by omega) (by omega)]; simp [sI, this]
    · unfold SoC at *
      have e1 : (sI T 0 12 1).1 0 13 = S.1 0 13 := by rw [← kk 0 (by omega) (by omega) (by omega)]; simp [sI]
      have e2 : (sI T 0 12 1).1 0 14 = S.1 0 14 := by rw [← kk 0 (by omega) (by omega) (by omega)]; simp [sI]
      rw [e1, e2]; exact a3
    · unfold PaC at *
      have e1 : (sI T 0 12 1).1 0 15 = S.1 0 15 := by rw [← kk 0 (by omega) (by omega) (by omega)]; simp [sI]
      have e2 : ∀ j, (sI T 0 12 1).1 26 j = S.1 26 j := fun j => by rw [← kk 26 (by omega) (by omega) (by omega)]; simp [sI]
      rw [e1, e2, e2]; exact a4
  · rw [if_neg c]
    exact ⟨S, rfl, h, h.2.1.resolve_left c⟩
theorem exq_m {n : Nat} {S : St} {g : Gh} (hn : 110 ≤ n) (hg : Gd g) (h : MI S g) : ∃ T, f_X9_layExchange n S = some ((), T) ∧ MI T g ∧ MEx (gP g) (eqR (gP g) (nL (gP g))) 0 T ∧ T.2 28 47 = S.2 28 47 := by
  obtain ⟨T, a, -, c, d⟩ := exch_m hn (h.rep hg)
  have k := fr_X9_layExchange n S () T a
  exact ⟨T, a, h.keep (fun c hc _ => (k c (by unfold wr_X9_layExchange; omega)).1) (fun j hj => d.1 j (by omega) (by omega)), c, by rw [d.2]⟩
/-- what the exchange comes to, told by one outcome of it -/
theorem CEx.out {p : Pb} (hwf : PbWf p) {k : Nat} {c : Prop} {rep : Nat → Nat} {S : St} (hx : ExR p k (eqR p (nL p)) c rep) (h : CEx p (eqR p (nL p)) 0 S) : S.1 21 4 = nI k ∧ ((c ∧ S.1 21 5 = 1) ∨ (¬ c ∧ S.1 21 5 = 0)) ∧ ∀ t, t < nT p → S.1 22 t = nI (rep t) := by
  obtain ⟨k', r', a, b, -, d, -, f, -⟩ := h
  have hr := eqR_rp hwf (nL p) (Nat.le_refl _)
  obtain ⟨x, y, z⟩ := ExR.uniq hwf k' k _ _ _ c r' rep hr hr (fun _ _ => rfl) a hx
  have h10 := hwf.2.1
  refine ⟨by rw [b, x, Nat.zero_add], ?_, fun t ht => by rw [d.1 t (by omega), z t ht]⟩
  rcases f with f | f
  · exact Or.inr ⟨fun hc => absurd (f.symm.trans (y.mpr hc)) (by decide), f⟩
  · exact Or.inl ⟨y.mp f, f⟩
theorem MEx.out {p : Pb} (hwf : PbWf p) {k : Nat} {c : Prop} {rep : Nat → Nat} {S : St} (hx : ExR p k (eqR p (nL p)) c rep) (h : MEx p (eqR p (nL p)) 0 S) : S.1 28 28 = nI k ∧ ((c ∧ S.1 28 27 = 1) ∨ (¬ c ∧ S.1 28 27 = 0)) ∧ ∀ t, t < nT p → S.1 41 t = nI (rep t) := by
  obtain ⟨k', r', a, b, d, -, f, -⟩ := h
  have hr := eqR_rp hwf (nL p) (Nat.le_refl _)
  obtain ⟨x, y, z⟩ := ExR.uniq hwf k' k _ _ _ c r' rep hr hr (fun _ _ => rfl) a hx
  refine ⟨by rw [b, x, Nat.zero_add], ?_, fun t ht => by rw [d t ht, z t ht]⟩
  rcases f with f | f
  · exact Or.inr ⟨fun hc => absurd (f.symm.trans (y.mpr hc)) (by decide), f⟩
  · exact Or.inl ⟨y.mp f, f⟩
def Out (g : Gh) (k : Nat) (c : Prop) (rep : Nat → Nat) : Prop := ExR (gP g) k (eqR (gP g) (nL (gP g))) c rep ∧ ∀ t, t < nT (gP g) → rep t ≤ t
theorem CI.outcome {n : Nat} {S : St} {g : Gh} (hn : 110 ≤ n) (hg : Gd g) (h : CI S g) : ∃ k c rep, Out g k c rep := by
  obtain ⟨T, -, -, k, r, a, -, -, -, e, -⟩ := ensure_c hn hg h
  exact ⟨k, _, r, a, fun t ht => (e t ht).1⟩
theorem classes_c {n N : Nat} {S : St} {rep : Nat → Nat} (hn : 12 ≤ n) (hN : N ≤ 10) (hS : S.1 6 4 = nI N) (hr : ∀ t, t < N → rep t ≤ t) (h : ∀ t, t < N → S.1 22 t = nI (rep t)) : f_X2_classes n S = some (nI (cnt rep N), S) := by
  unfold f_X2_classes
  simp only [bd]
  refine for_up2' (α := Int32 × St) (β := Int32) (f_X2_classes_4 n) (fun _ _ _ => none) N (fun i T a => T = S ∧ a = nI (cnt rep i)) (fun o => o = some (nI (cnt rep N), S)) ?_ ?_ n 0 S 0 (by omega) (by omega) ⟨rfl, rfl⟩
  · rintro i T a k hi ⟨rfl, rfl⟩
    right
    unfold f_X2_classes_4 f_X7_size f_X2_classes_34
    simp only [bo, bd]
    have hri := hr i hi
    rw [hS, if_neg (by rw [nI_leI (by omega) (by omega)]; omega), if_neg (by rw [show (10 : Int32) = nI 10 from rfl, nI_leI (by omega) (by omega)]; omega), if_neg (nI_bad (by omega) (by omega)), nI_c (by omega), h i hi, nI_1, nI_1]
    by_cases c : rep i = i
    · rw [if_pos (by rw [c])]
      exact ⟨T, _, ⟨rfl, by simp only [cnt]; rw [if_pos c]⟩, rfl⟩
    · rw [if_neg (by rw [nI_eq (by omega) (by omega)]; exact c)]
      exact ⟨T, _, ⟨rfl, by simp only [cnt]; rw [if_neg c]; rfl⟩, rfl⟩
  · rintro T a k ⟨rfl, rfl⟩
    unfold f_X2_classes_4 f_X7_size
    simp only [bo]
    rw [hS, if_pos (by rw [nI_leI (by omega) (by omega)]; omega)]
theorem sets_m {n N : Nat} {S : St} {rep : Nat → Nat} (hn : 12 ≤ n) (hN : N ≤ 10) (hS : S.1 28 18 = nI N) (hr : ∀ t, t < N → rep t ≤ t) (h : ∀ t, t < N → S.1 41 t = nI (rep t)) : f_X9_sameSets n S = some (nI (cnt rep N), S) := by
  unfold f_X9_sameSets
  simp only [bd]
  refine for_up2' (α := Int32 × St) (β := Int32) (f_X9_sameSets_4 n) (fun _ _ _ => none) N (fun i T a => T = S ∧ a = nI (cnt rep i)) (fun o => o = some (nI (cnt rep N), S)) ?_ ?_ n 0 S 0 (by omega) (by omega) ⟨rfl, rfl⟩
  · rintro i T a k hi ⟨rfl, rfl⟩
    right
    unfold f_X9_sameSets_4 f_X9_sameSets_28
    simp only [bd]
    have hri := hr i hi
    rw [hS, if_neg (by rw [nI_leI (by omega) (by omega)]; omega), if_neg (nI_bad (by omega) (by omega)), nI_c (by omega), h i hi, nI_1, nI_1]
    by_cases c : rep i = i
    · rw [if_pos (by rw [c])]
      exact ⟨T, _, ⟨rfl, by simp only [cnt]; rw [if_pos c]⟩, rfl⟩
    · rw [if_neg (by rw [nI_eq (by omega) (by omega)]; exact c)]
      exact ⟨T, nI (cnt rep i), ⟨rfl, by simp only [cnt]; rw [if_neg c]; rfl⟩, by rw [Int32.add_zero]⟩
  · rintro T a k ⟨rfl, rfl⟩
    unfold f_X9_sameSets_4
    rw [hS, if_pos (by rw [nI_leI (by omega) (by omega)]; omega)]
theorem q_exNow {n : Nat} {g : Gh} (hn : 110 ≤ n) (hg : Gd g) {k : Nat} {c : Prop} {rep : Nat → Nat} (hx : Out g k c rep) {j : Nat} (hj : j < 3) : ∃ v, cqA g (fun S => f_X8_exchange n S (nI j)) v ∧ mqA g (fun S => f_X9_exchangeNow n S (nI j)) v := by
  have hwf := hg.wf
  have h10 := hwf.2.1
  have hj' : j = 0 ∨ j = 1 ∨ j = 2 := by omega
  have cls : ∀ S, CI S g → ∃ T, f_X8_ensureExchanged n S = some ((), T) ∧ CI T g ∧ (T.1 21 4 = nI k ∧ ((c ∧ T.1 21 5 = 1) ∨ (¬ c ∧ T.1 21 5 = 0)) ∧ ∀ t, t < nT (gP g) → T.1 22 t = nI (rep t)) := fun S h => by
    obtain ⟨T, a, b, d⟩ := ensure_c hn hg h
    exact ⟨T, a, b, CEx.out hwf hx.1 d⟩
  have mdl : ∀ S, MI S g → ∃ T, f_X9_layExchange n S = some ((), T) ∧ MI T g ∧ T.2 28 47 = S.2 28 47 ∧ (T.1 28 28 = nI k ∧ ((c ∧ T.1 28 27 = 1) ∨ (¬ c ∧ T.1 28 27 = 0)) ∧ ∀ t, t < nT (gP g) → T.1 41 t = nI (rep t)) := fun S h => by
    obtain ⟨T, a, b, d, f⟩ := exq_m hn hg h
    exact ⟨T, a, b, f, MEx.out hwf hx.1 d⟩
  rcases hj' with rfl | rfl | rfl
  · rcases Classical.em c with hc | hc
    · refine ⟨1, fun S h => ?_, fun S h => ?_⟩
      · obtain ⟨T, a, b, -, d, -⟩ := cls S h
        have d := (d.resolve_right (fun q => q.1 hc)).2
        refine ⟨T, ?_, b⟩
        show f_X8_exchange n S (nI 0) = _
        unfold f_X8_exchange f_X2_hasConflict
        rw [if_neg (by decide), if_pos (by decide), bo_some a, if_pos (by decide), d, if_neg (by decide)]
        rfl
      · obtain ⟨T, a, b, f, -, d, -⟩ := mdl S h
        have d := (d.resolve_right (fun q => q.1 hc)).2
        refine ⟨T, ?_, b, f⟩
        show f_X9_exchangeNow n S (nI 0) = _
        unfold f_X9_exchangeNow
        rw [bo_some a, if_pos (by decide), d, if_neg (by decide)]
    · refine ⟨0, fun S h => ?_, fun S h => ?_⟩
      · obtain ⟨T, a, b, -, d, -⟩ := cls S h
        have d := (d.resolve_left (fun q => hc q.1)).2
        refine ⟨T, ?_, b⟩
        show f_X8_exchange n S (nI 0) = _
        unfold f_X8_exchange f_X2_hasConflict
        rw [if_neg (by decide), if_pos (by decide), bo_some a, if_pos (by decide), d, if_neg (by decide)]
        rfl
      · obtain ⟨T, a, b, f, -, d, -⟩ := mdl S h
        have d := (d.resolve_left (fun q => hc q.1)).2
        refine ⟨T, ?_, b, f⟩
        show f_X9_exchangeNow n S (nI 0) = _
        unfold f_X9_exchangeNow
        rw [bo_some a, if_pos (by decide), d, if_pos rfl]
  · refine ⟨nI k, fun S h => ?_, fun S h => ?_⟩
    · obtain ⟨T, a, b, d, -, -⟩ := cls S h
      refine ⟨T, ?_, b⟩
      show f_X8_exchange n S (nI 1) = _
      unfold f_X8_exchange f_X2_rounds
      rw [if_neg (by decide), if_pos (by decide), bo_some a, if_neg (by decide), if_pos (by decide), d]
      rfl
    · obtain ⟨T, a, b, f, d, -, -⟩ := mdl S h
      refine ⟨T, ?_, b, f⟩
      show f_X9_exchangeNow n S (nI 1) = _
      unfold f_X9_exchangeNow
      rw [bo_some a, if_neg (by decide), if_pos (by decide), d]
  · refine ⟨nI (cnt rep (nT (gP g))), fun S h => ?_, fun S h => ?_⟩
    · obtain ⟨T, a, b, -, -, d⟩ := cls S h
      refine ⟨T, ?_, b⟩
      show f_X8_exchange n S (nI 2) = _
      unfold f_X8_exchange
      rw [if_neg (by decide), if_pos (by decide), bo_some a, if_neg (by decide), if_neg (by decide), bo_some (classes_c (by omega) h10 b.1.1.2.2.1 hx.2 d)]
    · obtain ⟨T, a, b, f, -, -, d⟩ := mdl S h
      refine ⟨T, ?_, b, f⟩
      show f_X9_exchangeNow n S (nI 2) = _
      unfold f_X9_exchangeNow
      rw [bo_some a, if_neg (by decide), if_neg (by decide), bo_some (sets_m (by omega) h10 b.1.2.2.1 hx.2 d)]
theorem q_exchange {n : Nat} {g : Gh} (hn : 110 ≤ n) (hg : Gd g) {k : Nat} {c : Prop} {rep : Nat → Nat} (hx : Out g k c rep) (a : Int32) : ∃ v, cqA g (fun S => f_X8_exchange n S a) v ∧ mqA g (fun S => f_X9_exchange n S a) v := by
  have c3 : nI 3 - 1 = (2 : Int32) := by decide
  rcases rng a 3 (by omega) with ⟨j, hj, rfl⟩ | ho
  · obtain ⟨v, h1, h2⟩ := q_exNow (n := n) hn hg hx hj
    refine ⟨v, h1, fun S h => ?_⟩
    obtain ⟨T, a1, a2, a3⟩ := h2 S h
    refine ⟨T, ?_, a2, a3⟩
    show f_X9_exchange n S (nI j) = _
    unfold f_X9_exchange
    have w1 := wi_in (n := n) (S := S) (t := j) (N := 3) hj (by omega)
    rw [c3] at w1
    rw [bo_some w1, if_neg (by decide), bo_some a1]
  · refine ⟨-2000000003, fun S h => ⟨S, ?_, h⟩, fun S h => ⟨S, ?_, h, rfl⟩⟩
    · show f_X8_exchange n S a = _
      unfold f_X8_exchange
      by_cases c : a < 0
      · rw [if_pos c]
      · rw [if_neg c, if_neg (fun q => ?_)]
        obtain ⟨j, hj, rfl⟩ := nI_of c
        have := ho.resolve_left c
        rw [nI_leI (by omega) hj] at this
        rw [show (2 : Int32) = nI 2 from rfl, nI_leI hj (by omega)] at q
        omega
    · show f_X9_exchange n S a = _
      unfold f_X9_exchange
      have w1 := wi_out (n := n) (S := S) (N := 3) ho (by omega)
      rw [c3] at w1
      rw [bo_some w1, if_pos rfl]
/-! a term's length; in how many literals it stands -/
def Lrec (tb : Tb) (f : Nat → Int32) : Prop := ∀ t, t < tb.1 → f t = if (tb.2 t).1 = 0 then 1 else if (tb.2 t).1 = 1 then f (tb.2 t).2.1 + 3 else f (tb.2 t).2.1 + f (tb.2 t).2.2 + 4
theorem Lrec.uniq {tb : Tb} (hw : TbWf tb) {f h : Nat → Int32} (hf : Lrec tb f) (hh : Lrec tb h) : ∀ d t, t < d → t < tb.1 → f t = h t := by
  intro d
  induction d with
  | zero => intro t h; omega
  | succ d ih =>
    intro t hd ht
    rw [hf t ht, hh t ht]
    by_cases c : t < 5
    · rw [if_pos (hw.2.1 t c), if_pos (hw.2.1 t c)]
    · rcases hw.2.2.1 t (by omega) ht with ⟨a, b, -⟩ | ⟨a, b, b2⟩
      · rw [ih _ (by omega) (by omega), if_pos a, if_pos a]
      · rw [ih _ (show (tb.2 t).2.1 < d by omega) (by omega), ih _ (show (tb.2 t).2.2 < d by omega) (by omega)]
theorem letters_m {n t : Nat} {S : St} {tb : Tb} (hn : 30 ≤ n) (h : MT S tb) (h10 : tb.1 ≤ 10) {f : Nat → Int32} (hf : Lrec tb f) (ht : t < tb.1) : ∃ T, f_X9_lettersIn n S (nI t) = some (f t, T) ∧ (∀ c, c ≠ 49 → T.1 c = S.1 c) ∧ T.2 = S.2 := by
  obtain ⟨hw, -, h18, h35, h36, -⟩ := h
  unfold f_X9_lettersIn
  simp only [bd]
  refine for_up (α := Int32 × St) (f_X9_lettersIn_2 n (nI t)) (fun _ _ => none) (t + 1) (fun i T => (∀ j, j < i → T.1 49 j = f j) ∧ (∀ c, c ≠ 49 → T.1 c = S.1 c) ∧ T.2 = S.2) (fun o => ∃ T, o = some (f t, T) ∧ (∀ c, c ≠ 49 → T.1 c = S.1 c) ∧ T.2 = S.2) ?_ ?_ n 0 S (by omega) (by omega) ⟨fun j hj => by omega, fun _ _ => rfl, rfl⟩
  · rintro i T k hi ⟨q1, q2, q3⟩
    right
    have hit : i < tb.1 := by omega
    unfold f_X9_lettersIn_2 f_X9_lettersIn_76
    rw [if_neg (nI_nlt (by omega) (by omega))]
    simp only [bd, if_neg (nI_g (show i < 64 by omega) (by omega)), if_neg (nI_g (show i < 10 by omega) (by omega)), nI_c (show i < 2 ^ 31 by omega), q2 35 (by omega), q2 36 (by omega), q2 37 (by omega), nI_1]
    have nxt : ∀ v, v = f i → ∃ S', ((∀ j, j < i + 1 → S'.1 49 j = f j) ∧ (∀ c, c ≠ 49 → S'.1 c = S.1 c) ∧ S'.2 = S.2) ∧ k (sI T 49 i v) (nI (i + 1)) = k S' (nI (i + 1)) := fun v hv => by
      refine ⟨sI T 49 i v, ⟨fun j hj => ?_, fun c hc => ?_, q3⟩, rfl⟩
      · by_cases e : j = i
        · subst e; simp [sI, hv]
        · have := q1 j (by omega)
          simp [sI, e, this]
      · rw [← q2 c hc]; funext j; simp [sI, hc]
    have fi := hf i hit
    rw [h35 i hit]
    by_cases c : i < 5
    · rw [if_pos (by rw [hw.2.1 i c]; rfl)]
      exact nxt _ (by rw [fi, if_pos (hw.2.1 i c)])
    · obtain ⟨g1, g2⟩ := h36 i (by omega) hit
      rcases hw.2.2.1 i (by omega) hit with ⟨a, b, -⟩ | ⟨a, b, b2⟩
      · rw [if_neg (by rw [a]; decide), if_pos (by rw [a]; rfl), g1, if_neg (nI_bad (by omega) (by omega)), nI_c (by omega), q1 _ b]
        exact nxt _ (by rw [fi, if_neg (by omega), if_pos a, Int32.add_comm])
      · have es : sec (tb.2 i) = nI (tb.2 i).2.2 := by unfold sec; rw [if_pos a]
        rw [if_neg (by rw [a]; decide), if_neg (by rw [a]; decide), g1, g2, es, if_neg (nI_bad (by omega) (by omega)), if_neg (nI_bad (by omega) (by omega)), nI_c (by omega), nI_c (by omega), q1 _ b, q1 _ b2]
        exact nxt _ (by rw [fi, if_neg (by omega), if_neg (by omega), Int32.add_assoc, Int32.add_comm])
  · rintro T k ⟨q1, q2, q3⟩
    unfold f_X9_lettersIn_2
    rw [if_pos (nI_lt (by omega) (by omega)), if_neg (nI_bad (by omega) (by omega)), nI_c (by omega), q1 t (by omega)]
    exact ⟨T, rfl, q2, q3⟩
def clN (G : Gl) (t : Nat) : Nat → Nat
  | 0 => 0
  | k + 1 => clN G t k + (if lft G k = t ∨ rgt G k = t then 1 else 0)
theorem have_c {n t : Nat} {S : St} {g : Gh} (hn : 30 ≤ n) (hg : Gd g) (h : CI S g) (ht : t < 2 ^ 31) : f_X3_howManyHave n S (nI t) = some (nI (clN g.1.2 t g.1.1), S) := by
  obtain ⟨⟨-, ⟨a2, a3⟩, -⟩, -⟩ := h
  have hL := hg.1.1
  unfold f_X3_howManyHave
  simp only [bd]
  refine for_up2' (α := Int32 × St) (β := Int32) (f_X3_howManyHave_4 n (nI t)) (fun _ _ _ => none) g.1.1 (fun i T a => T = S ∧ a = nI (clN g.1.2 t i)) (fun o => o = some (nI (clN g.1.2 t g.1.1), S)) ?_ ?_ n 0 S 0 (by omega) (by omega) ⟨rfl, rfl⟩
  · rintro i T a k hi ⟨rfl, rfl⟩
    right
    obtain ⟨-, b2, b3, -⟩ := a3 i hi
    obtain ⟨l1, l2, -, -⟩ := tbl_lit hi hg.1.2.1
    have l3 := hg.1.2.2.2
    unfold f_X3_howManyHave_4 f_X3_howManyHave_38 f_X3_howManyHave_41
    simp only [bd, if_neg (nI_g (show i < 10 by omega) (by omega)), nI_c (show i < 2 ^ 31 by omega), nI_1]
    rw [a2, b2, b3, if_neg (by rw [nI_leI (by omega) (by omega)]; omega), if_neg (by rw [show (10 : Int32) = nI 10 from rfl, nI_leI (by omega) (by omega)]; omega)]
    by_cases c1 : lft g.1.2 i = t
    · rw [if_pos (by rw [c1])]
      exact ⟨T, _, ⟨rfl, by simp only [clN]; rw [if_pos (Or.inl c1)]⟩, rfl⟩
    · rw [if_neg (by rw [nI_eq (by omega) ht]; exact c1)]
      by_cases c2 : rgt g.1.2 i = t
      · rw [if_pos (by rw [c2])]
        exact ⟨T, _, ⟨rfl, by simp only [clN]; rw [if_pos (Or.inr c2)]⟩, rfl⟩
      · rw [if_neg (by rw [nI_eq (by omega) ht]; exact c2)]
        exact ⟨T, _, ⟨rfl, by simp only [clN]; rw [if_neg (by omega)]; rfl⟩, rfl⟩
  · rintro T a k ⟨rfl, rfl⟩
    unfold f_X3_howManyHave_4
    rw [a2, if_pos (by rw [nI_leI (by omega) (by omega)]; omega)]
theorem with_m {n t : Nat} {S : St} {g : Gh} (hn : 30 ≤ n) (hg : Gd g) (h : MI S g) (ht : t < 2 ^ 31) : f_X9_literalsWith n S (nI t) = some (nI (clN g.1.2 t g.1.1), S) := by
  obtain ⟨-, ⟨a2, a3⟩, -⟩ := h
  have hL := hg.1.1
  unfold f_X9_literalsWith
  simp only [bd]
  refine for_up2' (α := Int32 × St) (β := Int32) (f_X9_literalsWith_4 n (nI t)) (fun _ _ _ => none) g.1.1 (fun i T a => T = S ∧ a = nI (clN g.1.2 t i)) (fun o => o = some (nI (clN g.1.2 t g.1.1), S)) ?_ ?_ n 0 S 0 (by omega) (by omega) ⟨rfl, rfl⟩
  · rintro i T a k hi ⟨rfl, rfl⟩
    right
    obtain ⟨-, b2, b3, -⟩ := a3 i hi
    obtain ⟨l1, l2, -, -⟩ := tbl_lit hi hg.1.2.1
    have l3 := hg.1.2.2.2
    unfold f_X9_literalsWith_4 f_X9_literalsWith_33 f_X9_literalsWith_38
    simp only [bd, if_neg (nI_g (show i < 10 by omega) (by omega)), nI_c (show i < 2 ^ 31 by omega), nI_1, Int32.add_zero]
    rw [a2, b2, b3, if_neg (by rw [nI_leI (by omega) (by omega)]; omega)]
    by_cases c1 : lft g.1.2 i = t
    · rw [if_pos (by rw [c1])]
      exact ⟨T, _, ⟨rfl, by simp only [clN]; rw [if_pos (Or.inl c1)]⟩, rfl⟩
    · rw [if_neg (by rw [nI_eq (by omega) ht]; exact c1)]
      by_cases c2 : rgt g.1.2 i = t
      · rw [if_pos (by rw [c2])]
        exact ⟨T, _, ⟨rfl, by simp only [clN]; rw [if_pos (Or.inr c2)]⟩, rfl⟩
      · rw [if_neg (by rw [nI_eq (by omega) ht]; exact c2)]
        exact ⟨T, _, ⟨rfl, by simp only [clN]; rw [if_neg (by omega)]; rfl⟩, rfl⟩
  · rintro T a k ⟨rfl, rfl⟩
    unfold f_X9_literalsWith_4
    rw [a2, if_pos (by rw [nI_leI (by omega) (by omega)]; omega)]
