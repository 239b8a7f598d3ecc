/-! letter, blank, fault, scale -/
theorem CI.page {S T : St} {g : Gh} {P : Nat} {pg : Nat → Nat} (h : CI S g) (fc : ∀ c, c ≠ 0 → c ≠ 1 → T.1 c = S.1 c) (f0 : ∀ k, k ≠ 1 → T.1 0 k = S.1 0 k) (e2 : T.2 = S.2) (hp : T.1 0 1 = nI P ∧ ∀ i, i < P → T.1 1 i = nI (pg i)) : CI T (g.1, (P, pg), g.2.2) := by
  obtain ⟨⟨y1, y2, -, y4, y5, y6⟩, x2, x3, x4⟩ := h
  refine ⟨⟨y1.keep (by rw [fc 6 (by omega) (by omega)]) (fc 7 (by omega) (by omega)) (fc 8 (by omega) (by omega)) (fc 9 (by omega) (by omega)) (fc 10 (by omega) (by omega)), ?_, hp, ?_, ?_, ?_⟩, ?_, ?_, ?_⟩
  · rw [fc 16 (by omega) (by omega), fc 17 (by omega) (by omega), fc 18 (by omega) (by omega), fc 19 (by omega) (by omega), fc 20 (by omega) (by omega)]; exact y2
  · rw [f0 9 (by omega)]; exact y4
  · rw [f0 10 (by omega)]; exact y5
  · rw [f0 11 (by omega)]; exact y6
  · rw [f0 12 (by omega)]
    exact x2.imp id (fun h => h.keep (fc 21 (by omega) (by omega)) (fc 22 (by omega) (by omega)) (by rw [e2]))
  · unfold SoC at *
    rw [f0 13 (by omega), f0 14 (by omega)]; exact x3
  · unfold PaC at *
    rw [f0 15 (by omega), fc 26 (by omega) (by omega)]; exact x4
theorem MI.page {S T : St} {g : Gh} {P : Nat} {pg : Nat → Nat} (h : MI S g) (fc : ∀ c, c ≠ 28 → c ≠ 29 → T.1 c = S.1 c) (f0 : ∀ k, k ≠ 0 → T.1 28 k = S.1 28 k) (hp : T.1 28 0 = nI P ∧ ∀ i, i < P → T.1 29 i = nI (pg i)) : MI T (g.1, (P, pg), g.2.2) := by
  obtain ⟨x1, x2, x3, -, x5, x6, x7⟩ := h
  refine ⟨x1.keep (f0 18 (by omega)) (fc 35 (by omega) (by omega)) (fc 36 (by omega) (by omega)) (fc 37 (by omega) (by omega)), ?_, fun k hk => (x3 k hk).keep (fc 30 (by omega) (by omega)) (by rw [fc 31 (by omega) (by omega)]), hp, ?_, ?_, ?_⟩
  · rw [f0 2 (by omega), fc 32 (by omega) (by omega), fc 33 (by omega) (by omega), fc 38 (by omega) (by omega), fc 39 (by omega) (by omega)]; exact x2
  · rw [f0 7 (by omega)]; exact x5
  · rw [f0 8 (by omega)]; exact x6
  · rw [f0 9 (by omega)]; exact x7
/-- what the class does to its own cells leaves the reference's alone, and the other way -/
theorem step_both {g g' : Gh} {S T V : St} {r : Int32} {fc fm : St → Option (Int32 × St)} {wc wm : Nat → Prop} (hg : Gd g') (hm : MI S g) (ec : fc S = some (r, T)) (hc : CI T g') (kc : Keeps wc S T) (hwc : ∀ c, 28 ≤ c ∧ c ≤ 39 → ¬ wc c) (em : MI T g → fm T = some (r, V) ∧ MI V g' ∧ Keeps wm T V) (hwm : ∀ c, c ≤ 22 ∨ c = 26 ∨ c = 121 → ¬ wm c) : OpOk fc fm S := by
  obtain ⟨a, b, c⟩ := em (hm.kp kc hwc)
  exact ⟨r, T, V, ec, a, g', hg, hc.kp c hwm, b⟩
theorem op_letter {n : Nat} {S : St} (hI : Inv S) (a : Int32) : OpOk (fun S => f_X8_letter n S a) (fun S => f_X9_letter n S a) S := by
  obtain ⟨g, hg, hc, hm⟩ := hI
  have hP := hg.2.1.1
  have p1 := hc.1.2.2.1.1
  have p2 := hm.2.2.2.1.1
  by_cases c1 : a < 32
  · refine ⟨-2000000003, S, S, ?_, ?_, g, hg, hc, hm⟩
    · show f_X8_letter n S a = _
      unfold f_X8_letter
      rw [if_pos c1]
    · show f_X9_letter n S a = _
      unfold f_X9_letter f_X9_within
      rw [if_pos c1]
      rfl
  · have a0 : ¬ a < 0 := fun h => c1 (by
      rw [Int32.lt_iff_toInt_lt] at h ⊢
      rw [show (32 : Int32).toInt = 32 by decide]
      rw [show (0 : Int32).toInt = 0 by decide] at h
      omega)
    obtain ⟨j, hj, rfl⟩ := nI_of a0
    have j32 : 32 ≤ j := by
      rw [show (32 : Int32) = nI 32 from rfl, nI_ltI hj (by omega)] at c1; omega
    have lt126 : (126 : Int32) < nI j ↔ 126 < j := by rw [show (126 : Int32) = nI 126 from rfl, nI_ltI (by omega) hj]
    have le126 : nI j ≤ (126 : Int32) ↔ j ≤ 126 := by rw [show (126 : Int32) = nI 126 from rfl, nI_leI hj (by omega)]
    by_cases c2 : j ≤ 126
    · by_cases c3 : g.2.1.1 = 40
      · refine ⟨-2000000005, S, S, ?_, ?_, g, hg, hc, hm⟩
        · show f_X8_letter n S (nI j) = _
          unfold f_X8_letter
          rw [if_neg c1, if_pos (le126.mpr c2), p1, c3, if_neg (by decide), if_neg (by decide)]
        · show f_X9_letter n S (nI j) = _
          unfold f_X9_letter f_X9_within
          rw [if_neg c1, if_neg (fun h => by rw [lt126] at h; omega)]
          simp only [bo]
          rw [if_neg (by decide), p2, c3, if_pos (by decide)]
      · have hlt : g.2.1.1 < 40 := by omega
        have l40 : nI g.2.1.1 < (40 : Int32) := by rw [show (40 : Int32) = nI 40 from rfl, nI_ltI (by omega) (by omega)]; exact hlt
        have n40 : ¬ nI g.2.1.1 = (40 : Int32) := by rw [show (40 : Int32) = nI 40 from rfl, nI_eq (by omega) (by omega)]; exact c3
        generalize hT : sI (sI S 1 g.2.1.1 (nI j)) 0 1 (nI (g.2.1.1 + 1)) = T
        generalize hV : sI (sI T 29 g.2.1.1 (nI j)) 28 0 (nI (g.2.1.1 + 1)) = V
        have ec : f_X8_letter n S (nI j) = some (nI (g.2.1.1 + 1), T) := by
          unfold f_X8_letter
          rw [if_neg c1, if_pos (le126.mpr c2), p1, if_neg (nI_pos (by omega)), if_pos l40, if_neg (nI_bad hlt (by omega)), nI_c (by omega)]
          simp only [bd]
          have e1 : (sI S 1 g.2.1.1 (nI j)).1 0 1 = nI g.2.1.1 := by rw [← p1]; simp [sI]
          rw [e1, nI_1, hT, ← hT]
          simp [sI]
        have cT : CI T (g.1, (g.2.1.1 + 1, fun i => if i = g.2.1.1 then j else g.2.1.2 i), g.2.2) := by
          refine hc.page (fun c h1 h2 => by rw [← hT]; funext k; simp [sI, h1, h2]) (fun k hk => by rw [← hT]; simp [sI, hk]) (by rw [← hT]; rfl) ⟨by rw [← hT]; simp [sI], fun i hi => ?_⟩
          by_cases e : i = g.2.1.1
          · rw [if_pos e, ← hT]; simp [sI, e]
          · rw [if_neg e, ← hc.1.2.2.1.2 i (by omega), ← hT]; simp [sI, e]
        have gd' : Gd (g.1, (g.2.1.1 + 1, fun i => if i = g.2.1.1 then j else g.2.1.2 i), g.2.2) := by
          refine ⟨hg.1, ⟨by show g.2.1.1 + 1 ≤ 40; omega, fun i hi => ?_⟩, hg.2.2⟩
          show (if i = g.2.1.1 then j else g.2.1.2 i) < 127
          by_cases e : i = g.2.1.1
          · rw [if_pos e]; omega
          · rw [if_neg e]; exact hg.2.1.2 i (by have : i < g.2.1.1 + 1 := hi; omega)
        refine step_both (wc := wr_X8_letter) (wm := wr_X9_letter) (V := V) gd' hm ec cT (fr_X8_letter n S _ _ T ec) (fun c hc h => by unfold wr_X8_letter at h; omega) (fun hmT => ?_) (fun c hc h => by unfold wr_X9_letter at h; omega)
        have p3 := hmT.2.2.2.1.1
        have em : f_X9_letter n T (nI j) = some (nI (g.2.1.1 + 1), V) := by
          unfold f_X9_letter f_X9_within
          rw [if_neg c1, if_neg (fun h => by rw [lt126] at h; omega)]
          simp only [bo]
          rw [if_neg (by decide), p3, if_neg n40, if_neg (nI_bad hlt (by omega)), nI_c (by omega)]
          simp only [bd]
          have e1 : (sI T 29 g.2.1.1 (nI j)).1 28 0 = nI g.2.1.1 := by rw [← p3]; simp [sI]
          rw [e1, nI_1, hV, ← hV]
          simp [sI]
        refine ⟨em, ?_, fr_X9_letter n T _ _ V em⟩
        refine hmT.page (fun c h1 h2 => by rw [← hV]; funext k; simp [sI, h1, h2]) (fun k hk => by rw [← hV]; simp [sI, hk]) ⟨by rw [← hV]; simp [sI], fun i hi => ?_⟩
        by_cases e : i = g.2.1.1
        · rw [if_pos e, ← hV]; simp [sI, e]
        · rw [if_neg e, ← hmT.2.2.2.1.2 i (by omega), ← hV]; simp [sI, e]
    · refine ⟨-2000000003, S, S, ?_, ?_, g, hg, hc, hm⟩
      · show f_X8_letter n S (nI j) = _
        unfold f_X8_letter
        rw [if_neg c1, if_neg (fun h => c2 (le126.mp h))]
      · show f_X9_letter n S (nI j) = _
        unfold f_X9_letter f_X9_within
        rw [if_neg c1, if_pos (lt126.mpr (by omega))]
        rfl
theorem op_blank {n : Nat} {S : St} (hI : Inv S) : OpOk (fun S => f_X8_blank n S) (fun S => f_X9_blank n S) S := by
  obtain ⟨g, hg, hc, hm⟩ := hI
  have ec : f_X8_blank n S = some (nI g.2.1.1, sI S 0 1 0) := by unfold f_X8_blank; simp only [bd]; rw [hc.1.2.2.1.1]
  refine step_both (g := g) (g' := (g.1, (0, g.2.1.2), g.2.2)) (wc := wr_X8_blank) (wm := wr_X9_blank) (V := sI (sI S 0 1 0) 28 0 0) ⟨hg.1, ⟨Nat.zero_le _, fun i hi => absurd hi (Nat.not_lt_zero _)⟩, hg.2.2⟩ hm ec ?_ (fr_X8_blank n S _ _ ec) (fun c hc h => by unfold wr_X8_blank at h; omega) (fun hmT => ?_) (fun c hc h => by unfold wr_X9_blank at h; omega)
  · exact hc.page (fun c h1 h2 => by funext k; simp [sI, h1]) (fun k hk => by simp [sI, hk]) rfl ⟨by simp [sI]; rfl, fun i hi => absurd hi (Nat.not_lt_zero _)⟩
  · have em : f_X9_blank n (sI S 0 1 0) = some (nI g.2.1.1, sI (sI S 0 1 0) 28 0 0) := by unfold f_X9_blank; simp only [bd]; rw [hmT.2.2.2.1.1]
    exact ⟨em, hmT.page (fun c h1 h2 => by funext k; simp [sI, h1]) (fun k hk => by simp [sI, hk]) ⟨by simp [sI]; rfl, fun i hi => absurd hi (Nat.not_lt_zero _)⟩, fr_X9_blank n _ _ _ em⟩
/-- the reader's cells are its own -/
theorem CI.kr {S T : St} {g : Gh} {w : Nat → Prop} (h : CI S g) (k : Keeps w S T) (hw : ∀ c, c ≤ 1 ∨ (6 ≤ c ∧ c ≤ 22) ∨ c = 26 ∨ c = 121 → ¬ w c) : CI T g := by
  have e : ∀ c, c ≤ 1 ∨ (6 ≤ c ∧ c ≤ 22) ∨ c = 26 → T.1 c = S.1 c := fun c hc => (k c (hw c (by omega))).1
  obtain ⟨a, b, c, d⟩ := h
  have e0 := e 0 (by omega)
  refine ⟨a.keep (fun c hc => e c (by omega)) (fun j _ => by rw [e0]), ?_, ?_, ?_⟩
  · rw [e0]; exact b.imp id (fun h => h.keep (e 21 (by omega)) (e 22 (by omega)) (k 121 (hw 121 (by omega))).2)
  · unfold SoC at *; rw [e0]; exact c
  · unfold PaC at *; rw [e0, e 26 (by omega)]; exact d
/-- the page is read -/
theorem fault_C {n : Nat} {S : St} {g : Gh} (hn : 60 ≤ n) (hg : Gd g) (h : CI S g) : ∃ f T, f_X5_firstFault n S (S.1 0 1) = some (nI f, T) ∧ Keeps wr_X5_firstFault S T ∧ CI T g ∧ isFault g.2.1.2 g.2.1.1 f ∧ (f = g.2.1.1 → ∃ z, grun g.2.1.2 g.2.1.1 = some z ∧ CG T z) := by
  obtain ⟨f, T, a, b, c⟩ := fault_c (n := n) (S := S) (pg := g.2.1.2) hn hg.2.1.1 (fun i hi => ⟨h.1.2.2.1.2 i hi, hg.2.1.2 i hi⟩)
  rw [← h.1.2.2.1.1] at a
  have k := fr_X5_firstFault n S _ _ T a
  exact ⟨f, T, a, k, h.kr k (fun c hc h => by unfold wr_X5_firstFault at h; omega), b, c⟩
theorem along_M {n : Nat} {S : St} {g : Gh} (hn : 60 ≤ n) (hg : Gd g) (h : MI S g) : ∃ f T, f_X9_goAlong n S = some (nI f, T) ∧ Keeps wr_X9_goAlong S T ∧ FA S T ∧ T.2 = S.2 ∧ MI T g ∧ isFault g.2.1.2 g.2.1.1 f ∧ (f = g.2.1.1 → ∃ z, grun g.2.1.2 g.2.1.1 = some z ∧ MG T z ∧ T.1 28 17 = nI (gse g.2.1.2 g.2.1.1)) := by
  obtain ⟨f, T, a, b, c, d, e⟩ := along_m (n := n) (S := S) (pg := g.2.1.2) hn hg.2.1.1 h.2.2.2.1.1 (fun i hi => ⟨h.2.2.2.1.2 i hi, hg.2.1.2 i hi⟩)
  have k := fr_X9_goAlong n S _ T a
  refine ⟨f, T, a, k, b, c, h.keep (fun c hc h4 => (k c (fun q => by unfold wr_X9_goAlong at q; omega)).1) (fun j hj => b j (by omega)), d, e⟩
theorem op_fault {n : Nat} {S : St} (hn : 60 ≤ n) (hI : Inv S) : OpOk (fun S => f_X8_fault n S) (fun S => f_X9_fault n S) S := by
  obtain ⟨g, hg, hc, hm⟩ := hI
  obtain ⟨f, T, a1, a2, a3, a4, -⟩ := fault_C hn hg hc
  have ec : f_X8_fault n S = some (nI f, T) := by unfold f_X8_fault; rw [bo_some a1]
  have hmT : MI T g := hm.kp a2 (fun c hc h => by unfold wr_X5_firstFault at h; omega)
  obtain ⟨f2, V, b1, b2, -, -, b5, b6, -⟩ := along_M hn hg hmT
  have : f = f2 := isFault.uniq a4 b6
  subst this
  have em : f_X9_fault n T = some (nI f, V) := by unfold f_X9_fault; rw [bo_some b1]
  exact ⟨nI f, T, V, ec, em, g, hg, a3.kp b2 (fun c hc h => by unfold wr_X9_goAlong at h; omega), b5⟩
