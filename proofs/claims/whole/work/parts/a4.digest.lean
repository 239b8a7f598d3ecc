/-! digest -/
def hf (f : Nat → Int32) (h : Int64) : Nat → Int64
  | 0 => h
  | k + 1 => ((31 : Int64) * hf f h k) + (f k).toInt64
theorem div4_ok : ∀ i, i < 40 → nI i / (4 : Int32) = nI (i / 4) ∧ nI i - nI i / (4 : Int32) * (4 : Int32) = nI (i % 4) := by decide +kernel
theorem div6_ok : ∀ i, i < 60 → nI i / (6 : Int32) = nI (i / 6) ∧ nI i - nI i / (6 : Int32) * (6 : Int32) = nI (i % 6) := by decide +kernel
/-- what is told, item by item, and what comes of it -/
def DgV (g : Gh) (fL fT fE : Nat → Int32) (vH : Int32) (fC : Nat → Int32) : Int64 := hf fC (hf (fun i => nI (g.2.1.2 i)) (((31 : Int64) * hf fE (hf fT (hf fL 1609 (4 * g.1.1)) (6 * (tbl g.1.2 g.1.1).1)) 3) + vH.toInt64) g.2.1.1) 6
theorem digest_C {n : Nat} {g : Gh} (hn : 110 ≤ n) (hg : Gd g) {fL fT fE fC : Nat → Int32} {vH : Int32} (hL : ∀ i, i < 4 * g.1.1 → cqA g (fun S => f_X8_literal n S (nI (i / 4)) (nI (i % 4))) (fL i)) (hT : ∀ i, i < 6 * (tbl g.1.2 g.1.1).1 → cqA g (fun S => f_X8_term n S (nI (i / 6)) (nI (i % 6))) (fT i)) (hE : ∀ i, i < 3 → cqA g (fun S => f_X8_exchange n S (nI i)) (fE i)) (hH : cqA g (fun S => f_X8_holds n S) vH) (hC : ∀ i, i < 6 → cqA g (fun S => f_X8_count n S (nI i)) (fC i)) {S : St} (h : CI S g) : ∃ T, f_X8_digest n S = some (DgV g fL fT fE vH fC, T) ∧ CI T g := by
  have hL10 := hg.1.1
  have hN10 := hg.1.2.2.2
  have hP := hg.2.1.1
  generalize e1 : hf fL 1609 (4 * g.1.1) = h1
  generalize e2 : hf fT h1 (6 * (tbl g.1.2 g.1.1).1) = h2
  generalize e3 : hf fE h2 3 = h3
  generalize e4 : ((31 : Int64) * h3) + vH.toInt64 = h4
  generalize e5 : hf (fun i => nI (g.2.1.2 i)) h4 g.2.1.1 = h5
  have eD : DgV g fL fT fE vH fC = hf fC h5 6 := by unfold DgV; rw [e1, e2, e3, e4, e5]
  rw [eD]
  -- the counts
  have s6 : ∀ U, CI U g → ∃ T, f_X8_digest_176 n U h5 = some (hf fC h5 6, T) ∧ CI T g := by
    intro U hU
    unfold f_X8_digest_176
    simp only [bd]
    refine for_up2' (α := Int64 × St) (β := Int64) (f_X8_digest_178 n) (fun _ _ _ => none) 6 (fun i T x => CI T g ∧ x = hf fC h5 i) (fun o => ∃ T, o = some (hf fC h5 6, T) ∧ CI T g) ?_ ?_ n 0 U h5 (by omega) (by omega) ⟨hU, rfl⟩
    · rintro i T x k hi ⟨q1, rfl⟩
      right
      obtain ⟨V, v1, v2⟩ := hC i hi T q1
      have v1 : f_X8_count n T (nI i) = some (fC i, V) := v1
      unfold f_X8_digest_178
      rw [if_neg (by rw [show (5 : Int32) = nI 5 from rfl, nI_ltI (by omega) (by omega)]; omega), bo_some v1]
      simp only [bd]
      rw [nI_1]
      exact ⟨V, _, ⟨v2, rfl⟩, rfl⟩
    · rintro T x k ⟨q1, rfl⟩
      unfold f_X8_digest_178
      rw [if_pos (by decide)]
      exact ⟨T, rfl, q1⟩
  -- the page
  have s5 : ∀ U, CI U g → ∃ T, fixF (fun _ _ _ => none) (f_X8_digest_142 n) n U h4 (0 : Int32) = some (hf fC h5 6, T) ∧ CI T g := by
    intro U hU
    refine for_up2' (α := Int64 × St) (β := Int64) (f_X8_digest_142 n) (fun _ _ _ => none) g.2.1.1 (fun i T x => CI T g ∧ x = hf (fun i => nI (g.2.1.2 i)) h4 i) (fun o => ∃ T, o = some (hf fC h5 6, T) ∧ CI T g) ?_ ?_ n 0 U h4 (by omega) (by omega) ⟨hU, rfl⟩
    · rintro i T x k hi ⟨q1, rfl⟩
      right
      unfold f_X8_digest_142
      rw [q1.1.2.2.1.1, if_neg (by rw [nI_leI (by omega) (by omega)]; omega), if_neg (by rw [show (40 : Int32) = nI 40 from rfl, nI_leI (by omega) (by omega)]; omega), if_neg (nI_bad (by omega) (by omega)), nI_c (by omega), q1.1.2.2.1.2 i hi]
      simp only [bd]
      rw [nI_1]
      exact ⟨T, _, ⟨q1, rfl⟩, rfl⟩
    · rintro T x k ⟨q1, rfl⟩
      unfold f_X8_digest_142
      rw [q1.1.2.2.1.1, if_pos (by rw [nI_leI (by omega) (by omega)]; omega), e5]
      exact s6 T q1
  -- the exchange, and whether it holds
  have s3 : ∀ U, CI U g → ∃ T, fixF (fun _ _ _ => none) (f_X8_digest_104 n) n U h2 (0 : Int32) = some (hf fC h5 6, T) ∧ CI T g := by
    intro U hU
    refine for_up2' (α := Int64 × St) (β := Int64) (f_X8_digest_104 n) (fun _ _ _ => none) 3 (fun i T x => CI T g ∧ x = hf fE h2 i) (fun o => ∃ T, o = some (hf fC h5 6, T) ∧ CI T g) ?_ ?_ n 0 U h2 (by omega) (by omega) ⟨hU, rfl⟩
    · rintro i T x k hi ⟨q1, rfl⟩
      right
      obtain ⟨V, v1, v2⟩ := hE i hi T q1
      have v1 : f_X8_exchange n T (nI i) = some (fE i, V) := v1
      unfold f_X8_digest_104
      rw [if_neg (by rw [show (2 : Int32) = nI 2 from rfl, nI_ltI (by omega) (by omega)]; omega), bo_some v1]
      simp only [bd]
      rw [nI_1]
      exact ⟨V, _, ⟨v2, rfl⟩, rfl⟩
    · rintro T x k ⟨q1, rfl⟩
      obtain ⟨V, v1, v2⟩ := hH T q1
      have v1 : f_X8_holds n T = some (vH, V) := v1
      unfold f_X8_digest_104
      rw [if_pos (by decide), bo_some v1]
      simp only [bd]
      rw [e3, e4]
      exact s5 V v2
  -- the terms
  have s2 : ∀ U, CI U g → ∃ T, fixF (fun _ _ _ => none) (f_X8_digest_55 n) n U h1 (0 : Int32) = some (hf fC h5 6, T) ∧ CI T g := by
    intro U hU
    refine for_up2' (α := Int64 × St) (β := Int64) (f_X8_digest_55 n) (fun _ _ _ => none) (tbl g.1.2 g.1.1).1 (fun i T x => CI T g ∧ x = hf fT h1 (6 * i)) (fun o => ∃ T, o = some (hf fC h5 6, T) ∧ CI T g) ?_ ?_ n 0 U h1 (by omega) (by omega) ⟨hU, rfl⟩
    · rintro i T x k55 hi ⟨q1, rfl⟩
      right
      unfold f_X8_digest_55 f_X7_size
      simp only [bo, bd]
      rw [q1.1.1.2.2.1, if_neg (by rw [nI_leI (by omega) (by omega)]; omega)]
      refine for_up2' (α := Int64 × St) (β := Int64) (f_X8_digest_69 n (nI i) k55) (fun _ _ _ => none) 6 (fun j V x => CI V g ∧ x = hf fT h1 (6 * i + j)) (fun o => ∃ S' a', (CI S' g ∧ a' = hf fT h1 (6 * (i + 1))) ∧ o = k55 S' a' (nI (i + 1))) ?_ ?_ n 0 T _ (by omega) (by omega) ⟨q1, rfl⟩
      · rintro j V x k69 hj ⟨r1, rfl⟩
        right
        obtain ⟨W, w1, w2⟩ := hT (6 * i + j) (by omega) V r1
        have d1 : (6 * i + j) / 6 = i := by omega
        have d2 : (6 * i + j) % 6 = j := by omega
        rw [d1, d2] at w1
        have w1 : f_X8_term n V (nI i) (nI j) = some (fT (6 * i + j), W) := w1
        unfold f_X8_digest_69
        rw [if_neg (by rw [show (5 : Int32) = nI 5 from rfl, nI_ltI (by omega) (by omega)]; omega), bo_some w1]
        simp only [bd]
        rw [nI_1]
        exact ⟨W, _, ⟨w2, rfl⟩, rfl⟩
      · rintro V x k69 ⟨r1, rfl⟩
        unfold f_X8_digest_69
        rw [if_pos (by decide)]
        simp only [bd]
        rw [nI_1]
        exact ⟨V, _, ⟨r1, by rw [show 6 * (i + 1) = 6 * i + 6 by omega]⟩, rfl⟩
    · rintro T x k55 ⟨q1, rfl⟩
      unfold f_X8_digest_55 f_X7_size
      simp only [bo, bd]
      rw [q1.1.1.2.2.1, if_pos (by rw [nI_leI (by omega) (by omega)]; omega), e2]
      exact s3 T q1
  unfold f_X8_digest
  simp only [bd]
  refine for_up2' (α := Int64 × St) (β := Int64) (f_X8_digest_6 n) (fun _ _ _ => none) g.1.1 (fun i T x => CI T g ∧ x = hf fL 1609 (4 * i)) (fun o => ∃ T, o = some (hf fC h5 6, T) ∧ CI T g) ?_ ?_ n 0 S 1609 (by omega) (by omega) ⟨h, rfl⟩
  · rintro i T x k6 hi ⟨q1, rfl⟩
    right
    unfold f_X8_digest_6 f_X3_size
    simp only [bo, bd]
    rw [q1.1.2.1.1, if_neg (by rw [nI_leI (by omega) (by omega)]; omega)]
    refine for_up2' (α := Int64 × St) (β := Int64) (f_X8_digest_20 n (nI i) k6) (fun _ _ _ => none) 4 (fun j V x => CI V g ∧ x = hf fL 1609 (4 * i + j)) (fun o => ∃ S' a', (CI S' g ∧ a' = hf fL 1609 (4 * (i + 1))) ∧ o = k6 S' a' (nI (i + 1))) ?_ ?_ n 0 T _ (by omega) (by omega) ⟨q1, rfl⟩
    · rintro j V x k20 hj ⟨r1, rfl⟩
      right
      obtain ⟨W, w1, w2⟩ := hL (4 * i + j) (by omega) V r1
      have d1 : (4 * i + j) / 4 = i := by omega
      have d2 : (4 * i + j) % 4 = j := by omega
      rw [d1, d2] at w1
      have w1 : f_X8_literal n V (nI i) (nI j) = some (fL (4 * i + j), W) := w1
      unfold f_X8_digest_20
      rw [if_neg (by rw [show (3 : Int32) = nI 3 from rfl, nI_ltI (by omega) (by omega)]; omega), bo_some w1]
      simp only [bd]
      rw [nI_1]
      exact ⟨W, _, ⟨w2, rfl⟩, rfl⟩
    · rintro V x k20 ⟨r1, rfl⟩
      unfold f_X8_digest_20
      rw [if_pos (by decide)]
      simp only [bd]
      rw [nI_1]
      exact ⟨V, _, ⟨r1, by rw [show 4 * (i + 1) = 4 * i + 4 by omega]⟩, rfl⟩
  · rintro T x k6 ⟨q1, rfl⟩
    unfold f_X8_digest_6 f_X3_size
    simp only [bo, bd]
    rw [q1.1.2.1.1, if_pos (by rw [nI_leI (by omega) (by omega)]; omega), e1]
    exact s2 T q1
theorem mix_M {n : Nat} {S : St} {g : Gh} (h : MI S g) (v : Int64) : ∃ T, f_X9_mix n S v = some ((), T) ∧ MI T g ∧ T.2 28 47 = ((31 : Int64) * S.2 28 47) + v := by
  unfold f_X9_mix
  simp only [bd]
  exact ⟨_, rfl, h.keep (fun _ _ _ => rfl) (fun _ _ => rfl), by simp [sL]⟩
theorem digest_M {n : Nat} {g : Gh} (hn : 110 ≤ n) (hg : Gd g) {fL fT fE fC : Nat → Int32} {vH : Int32} (hL : ∀ i, i < 4 * g.1.1 → mqA g (fun S => f_X9_literalNow n S (nI (i / 4)) (nI (i % 4))) (fL i)) (hT : ∀ i, i < 6 * (tbl g.1.2 g.1.1).1 → mqA g (fun S => f_X9_termNow n S (nI (i / 6)) (nI (i % 6))) (fT i)) (hE : ∀ i, i < 3 → mqA g (fun S => f_X9_exchangeNow n S (nI i)) (fE i)) (hH : mqA g (fun S => f_X9_holds n S) vH) (hC : ∀ i, i < 6 → mqA g (fun S => f_X9_howMany n S (nI i)) (fC i)) {S : St} (h : MI S g) : ∃ T, f_X9_digest n S = some (DgV g fL fT fE vH fC, T) ∧ MI T g := by
  have hL10 := hg.1.1
  have hN10 := hg.1.2.2.2
  have hP := hg.2.1.1
  generalize e1 : hf fL 1609 (4 * g.1.1) = h1
  generalize e2 : hf fT h1 (6 * (tbl g.1.2 g.1.1).1) = h2
  generalize e3 : hf fE h2 3 = h3
  generalize e4 : ((31 : Int64) * h3) + vH.toInt64 = h4
  generalize e5 : hf (fun i => nI (g.2.1.2 i)) h4 g.2.1.1 = h5
  have eD : DgV g fL fT fE vH fC = hf fC h5 6 := by unfold DgV; rw [e1, e2, e3, e4, e5]
  rw [eD]
  have s6 : ∀ U, MI U g → U.2 28 47 = h5 → ∃ T, fixF (fun _ _ => none) (f_X9_digest_137 n) n U (0 : Int32) = some (hf fC h5 6, T) ∧ MI T g := by
    intro U hU hx
    refine for_up (α := Int64 × St) (f_X9_digest_137 n) (fun _ _ => none) 6 (fun i T => MI T g ∧ T.2 28 47 = hf fC h5 i) (fun o => ∃ T, o = some (hf fC h5 6, T) ∧ MI T g) ?_ ?_ n 0 U (by omega) (by omega) ⟨hU, hx⟩
    · rintro i T k hi ⟨q1, q2⟩
      right
      obtain ⟨V, v1, v2, v3⟩ := hC i hi T q1
      have v1 : f_X9_howMany n T (nI i) = some (fC i, V) := v1
      obtain ⟨W, w1, w2, w3⟩ := mix_M (n := n) v2 (fC i).toInt64
      unfold f_X9_digest_137
      rw [if_neg (by rw [show (6 : Int32) = nI 6 from rfl, nI_leI (by omega) (by omega)]; omega), bo_some v1, bo_some w1]
      simp only [bd]
      rw [nI_1]
      exact ⟨W, ⟨w2, by rw [w3, v3, q2]; rfl⟩, rfl⟩
    · rintro T k ⟨q1, q2⟩
      unfold f_X9_digest_137
      rw [if_pos (by decide), q2]
      exact ⟨T, rfl, q1⟩
  have s5 : ∀ U, MI U g → U.2 28 47 = h4 → ∃ T, fixF (fun _ _ => none) (f_X9_digest_110 n) n U (0 : Int32) = some (hf fC h5 6, T) ∧ MI T g := by
    intro U hU hx
    refine for_up (α := Int64 × St) (f_X9_digest_110 n) (fun _ _ => none) g.2.1.1 (fun i T => MI T g ∧ T.2 28 47 = hf (fun i => nI (g.2.1.2 i)) h4 i) (fun o => ∃ T, o = some (hf fC h5 6, T) ∧ MI T g) ?_ ?_ n 0 U (by omega) (by omega) ⟨hU, hx⟩
    · rintro i T k hi ⟨q1, q2⟩
      right
      obtain ⟨W, w1, w2, w3⟩ := mix_M (n := n) q1 (nI (g.2.1.2 i)).toInt64
      unfold f_X9_digest_110
      rw [q1.2.2.2.1.1, if_neg (by rw [nI_leI (by omega) (by omega)]; omega), if_neg (nI_bad (by omega) (by omega)), nI_c (by omega), q1.2.2.2.1.2 i hi, bo_some w1]
      simp only [bd]
      rw [nI_1]
      exact ⟨W, ⟨w2, by rw [w3, q2]; rfl⟩, rfl⟩
    · rintro T k ⟨q1, q2⟩
      unfold f_X9_digest_110
      rw [q1.2.2.2.1.1, if_pos (by rw [nI_leI (by omega) (by omega)]; omega)]
      simp only [bd]
      exact s6 T q1 (by rw [q2, e5])
  have s3 : ∀ U, MI U g → U.2 28 47 = h2 → ∃ T, fixF (fun _ _ => none) (f_X9_digest_78 n) n U (0 : Int32) = some (hf fC h5 6, T) ∧ MI T g := by
    intro U hU hx
    refine for_up (α := Int64 × St) (f_X9_digest_78 n) (fun _ _ => none) 3 (fun i T => MI T g ∧ T.2 28 47 = hf fE h2 i) (fun o => ∃ T, o = some (hf fC h5 6, T) ∧ MI T g) ?_ ?_ n 0 U (by omega) (by omega) ⟨hU, hx⟩
    · rintro i T k hi ⟨q1, q2⟩
      right
      obtain ⟨V, v1, v2, v3⟩ := hE i hi T q1
      have v1 : f_X9_exchangeNow n T (nI i) = some (fE i, V) := v1
      obtain ⟨W, w1, w2, w3⟩ := mix_M (n := n) v2 (fE i).toInt64
      unfold f_X9_digest_78
      rw [if_neg (by rw [show (3 : Int32) = nI 3 from rfl, nI_leI (by omega) (by omega)]; omega), bo_some v1, bo_some w1]
      simp only [bd]
      rw [nI_1]
      exact ⟨W, ⟨w2, by rw [w3, v3, q2]; rfl⟩, rfl⟩
    · rintro T k ⟨q1, q2⟩
      obtain ⟨V, v1, v2, v3⟩ := hH T q1
      have v1 : f_X9_holds n T = some (vH, V) := v1
      obtain ⟨W, w1, w2, w3⟩ := mix_M (n := n) v2 vH.toInt64
      unfold f_X9_digest_78
      rw [if_pos (by decide), bo_some v1, bo_some w1]
      simp only [bd]
      exact s5 W w2 (by rw [w3, v3, q2, e3, e4])
  have s2 : ∀ U, MI U g → U.2 28 47 = h1 → ∃ T, fixF (fun _ _ => none) (f_X9_digest_42 n) n U (0 : Int32) = some (hf fC h5 6, T) ∧ MI T g := by
    intro U hU hx
    have e6 : ∀ T, MI T g → (6 : Int32) * (T.1 28 18) = nI (6 * (tbl g.1.2 g.1.1).1) := fun T q => by rw [q.1.2.2.1, show (6 : Int32) = nI 6 from rfl, pk_mul]
    refine for_up (α := Int64 × St) (f_X9_digest_42 n) (fun _ _ => none) (6 * (tbl g.1.2 g.1.1).1) (fun i T => MI T g ∧ T.2 28 47 = hf fT h1 i) (fun o => ∃ T, o = some (hf fC h5 6, T) ∧ MI T g) ?_ ?_ n 0 U (by omega) (by omega) ⟨hU, hx⟩
    · rintro i T k hi ⟨q1, q2⟩
      right
      obtain ⟨V, v1, v2, v3⟩ := hT i hi T q1
      have v1 : f_X9_termNow n T (nI (i / 6)) (nI (i % 6)) = some (fT i, V) := v1
      obtain ⟨W, w1, w2, w3⟩ := mix_M (n := n) v2 (fT i).toInt64
      obtain ⟨d1, d2⟩ := div6_ok i (by omega)
      unfold f_X9_digest_42
      rw [e6 T q1, if_neg (by rw [nI_leI (by omega) (by omega)]; omega), d2, d1, bo_some v1, bo_some w1]
      simp only [bd]
      rw [nI_1]
      exact ⟨W, ⟨w2, by rw [w3, v3, q2]; rfl⟩, rfl⟩
    · rintro T k ⟨q1, q2⟩
      unfold f_X9_digest_42
      rw [e6 T q1, if_pos (by rw [nI_leI (by omega) (by omega)]; omega)]
      simp only [bd]
      exact s3 T q1 (by rw [q2, e2])
  have e4' : ∀ T, MI T g → (4 : Int32) * (T.1 28 2) = nI (4 * g.1.1) := fun T q => by rw [q.2.1.1, show (4 : Int32) = nI 4 from rfl, pk_mul]
  unfold f_X9_digest
  simp only [bd]
  refine for_up (α := Int64 × St) (f_X9_digest_9 n) (fun _ _ => none) (4 * g.1.1) (fun i T => MI T g ∧ T.2 28 47 = hf fL 1609 i) (fun o => ∃ T, o = some (hf fC h5 6, T) ∧ MI T g) ?_ ?_ n 0 _ (by omega) (by omega) ⟨h.keep (fun _ _ _ => rfl) (fun _ _ => rfl), by simp [sL, hf]⟩
  · rintro i T k hi ⟨q1, q2⟩
    right
    obtain ⟨V, v1, v2, v3⟩ := hL i hi T q1
    have v1 : f_X9_literalNow n T (nI (i / 4)) (nI (i % 4)) = some (fL i, V) := v1
    obtain ⟨W, w1, w2, w3⟩ := mix_M (n := n) v2 (fL i).toInt64
    obtain ⟨d1, d2⟩ := div4_ok i (by omega)
    unfold f_X9_digest_9
    rw [e4' T q1, if_neg (by rw [nI_leI (by omega) (by omega)]; omega), d2, d1, bo_some v1, bo_some w1]
    simp only [bd]
    rw [nI_1]
    exact ⟨W, ⟨w2, by rw [w3, v3, q2]; rfl⟩, rfl⟩
  · rintro T k ⟨q1, q2⟩
    unfold f_X9_digest_9
    rw [e4' T q1, if_pos (by rw [nI_leI (by omega) (by omega)]; omega)]
    simp only [bd]
    exact s2 T q1 (by rw [q2, e1])
theorem pick {p : Nat → Prop} {Q : Nat → Int32 → Prop} (h : ∀ i, p i → ∃ v, Q i v) : ∃ f : Nat → Int32, ∀ i, p i → Q i (f i) := by
  have h' : ∀ i, ∃ v, p i → Q i v := fun i => by
    rcases Classical.em (p i) with q | q
    · obtain ⟨v, hv⟩ := h i q
      exact ⟨v, fun _ => hv⟩
    · exact ⟨0, fun q' => absurd q' q⟩
  exact ⟨fun i => Classical.choose (h' i), fun i => Classical.choose_spec (h' i)⟩
theorem lit_now {n t j : Nat} {S : St} {g : Gh} (hg : Gd g) (h : MI S g) (ht : t < g.1.1) (hj : j < 4) : f_X9_literal n S (nI t) (nI j) = f_X9_literalNow n S (nI t) (nI j) := by
  have hL := hg.1.1
  have c3 : nI 4 - 1 = (3 : Int32) := by decide
  have w1 := wi_in (n := n) (S := S) (t := j) (N := 4) hj (by omega)
  rw [c3] at w1
  unfold f_X9_literal f_X9_isLiteral
  rw [h.2.1.1, wi_in ht (by omega)]
  simp only [bo]
  rw [if_neg (by decide)]
  simp only []
  rw [if_neg (by decide), w1]
  simp only []
  rw [if_neg (by decide)]
  cases f_X9_literalNow n S (nI t) (nI j) <;> rfl
theorem count_now {n : Nat} {S : St} (a : Int32) : f_X9_count n S a = f_X9_howMany n S a := by
  unfold f_X9_count
  cases f_X9_howMany n S a <;> rfl
theorem op_digest {n : Nat} {S : St} (hn : NB ≤ n) (hI : Inv S) : OpOk (fun S => f_X8_digest n S) (fun S => f_X9_digest n S) S := by
  obtain ⟨g, hg, hc, hm⟩ := hI
  have hn1 := NB110 hn
  obtain ⟨k, c, rep, hx⟩ := hc.outcome hn1 hg
  obtain ⟨fL, hfL⟩ := pick (p := fun i => i < 4 * g.1.1) (Q := fun i v => cqA g (fun S => f_X8_literal n S (nI (i / 4)) (nI (i % 4))) v ∧ mqA g (fun S => f_X9_literalNow n S (nI (i / 4)) (nI (i % 4))) v) (fun i hi => by
    obtain ⟨v, q1, q2⟩ := q_literal (n := n) hg (nI (i / 4)) (nI (i % 4))
    refine ⟨v, q1, fun U hU => ?_⟩
    obtain ⟨T, t1, t2, t3⟩ := q2 U hU
    have t1 : f_X9_literal n U (nI (i / 4)) (nI (i % 4)) = some (v, T) := t1
    rw [lit_now hg hU (by omega) (by omega)] at t1
    exact ⟨T, t1, t2, t3⟩)
  obtain ⟨fT, hfT⟩ := pick (p := fun i => i < 6 * (tbl g.1.2 g.1.1).1) (Q := fun i v => cqA g (fun S => f_X8_term n S (nI (i / 6)) (nI (i % 6))) v ∧ mqA g (fun S => f_X9_termNow n S (nI (i / 6)) (nI (i % 6))) v) (fun i hi => q_termNow (n := n) hn1 hg hx hc.lens (by omega) (by omega))
  obtain ⟨fE, hfE⟩ := pick (p := fun i => i < 3) (Q := fun i v => cqA g (fun S => f_X8_exchange n S (nI i)) v ∧ mqA g (fun S => f_X9_exchangeNow n S (nI i)) v) (fun i hi => q_exNow (n := n) hn1 hg hx hi)
  obtain ⟨fC, hfC⟩ := pick (p := fun i => i < 6) (Q := fun i v => cqA g (fun S => f_X8_count n S (nI i)) v ∧ mqA g (fun S => f_X9_howMany n S (nI i)) v) (fun i hi => by
    obtain ⟨v, q1, q2⟩ := q_count (n := n) (g := g) (nI i)
    refine ⟨v, q1, fun U hU => ?_⟩
    obtain ⟨T, t1, t2, t3⟩ := q2 U hU
    have t1 : f_X9_count n U (nI i) = some (v, T) := t1
    rw [count_now] at t1
    exact ⟨T, t1, t2, t3⟩)
  obtain ⟨vH, hH1, hH2⟩ := q_holds (n := n) hn hg
  obtain ⟨T, a1, a2⟩ := digest_C (n := n) hn1 hg (fun i hi => (hfL i hi).1) (fun i hi => (hfT i hi).1) (fun i hi => (hfE i hi).1) hH1 (fun i hi => (hfC i hi).1) hc
  have hmT : MI T g := hm.kp (fr_X8_digest n S _ T a1) (fun c hc h => by unfold wr_X8_digest at h; omega)
  obtain ⟨V, b1, b2⟩ := digest_M (n := n) hn1 hg (fun i hi => (hfL i hi).2) (fun i hi => (hfT i hi).2) (fun i hi => (hfE i hi).2) hH2 (fun i hi => (hfC i hi).2) hmT
  exact ⟨_, T, V, a1, b1, g, hg, a2.kp (fr_X9_digest n T _ V b1) (fun c hc h => by unfold wr_X9_digest at h; omega), b2⟩
