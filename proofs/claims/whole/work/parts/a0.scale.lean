/-! scale -/
theorem pr_bd {z t : Int} (hz : -2000000000 ≤ z ∧ z ≤ 2000000000) (ht : -1000 ≤ t ∧ t ≤ 1000) : -2000000000000 ≤ z * t ∧ z * t ≤ 2000000000000 := by
  have h : (z * t).natAbs ≤ 2000000000 * 1000 := by rw [Int.natAbs_mul]; exact Nat.mul_le_mul (by omega) (by omega)
  omega
theorem mul64 {x a : Int32} (hx : -2000000000 ≤ x.toInt ∧ x.toInt ≤ 2000000000) (ha : -1000 ≤ a.toInt ∧ a.toInt ≤ 1000) : (x.toInt64 * a.toInt64).toInt = x.toInt * a.toInt := by
  have h := pr_bd hx ha
  rw [Int64.toInt_mul, i2l, i2l]; exact Int.bmod_eq_of_le (by omega) (by omega)
theorem mul32 {x a : Int32} (h : -2000000000 ≤ x.toInt * a.toInt ∧ x.toInt * a.toInt ≤ 2000000000) : (x * a).toInt = x.toInt * a.toInt := by
  rw [Int32.toInt_mul]; exact Int.bmod_eq_of_le (by omega) (by omega)
def bigZ (z : Int) : Prop := z > 2000000000 ∨ z < -2000000000
theorem t9 : (2000000000 : Int64).toInt = 2000000000 ∧ (-2000000000 : Int64).toInt = -2000000000 := by decide
theorem great_y {n : Nat} {S : St} {x : Int64} (h : bigZ x.toInt) : f_X8_isGreat n S x = some (1, S) := by
  unfold f_X8_isGreat f_X8_isGreat_16
  by_cases c : 0 < lg_cmp x (2000000000 : Int64)
  · rw [if_pos c]
  · rw [if_neg c]
    rw [c_gt, t9.1] at c
    rw [if_neg (by rw [c_ge, t9.2]; unfold bigZ at h; omega)]
theorem great_n {n : Nat} {S : St} {x : Int64} (h : ¬ bigZ x.toInt) : f_X8_isGreat n S x = some (0, S) := by
  unfold f_X8_isGreat
  unfold bigZ at h
  rw [if_neg (by rw [c_gt, t9.1]; omega), if_pos (by rw [c_ge, t9.2]; omega)]
def chN (z : Nat → Int) (t : Int) : Nat → Nat
  | 0 => 0
  | k + 1 => chN z t k + (if z k * t = z k then 0 else 1)
def scG (G : Gl) (t : Int) : Gl := fun k => ((G k).1, (G k).2.1, (G k).2.2.1, (G k).2.2.2 * t)
theorem scG_t {G : Gl} {t : Int} : ∀ k, tbl (scG G t) k = tbl G k
  | 0 => rfl
  | k + 1 => by
    show (lay1 (tbl (scG G t) k) (G k).2.1 (G k).2.2.1).1 = (lay1 (tbl G k) (G k).2.1 (G k).2.2.1).1
    rw [scG_t k]
theorem scG_l {G : Gl} {t : Int} (k : Nat) : lft (scG G t) k = lft G k ∧ rgt (scG G t) k = rgt G k := by
  unfold lft rgt
  rw [scG_t k]
  exact ⟨rfl, rfl⟩
def forg (S : St) : St := sI (sI (sI S 0 12 0) 0 13 0) 0 15 0
theorem forg_e {n : Nat} {S : St} : f_X8_forgetResults n S = some ((), forg S) := rfl
theorem forg_0 (S : St) : (forg S).1 0 12 = 0 ∧ (forg S).1 0 13 = 0 ∧ (forg S).1 0 15 = 0 := by unfold forg; simp [sI]
theorem forg_f {S : St} {k : Nat} (h : k ≠ 12 ∧ k ≠ 13 ∧ k ≠ 15) : (forg S).1 0 k = S.1 0 k := by
  obtain ⟨a, b, c⟩ := h
  unfold forg; simp [sI, a, b, c]
theorem forg_c {S : St} {c : Nat} (h : c ≠ 0) : (forg S).1 c = S.1 c := by
  unfold forg; funext k; simp [sI, h]
theorem CCo.forg {S : St} {g : Gh} (h : CCo S g) : CI (forg S) g :=
  ⟨h.keep (fun c hc => forg_c (by omega)) (fun j hj => forg_f (by omega)), Or.inl (forg_0 S).1, Or.inl (forg_0 S).2.1, Or.inl (forg_0 S).2.2⟩
theorem scale_C {n : Nat} {S : St} {g : Gh} (hn : 30 ≤ n) (hg : Gd g) (h : CI S g) {a : Int32} (ha : -1000 ≤ a.toInt ∧ a.toInt ≤ 1000) : ∃ r T, fixF (fun _ _ => none) (f_X8_scale_19 n a) n S (0 : Int32) = some (r, T) ∧ (((∃ k, k < g.1.1 ∧ bigZ ((g.1.2 k).2.2.2 * a.toInt)) ∧ r = -2000000006 ∧ T = S) ∨ ((∀ k, k < g.1.1 → ¬ bigZ ((g.1.2 k).2.2.2 * a.toInt)) ∧ r = nI (chN (fun k => (g.1.2 k).2.2.2) a.toInt g.1.1) ∧ CI T ((g.1.1, scG g.1.2 a.toInt), g.2))) := by
  have hL := hg.1.1
  have sz := h.1.2.1.1
  have lits := h.1.2.1.2
  refine for_up (α := Int32 × St) (f_X8_scale_19 n a) (fun _ _ => none) g.1.1 (fun i T => T = S ∧ ∀ k, k < i → ¬ bigZ ((g.1.2 k).2.2.2 * a.toInt)) (fun o => ∃ r T, o = some (r, T) ∧ (((∃ k, k < g.1.1 ∧ bigZ ((g.1.2 k).2.2.2 * a.toInt)) ∧ r = -2000000006 ∧ T = S) ∨ ((∀ k, k < g.1.1 → ¬ bigZ ((g.1.2 k).2.2.2 * a.toInt)) ∧ r = nI (chN (fun k => (g.1.2 k).2.2.2) a.toInt g.1.1) ∧ CI T ((g.1.1, scG g.1.2 a.toInt), g.2)))) ?_ ?_ n 0 S (by omega) (by omega) ⟨rfl, fun k hk => by omega⟩
  · rintro i T k hi ⟨rfl, q⟩
    obtain ⟨-, -, -, b4⟩ := lits i hi
    have nb := hg.1.2.2.1 i hi
    unfold f_X8_scale_19 f_X3_size
    simp only [bo]
    rw [sz, if_neg (by rw [nI_leI (by omega) (by omega)]; omega), number3 sz hL hi]
    simp only []
    have em := mul64 (x := T.1 20 i) (a := a) (by rw [b4]; exact nb.2) ha
    by_cases c : bigZ ((g.1.2 i).2.2.2 * a.toInt)
    · left
      rw [great_y (by rw [em, b4]; exact c)]
      simp only []
      rw [if_neg (by decide)]
      exact ⟨_, T, rfl, Or.inl ⟨⟨i, hi, c⟩, rfl, rfl⟩⟩
    · right
      rw [great_n (by rw [em, b4]; exact c)]
      simp only [bd]
      first | rw [if_pos rfl, nI_1] | rw [if_pos trivial, nI_1]
      refine ⟨T, ⟨rfl, fun k hk => ?_⟩, rfl⟩
      by_cases e : k = i
      · rw [e]; exact c
      · exact q k (by omega)
  · rintro T k ⟨rfl, q⟩
    unfold f_X8_scale_19 f_X3_size
    simp only [bo]
    rw [sz, if_pos (by rw [nI_leI (by omega) (by omega)]; omega)]
    simp only [bd]
    refine for_up2' (α := Int32 × St) (β := Int32) (f_X8_scale_61 n a) (fun _ _ _ => none) g.1.1 (fun i V x => (∀ c, c ≠ 20 → V.1 c = T.1 c) ∧ V.2 = T.2 ∧ (∀ k, k < i → (V.1 20 k).toInt = (g.1.2 k).2.2.2 * a.toInt) ∧ (∀ k, i ≤ k → V.1 20 k = T.1 20 k) ∧ x = nI (chN (fun k => (g.1.2 k).2.2.2) a.toInt i)) (fun o => ∃ r V, o = some (r, V) ∧ (((∃ k, k < g.1.1 ∧ bigZ ((g.1.2 k).2.2.2 * a.toInt)) ∧ r = -2000000006 ∧ V = T) ∨ ((∀ k, k < g.1.1 → ¬ bigZ ((g.1.2 k).2.2.2 * a.toInt)) ∧ r = nI (chN (fun k => (g.1.2 k).2.2.2) a.toInt g.1.1) ∧ CI V ((g.1.1, scG g.1.2 a.toInt), g.2)))) ?_ ?_ n 0 T 0 (by omega) (by omega) ⟨fun _ _ => rfl, rfl, fun k hk => by omega, fun _ _ => rfl, rfl⟩
    · rintro i V x k61 hi ⟨v1, v2, v3, v4, rfl⟩
      right
      obtain ⟨-, -, -, b4⟩ := lits i hi
      have nq := q i hi
      unfold bigZ at nq
      have szV : V.1 16 4 = nI g.1.1 := by rw [v1 16 (by omega)]; exact sz
      have nV := number3 (n := n) szV hL hi
      have e20 : (V.1 20 i).toInt = (g.1.2 i).2.2.2 := by rw [v4 i (Nat.le_refl _)]; exact b4
      have em := mul32 (x := V.1 20 i) (a := a) (by rw [e20]; omega)
      rw [e20] at em
      unfold f_X8_scale_61 f_X3_size f_X8_scale_110
      simp only [bo]
      rw [szV, if_neg (by rw [nI_leI (by omega) (by omega)]; omega), nV]
      simp only [bd]
      rw [nV]
      simp only []
      rw [nI_1, nI_1]
      by_cases c : (g.1.2 i).2.2.2 * a.toInt = (g.1.2 i).2.2.2
      · rw [if_pos (Int32.toInt_inj.mp (by rw [em, e20]; exact c))]
        refine ⟨V, _, ⟨v1, v2, fun k hk => ?_, fun k hk => v4 k (by omega), by simp only [chN]; rw [if_pos c]; rfl⟩, rfl⟩
        by_cases e : k = i
        · rw [e, e20]; exact c.symm
        · exact v3 k (by omega)
      · rw [if_neg (fun e => c (by rw [← em, e, e20]))]
        unfold f_X3_setNumber
        rw [has3 szV hL hi]
        simp only [bo]
        rw [if_neg (by decide), if_neg (nI_bad (by omega) (by omega)), nI_c (by omega)]
        simp only [bd]
        refine ⟨sI V 20 i (V.1 20 i * a), _, ⟨fun c hc => ?_, v2, fun k hk => ?_, fun k hk => ?_, by simp only [chN]; rw [if_neg c]⟩, rfl⟩
        · rw [← v1 c hc]; funext j; simp [sI, hc]
        · by_cases e : k = i
          · subst e
            have : (sI V 20 k (V.1 20 k * a)).1 20 k = V.1 20 k * a := by simp [sI]
            rw [this]; exact em
          · rw [← v3 k (by omega)]; simp [sI, e]
        · have : k ≠ i := by omega
          rw [← v4 k (by omega)]; simp [sI, this]
    · rintro V x k61 ⟨v1, v2, v3, v4, rfl⟩
      have szV : V.1 16 4 = nI g.1.1 := by rw [v1 16 (by omega)]; exact sz
      unfold f_X8_scale_61 f_X3_size
      simp only [bo]
      rw [szV, if_pos (by rw [nI_leI (by omega) (by omega)]; omega), forg_e]
      refine ⟨_, _, rfl, Or.inr ⟨q, rfl, ?_⟩⟩
      obtain ⟨⟨y1, y2, y3, y4, y5, y6⟩, -⟩ := h
      apply CCo.forg
      refine ⟨?_, ⟨szV, fun k hk => ?_⟩, ?_, ?_, ?_, ?_⟩
      · show CT V 6 (tbl (scG g.1.2 a.toInt) g.1.1)
        rw [scG_t]
        exact y1.keep (by rw [v1 6 (by omega)]) (v1 7 (by omega)) (v1 8 (by omega)) (v1 9 (by omega)) (v1 10 (by omega))
      · rw [v1 17 (by omega), v1 18 (by omega), v1 19 (by omega)]
        obtain ⟨b1, b2, b3, -⟩ := lits k hk
        exact ⟨b1, by show _ = nI (lft (scG g.1.2 a.toInt) k); rw [(scG_l k).1]; exact b2, by show _ = nI (rgt (scG g.1.2 a.toInt) k); rw [(scG_l k).2]; exact b3, v3 k hk⟩
      · rw [v1 0 (by omega), v1 1 (by omega)]; exact y3
      · rw [v1 0 (by omega)]; exact y4
      · rw [v1 0 (by omega)]; exact y5
      · rw [v1 0 (by omega)]; exact y6
theorem scale_M {n : Nat} {S : St} {g : Gh} (hn : 30 ≤ n) (hg : Gd g) (h : MI S g) {a : Int32} (ha : -1000 ≤ a.toInt ∧ a.toInt ≤ 1000) : ∃ r T, fixF (fun _ _ _ => none) (f_X9_scale_20 n a) n S (0 : Int32) (0 : Int32) = some (r, T) ∧ (((∃ k, k < g.1.1 ∧ bigZ ((g.1.2 k).2.2.2 * a.toInt)) ∧ r = -2000000006 ∧ T = S) ∨ ((∀ k, k < g.1.1 → ¬ bigZ ((g.1.2 k).2.2.2 * a.toInt)) ∧ r = nI (chN (fun k => (g.1.2 k).2.2.2) a.toInt g.1.1) ∧ MI T ((g.1.1, scG g.1.2 a.toInt), g.2))) := by
  have hL := hg.1.1
  have sz := h.2.1.1
  have lits := h.2.1.2
  refine for_up2' (α := Int32 × St) (β := Int32) (f_X9_scale_20 n a) (fun _ _ _ => none) g.1.1 (fun i T x => T = S ∧ (∀ k, k < i → ¬ bigZ ((g.1.2 k).2.2.2 * a.toInt)) ∧ x = nI (chN (fun k => (g.1.2 k).2.2.2) a.toInt i)) (fun o => ∃ r T, o = some (r, T) ∧ (((∃ k, k < g.1.1 ∧ bigZ ((g.1.2 k).2.2.2 * a.toInt)) ∧ r = -2000000006 ∧ T = S) ∨ ((∀ k, k < g.1.1 → ¬ bigZ ((g.1.2 k).2.2.2 * a.toInt)) ∧ r = nI (chN (fun k => (g.1.2 k).2.2.2) a.toInt g.1.1) ∧ MI T ((g.1.1, scG g.1.2 a.toInt), g.2)))) ?_ ?_ n 0 S 0 (by omega) (by omega) ⟨rfl, fun k hk => by omega, rfl⟩
  · rintro i T x k hi ⟨rfl, q, rfl⟩
    obtain ⟨-, -, -, b4⟩ := lits i hi
    have nb := hg.1.2.2.1 i hi
    have em := mul64 (x := T.1 33 i) (a := a) (by rw [b4]; exact nb.2) ha
    rw [b4] at em
    unfold f_X9_scale_20 f_X9_scale_80
    simp only [bd, if_neg (nI_g (show i < 10 by omega) (by omega)), nI_c (show i < 2 ^ 31 by omega)]
    rw [sz, if_neg (by rw [nI_leI (by omega) (by omega)]; omega), nI_1, nI_1, Int32.add_zero]
    simp only [c_gt, c_ge, c_eq, t9.1, t9.2, em, i2l, b4]
    by_cases c : bigZ ((g.1.2 i).2.2.2 * a.toInt)
    · left
      have cc := c
      unfold bigZ at cc
      by_cases c1 : 2000000000 < (g.1.2 i).2.2.2 * a.toInt
      · rw [if_pos c1]
        exact ⟨_, T, rfl, Or.inl ⟨⟨i, hi, c⟩, rfl, rfl⟩⟩
      · rw [if_neg c1, if_neg (by omega)]
        exact ⟨_, T, rfl, Or.inl ⟨⟨i, hi, c⟩, rfl, rfl⟩⟩
    · right
      have cc := c
      unfold bigZ at cc
      have nq : ∀ k, k < i + 1 → ¬ bigZ ((g.1.2 k).2.2.2 * a.toInt) := fun k hk => by
        by_cases e : k = i
        · rw [e]; exact c
        · exact q k (by omega)
      rw [if_neg (by omega), if_pos (by omega)]
      by_cases c2 : (g.1.2 i).2.2.2 * a.toInt = (g.1.2 i).2.2.2
      · rw [if_pos c2]
        exact ⟨T, _, ⟨rfl, nq, by simp only [chN]; rw [if_pos c2]; rfl⟩, rfl⟩
      · rw [if_neg c2]
        exact ⟨T, _, ⟨rfl, nq, by simp only [chN]; rw [if_neg c2]⟩, rfl⟩
  · rintro T x k ⟨rfl, q, rfl⟩
    unfold f_X9_scale_20
    rw [sz, if_pos (by rw [nI_leI (by omega) (by omega)]; omega)]
    simp only [bd]
    refine for_up (α := Int32 × St) (f_X9_scale_90 n a (nI (chN (fun k => (g.1.2 k).2.2.2) a.toInt g.1.1))) (fun _ _ => none) g.1.1 (fun i V => (∀ c, c ≠ 33 → V.1 c = T.1 c) ∧ (∀ k, k < i → (V.1 33 k).toInt = (g.1.2 k).2.2.2 * a.toInt) ∧ (∀ k, i ≤ k → V.1 33 k = T.1 33 k)) (fun o => ∃ r V, o = some (r, V) ∧ (((∃ k, k < g.1.1 ∧ bigZ ((g.1.2 k).2.2.2 * a.toInt)) ∧ r = -2000000006 ∧ V = T) ∨ ((∀ k, k < g.1.1 → ¬ bigZ ((g.1.2 k).2.2.2 * a.toInt)) ∧ r = nI (chN (fun k => (g.1.2 k).2.2.2) a.toInt g.1.1) ∧ MI V ((g.1.1, scG g.1.2 a.toInt), g.2)))) ?_ ?_ n 0 T (by omega) (by omega) ⟨fun _ _ => rfl, fun k hk => by omega, fun _ _ => rfl⟩
    · rintro i V k90 hi ⟨v1, v3, v4⟩
      right
      obtain ⟨-, -, -, b4⟩ := lits i hi
      have nq := q i hi
      unfold bigZ at nq
      have szV : V.1 28 2 = nI g.1.1 := by rw [v1 28 (by omega)]; exact sz
      have e20 : (V.1 33 i).toInt = (g.1.2 i).2.2.2 := by rw [v4 i (Nat.le_refl _)]; exact b4
      have em := mul32 (x := V.1 33 i) (a := a) (by rw [e20]; omega)
      rw [e20] at em
      unfold f_X9_scale_90
      simp only [bd, if_neg (nI_g (show i < 10 by omega) (by omega)), nI_c (show i < 2 ^ 31 by omega), nI_1]
      rw [szV, if_neg (by rw [nI_leI (by omega) (by omega)]; omega)]
      refine ⟨sI V 33 i (V.1 33 i * a), ⟨fun c hc => ?_, fun k hk => ?_, fun k hk => ?_⟩, rfl⟩
      · rw [← v1 c hc]; funext j; simp [sI, hc]
      · by_cases e : k = i
        · subst e
          have : (sI V 33 k (V.1 33 k * a)).1 33 k = V.1 33 k * a := by simp [sI]
          rw [this]; exact em
        · rw [← v3 k (by omega)]; simp [sI, e]
      · have : k ≠ i := by omega
        rw [← v4 k (by omega)]; simp [sI, this]
    · rintro V k90 ⟨v1, v3, v4⟩
      have szV : V.1 28 2 = nI g.1.1 := by rw [v1 28 (by omega)]; exact sz
      unfold f_X9_scale_90
      rw [szV, if_pos (by rw [nI_leI (by omega) (by omega)]; omega)]
      refine ⟨_, V, rfl, Or.inr ⟨q, rfl, ?_⟩⟩
      obtain ⟨x1, x2, x3, x4, x5, x6, x7⟩ := h
      refine ⟨?_, ⟨szV, fun k hk => ?_⟩, fun k hk => ?_, ?_, ?_, ?_, ?_⟩
      · show MT V (tbl (scG g.1.2 a.toInt) g.1.1)
        rw [scG_t]
        exact x1.keep (by rw [v1 28 (by omega)]) (v1 35 (by omega)) (v1 36 (by omega)) (v1 37 (by omega))
      · rw [v1 32 (by omega), v1 38 (by omega), v1 39 (by omega)]
        obtain ⟨b1, b2, b3, -⟩ := lits k hk
        exact ⟨b1, by show _ = nI (lft (scG g.1.2 a.toInt) k); rw [(scG_l k).1]; exact b2, by show _ = nI (rgt (scG g.1.2 a.toInt) k); rw [(scG_l k).2]; exact b3, v3 k hk⟩
      · exact (x3 k hk).keep (v1 30 (by omega)) (by rw [v1 31 (by omega)])
      · rw [v1 28 (by omega), v1 29 (by omega)]; exact x4
      · rw [v1 28 (by omega)]; exact x5
      · rw [v1 28 (by omega)]; exact x6
      · rw [v1 28 (by omega)]; exact x7
theorem op_scale {n : Nat} {S : St} (hn : 30 ≤ n) (hI : Inv S) (a : Int32) : OpOk (fun S => f_X8_scale n S a) (fun S => f_X9_scale n S a) S := by
  obtain ⟨g, hg, hc, hm⟩ := hI
  have k1 : (-1000 : Int32).toInt = -1000 ∧ (1000 : Int32).toInt = 1000 := by decide
  have hwc : ∀ c, 28 ≤ c ∧ c ≤ 39 → ¬ wr_X8_scale c := fun c hc h => by unfold wr_X8_scale at h; omega
  have hwm : ∀ c, c ≤ 22 ∨ c = 26 ∨ c = 121 → ¬ wr_X9_scale c := fun c hc h => by unfold wr_X9_scale at h; omega
  by_cases c1 : a < -1000
  · refine ⟨-2000000003, S, S, ?_, ?_, g, hg, hc, hm⟩
    · show f_X8_scale n S a = _
      unfold f_X8_scale; rw [if_pos c1]
    · show f_X9_scale n S a = _
      unfold f_X9_scale f_X9_within; rw [if_pos c1]; rfl
  · by_cases c2 : a ≤ 1000
    · have ha : -1000 ≤ a.toInt ∧ a.toInt ≤ 1000 := by
        rw [Int32.lt_iff_toInt_lt, k1.1] at c1
        rw [Int32.le_iff_toInt_le, k1.2] at c2
        omega
      have c3 : ¬ (1000 : Int32) < a := by rw [Int32.lt_iff_toInt_lt, k1.2]; omega
      obtain ⟨r, T, e1, e2⟩ := scale_C hn hg hc ha
      have ec : f_X8_scale n S a = some (r, T) := by unfold f_X8_scale; rw [if_neg c1, if_pos c2]; exact e1
      have hmT : MI T g := hm.kp (fr_X8_scale n S a r T ec) hwc
      obtain ⟨r2, V, d1, d2⟩ := scale_M hn hg hmT ha
      have em : f_X9_scale n T a = some (r2, V) := by
        unfold f_X9_scale f_X9_within
        rw [if_neg c1, if_neg c3]
        simp only [bo]
        rw [if_neg (by decide)]
        exact d1
      have kV := fr_X9_scale n T a r2 V em
      rcases e2 with ⟨b1, b2, b3⟩ | ⟨b1, b2, b3⟩
      · rcases d2 with ⟨-, f2, f3⟩ | ⟨f1, -⟩
        · have : r = r2 := b2.trans f2.symm
          subst this
          exact ⟨r, T, V, ec, em, g, hg, (by rw [f3, b3]; exact hc), (by rw [f3]; exact hmT)⟩
        · obtain ⟨k, hk, hb⟩ := b1
          exact absurd hb (f1 k hk)
      · rcases d2 with ⟨⟨k, hk, hb⟩, -⟩ | ⟨f1, f2, f3⟩
        · exact absurd hb (b1 k hk)
        · have : r = r2 := b2.trans f2.symm
          subst this
          refine ⟨r, T, V, ec, em, ((g.1.1, scG g.1.2 a.toInt), g.2), ⟨⟨hg.1.1, hg.1.2.1, fun k hk => ?_, ?_⟩, hg.2⟩, b3.kp kV hwm, f3⟩
          · have := f1 k hk
            unfold bigZ at this
            exact ⟨(hg.1.2.2.1 k hk).1, by show -2000000000 ≤ (g.1.2 k).2.2.2 * a.toInt; omega, by show (g.1.2 k).2.2.2 * a.toInt ≤ 2000000000; omega⟩
          · show (tbl (scG g.1.2 a.toInt) g.1.1).1 ≤ 10
            rw [scG_t]; exact hg.1.2.2.2
    · have c3 : (1000 : Int32) < a := by
        rw [Int32.le_iff_toInt_le, k1.2] at c2
        rw [Int32.lt_iff_toInt_lt, k1.2]; omega
      refine ⟨-2000000003, S, S, ?_, ?_, g, hg, hc, hm⟩
      · show f_X8_scale n S a = _
        unfold f_X8_scale; rw [if_neg c1, if_neg c2]
      · show f_X9_scale n S a = _
        unfold f_X9_scale f_X9_within; rw [if_neg c1, if_pos c3]; rfl
