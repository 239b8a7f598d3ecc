/-! FINER FRAMES: the solver leaves the distances of the exchange (121) alone -/
def wq_X6_demandEqual : Nat → Prop := fun c => (50 ≤ c ∧ c < 121) ∨ c = 23
theorem fq_X6_demandEqual (n : Nat) (S : St) (a1 : Int32) (a2 : Int32) (r : Unit) (S2 : St) (hf : f_X6_demandEqual n S a1 a2 = some (r, S2)) : Keeps (wq_X6_demandEqual) S S2 := by
  have hk : Keeps (wq_X6_demandEqual) S S := Keeps.rf
  unfold f_X6_demandEqual at hf
  obtain ⟨g_1, hf⟩ := gd_inv hf
  try have gg_1 := (not_or.mp g_1).2
  obtain ⟨r_2, S_3, hc_4, hf⟩ := bo_inv hf
  have hk := hk.trans ((fr_X1_equate n _ _ _ _ _ _ hc_4).mono (by intro c h; unfold wr_X1_equate at h; unfold wq_X6_demandEqual; omega))
  rcases (Decidable.em (r_2 = 0)).symm with b_5 | b_5
  · have hf := if_f b_5 hf
    exact (rt_inv hf).2 ▸ hk
  · have hf := if_t b_5 hf
    obtain ⟨S_6, eS_6, hf⟩ := bd_inv hf
    have hk := hk.trans (kpI eS_6 (by unfold wq_X6_demandEqual; omega))
    exact (rt_inv hf).2 ▸ hk
def wq_X6_demandDifferent : Nat → Prop := fun c => (50 ≤ c ∧ c < 121) ∨ c = 23
theorem fq_X6_demandDifferent (n : Nat) (S : St) (a1 : Int32) (a2 : Int32) (r : Unit) (S2 : St) (hf : f_X6_demandDifferent n S a1 a2 = some (r, S2)) : Keeps (wq_X6_demandDifferent) S S2 := by
  have hk : Keeps (wq_X6_demandDifferent) S S := Keeps.rf
  unfold f_X6_demandDifferent at hf
  rcases (Decidable.em ((S.1 23 3) < 0)) with b_1 | b_1
  · have hf := if_t b_1 hf
    exact (rt_inv hf).2 ▸ hk
  · have hf := if_f b_1 hf
    rcases (Decidable.em ((22 : Int32) ≤ (S.1 23 3))) with b_2 | b_2
    · have hf := if_t b_2 hf
      exact (rt_inv hf).2 ▸ hk
    · have hf := if_f b_2 hf
      obtain ⟨g_3, hf⟩ := gd_inv hf
      try have gg_3 := (not_or.mp g_3).2
      obtain ⟨r_4, S_5, hc_6, hf⟩ := bo_inv hf
      have hk := hk.trans ((fr_X0_setInequality n _ _ _ _ _ _ hc_6).mono (by intro c h; unfold wr_X0_setInequality at h; unfold wq_X6_demandDifferent; omega))
      obtain ⟨S_7, eS_7, hf⟩ := bd_inv hf
      have hk := hk.trans (kpI eS_7 (by unfold wq_X6_demandDifferent; omega))
      exact (rt_inv hf).2 ▸ hk
def wq_X6_demandAtMost : Nat → Prop := fun c => (50 ≤ c ∧ c < 121) ∨ c = 23
theorem fq_X6_demandAtMost (n : Nat) (S : St) (a1 : Int32) (a2 : Int32) (a3 : Int32) (r : Unit) (S2 : St) (hf : f_X6_demandAtMost n S a1 a2 a3 = some (r, S2)) : Keeps (wq_X6_demandAtMost) S S2 := by
  have hk : Keeps (wq_X6_demandAtMost) S S := Keeps.rf
  unfold f_X6_demandAtMost at hf
  obtain ⟨g_1, hf⟩ := gd_inv hf
  try have gg_1 := (not_or.mp g_1).2
  obtain ⟨r_2, S_3, hc_4, hf⟩ := bo_inv hf
  have hk := hk.trans ((fr_X1_bound n _ _ _ _ _ _ _ hc_4).mono (by intro c h; unfold wr_X1_bound at h; unfold wq_X6_demandAtMost; omega))
  rcases (Decidable.em (r_2 = 0)).symm with b_5 | b_5
  · have hf := if_f b_5 hf
    exact (rt_inv hf).2 ▸ hk
  · have hf := if_t b_5 hf
    obtain ⟨S_6, eS_6, hf⟩ := bd_inv hf
    have hk := hk.trans (kpI eS_6 (by unfold wq_X6_demandAtMost; omega))
    exact (rt_inv hf).2 ▸ hk
def wq_X6_demandLiteral : Nat → Prop := fun c => (50 ≤ c ∧ c < 121) ∨ c = 23
theorem fq_X6_demandLiteral (n : Nat) (S : St) (a1 : Int32) (r : Unit) (S2 : St) (hf : f_X6_demandLiteral n S a1 = some (r, S2)) : Keeps (wq_X6_demandLiteral) S S2 := by
  have hk : Keeps (wq_X6_demandLiteral) S S := Keeps.rf
  unfold f_X6_demandLiteral at hf
  obtain ⟨r_1, S_2, hc_3, hf⟩ := bo_inv hf
  have hk := hk.trans ((fr_X3_leftOf n _ _ _ _ hc_3).mono (fun _ h => False.elim h))
  obtain ⟨x2_4, ex2_4, hf⟩ := bd_inv hf
  obtain ⟨r_5, S_6, hc_7, hf⟩ := bo_inv hf
  have hk := hk.trans ((fr_X3_rightOf n _ _ _ _ hc_7).mono (fun _ h => False.elim h))
  obtain ⟨x3_8, ex3_8, hf⟩ := bd_inv hf
  obtain ⟨r_9, S_10, hc_11, hf⟩ := bo_inv hf
  have hk := hk.trans ((fr_X3_kindOf n _ _ _ _ hc_11).mono (fun _ h => False.elim h))
  rcases (Decidable.em (r_9 = 0)).symm with b_12 | b_12
  · have hf := if_f b_12 hf
    obtain ⟨r_13, S_14, hc_15, hf⟩ := bo_inv hf
    have hk := hk.trans ((fr_X3_kindOf n _ _ _ _ hc_15).mono (fun _ h => False.elim h))
    rcases (Decidable.em (r_13 = (1 : Int32))).symm with b_16 | b_16
    · have hf := if_f b_16 hf
      obtain ⟨r_17, S_18, hc_19, hf⟩ := bo_inv hf
      have hk := hk.trans ((fr_X3_numberOf n _ _ _ _ hc_19).mono (fun _ h => False.elim h))
      obtain ⟨r_20, S_21, hc_22, hf⟩ := bo_inv hf
      have hk := hk.trans ((fq_X6_demandAtMost n _ _ _ _ _ _ hc_22).mono (by intro c h; unfold wq_X6_demandAtMost at h; unfold wq_X6_demandLiteral; omega))
      exact (rt_inv hf).2 ▸ hk
    · have hf := if_t b_16 hf
      obtain ⟨r_23, S_24, hc_25, hf⟩ := bo_inv hf
      have hk := hk.trans ((fq_X6_demandDifferent n _ _ _ _ _ hc_25).mono (by intro c h; unfold wq_X6_demandDifferent at h; unfold wq_X6_demandLiteral; omega))
      exact (rt_inv hf).2 ▸ hk
  · have hf := if_t b_12 hf
    obtain ⟨r_26, S_27, hc_28, hf⟩ := bo_inv hf
    have hk := hk.trans ((fq_X6_demandEqual n _ _ _ _ _ hc_28).mono (by intro c h; unfold wq_X6_demandEqual at h; unfold wq_X6_demandLiteral; omega))
    exact (rt_inv hf).2 ▸ hk
def wq_X6_load : Nat → Prop := fun c => (50 ≤ c ∧ c < 121) ∨ c = 23
theorem fq_X6_load (n : Nat) (S : St) (a1 : Int32) (r : Unit) (S2 : St) (hf : f_X6_load n S a1 = some (r, S2)) : Keeps (wq_X6_load) S S2 := by
  have hk : Keeps (wq_X6_load) S S := Keeps.rf
  obtain ⟨S0, hS0⟩ : ∃ S0, S0 = S := ⟨S, rfl⟩
  have hk : Keeps (wq_X6_load) S0 S := by rw [hS0]; exact hk
  suffices hh : Keeps (wq_X6_load) S0 S2 by rw [hS0] at hh; exact hh
  have j140 : ∀ (x2 : Int32) (k65 : St → Int32 → Option (Unit × St)) (hk65 : ∀ (S : St) (x2 : Int32), k65 S x2 = some (r, S2) → Keeps wq_X6_load S0 S → Keeps wq_X6_load S0 S2) (k80 : St → Int32 → Option (Unit × St)) (hk80 : ∀ (S : St) (x3 : Int32), k80 S x3 = some (r, S2) → Keeps wq_X6_load S0 S → Keeps wq_X6_load S0 S2), ∀ (S : St) (x3 : Int32), f_X6_load_140 n x2 k65 k80 S x3 = some (r, S2) → Keeps wq_X6_load S0 S → Keeps wq_X6_load S0 S2 := by
    intro x2 k65 hk65 k80 hk80 S x3 hf hk
    unfold f_X6_load_140 at hf
    obtain ⟨x3_1, ex3_1, hf⟩ := bd_inv hf
    exact hk80 S x3_1 hf hk
  have b80 : ∀ (x2 : Int32) (k65 : St → Int32 → Option (Unit × St)) (hk65 : ∀ (S : St) (x2 : Int32), k65 S x2 = some (r, S2) → Keeps wq_X6_load S0 S → Keeps wq_X6_load S0 S2) (k80 : St → Int32 → Option (Unit × St)) (hk80 : ∀ (S : St) (x3 : Int32), k80 S x3 = some (r, S2) → Keeps wq_X6_load S0 S → Keeps wq_X6_load S0 S2), ∀ (S : St) (x3 : Int32), f_X6_load_80 n x2 k65 k80 S x3 = some (r, S2) → Keeps wq_X6_load S0 S → Keeps wq_X6_load S0 S2 := by
    intro x2 k65 hk65 k80 hk80 S x3 hf hk
    unfold f_X6_load_80 at hf
    obtain ⟨r_2, S_3, hc_4, hf⟩ := bo_inv hf
    have hk := hk.trans ((fr_X7_size n _ _ _ _ hc_4).mono (fun _ h => False.elim h))
    rcases (Decidable.em (r_2 ≤ x3)) with b_5 | b_5
    · have hf := if_t b_5 hf
      obtain ⟨x2_6, ex2_6, hf⟩ := bd_inv hf
      exact hk65 S_3 x2_6 hf hk
    · have hf := if_f b_5 hf
      obtain ⟨r_7, S_8, hc_9, hf⟩ := bo_inv hf
      have hk := hk.trans ((fr_X7_haveSameFunction n _ _ _ _ _ _ hc_9).mono (fun _ h => False.elim h))
      rcases (Decidable.em (r_7 = 0)) with b_10 | b_10
      · have hf := if_t b_10 hf
        exact j140 x2 k65 hk65 k80 hk80 S_8 x3 hf hk
      · have hf := if_f b_10 hf
        rcases (Decidable.em ((22 : Int32) ≤ (S_8.1 23 3))) with b_11 | b_11
        · have hf := if_t b_11 hf
          exact j140 x2 k65 hk65 k80 hk80 S_8 x3 hf hk
        · have hf := if_f b_11 hf
          obtain ⟨g_12, hf⟩ := gd_inv hf
          try have gg_12 := (not_or.mp g_12).2
          obtain ⟨r_13, S_14, hc_15, hf⟩ := bo_inv hf
          have hk := hk.trans ((fr_X0_setCongruence n _ _ _ _ _ _ _ hc_15).mono (by intro c h; unfold wr_X0_setCongruence at h; unfold wq_X6_load; omega))
          obtain ⟨S_16, eS_16, hf⟩ := bd_inv hf
          have hk := hk.trans (kpI eS_16 (by unfold wq_X6_load; omega))
          exact j140 x2 k65 hk65 k80 hk80 S_16 x3 hf hk
  have j80 : ∀ (x2 : Int32) (k65 : St → Int32 → Option (Unit × St)) (hk65 : ∀ (S : St) (x2 : Int32), k65 S x2 = some (r, S2) → Keeps wq_X6_load S0 S → Keeps wq_X6_load S0 S2) (d : Nat), ∀ (S : St) (x3 : Int32), fixF (fun _ _ => none) (f_X6_load_80 n x2 k65) d S x3 = some (r, S2) → Keeps wq_X6_load S0 S → Keeps wq_X6_load S0 S2 := by
    intro x2 k65 hk65 d
    induction d with
    | zero => intro S x3 hf hk; cases hf
    | succ d ih => exact b80 x2 k65 hk65 (fixF (fun _ _ => none) (f_X6_load_80 n x2 k65) d) ih
  have b65 : ∀ (k65 : St → Int32 → Option (Unit × St)) (hk65 : ∀ (S : St) (x2 : Int32), k65 S x2 = some (r, S2) → Keeps wq_X6_load S0 S → Keeps wq_X6_load S0 S2), ∀ (S : St) (x2 : Int32), f_X6_load_65 n k65 S x2 = some (r, S2) → Keeps wq_X6_load S0 S → Keeps wq_X6_load S0 S2 := by
    intro k65 hk65 S x2 hf hk
    unfold f_X6_load_65 at hf
    obtain ⟨r_17, S_18, hc_19, hf⟩ := bo_inv hf
    have hk := hk.trans ((fr_X7_size n _ _ _ _ hc_19).mono (fun _ h => False.elim h))
    rcases (Decidable.em (r_17 ≤ x2)) with b_20 | b_20
    · have hf := if_t b_20 hf
      exact (rt_inv hf).2 ▸ hk
    · have hf := if_f b_20 hf
      obtain ⟨x3_21, ex3_21, hf⟩ := bd_inv hf
      exact j80 x2 k65 hk65 n S_18 x3_21 hf hk
  have j65 : ∀ (d : Nat), ∀ (S : St) (x2 : Int32), fixF (fun _ _ => none) (f_X6_load_65 n) d S x2 = some (r, S2) → Keeps wq_X6_load S0 S → Keeps wq_X6_load S0 S2 := by
    intro   d
    induction d with
    | zero => intro S x2 hf hk; cases hf
    | succ d ih => exact b65   (fixF (fun _ _ => none) (f_X6_load_65 n) d) ih
  have j57 : ∀ (x1 : Int32) (k32 : St → Int32 → Option (Unit × St)) (hk32 : ∀ (S : St) (x2 : Int32), k32 S x2 = some (r, S2) → Keeps wq_X6_load S0 S → Keeps wq_X6_load S0 S2), ∀ (S : St) (x2 : Int32), f_X6_load_57 n x1 k32 S x2 = some (r, S2) → Keeps wq_X6_load S0 S → Keeps wq_X6_load S0 S2 := by
    intro x1 k32 hk32 S x2 hf hk
    unfold f_X6_load_57 at hf
    obtain ⟨x2_22, ex2_22, hf⟩ := bd_inv hf
    exact hk32 S x2_22 hf hk
  have b32 : ∀ (x1 : Int32) (k32 : St → Int32 → Option (Unit × St)) (hk32 : ∀ (S : St) (x2 : Int32), k32 S x2 = some (r, S2) → Keeps wq_X6_load S0 S → Keeps wq_X6_load S0 S2), ∀ (S : St) (x2 : Int32), f_X6_load_32 n x1 k32 S x2 = some (r, S2) → Keeps wq_X6_load S0 S → Keeps wq_X6_load S0 S2 := by
    intro x1 k32 hk32 S x2 hf hk
    unfold f_X6_load_32 at hf
    obtain ⟨r_23, S_24, hc_25, hf⟩ := bo_inv hf
    have hk := hk.trans ((fr_X3_size n _ _ _ hc_25).mono (fun _ h => False.elim h))
    rcases (Decidable.em (r_23 ≤ x2)) with b_26 | b_26
    · have hf := if_t b_26 hf
      obtain ⟨x2_27, ex2_27, hf⟩ := bd_inv hf
      exact j65   n S_24 x2_27 hf hk
    · have hf := if_f b_26 hf
      rcases (Decidable.em (((x1 >>> (x2 &&& 31)) &&& (1 : Int32)) = (1 : Int32))).symm with b_28 | b_28
      · have hf := if_f b_28 hf
        exact j57 x1 k32 hk32 S_24 x2 hf hk
      · have hf := if_t b_28 hf
        obtain ⟨r_29, S_30, hc_31, hf⟩ := bo_inv hf
        have hk := hk.trans ((fq_X6_demandLiteral n _ _ _ _ hc_31).mono (by intro c h; unfold wq_X6_demandLiteral at h; unfold wq_X6_load; omega))
        exact j57 x1 k32 hk32 S_30 x2 hf hk
  have j32 : ∀ (x1 : Int32) (d : Nat), ∀ (S : St) (x2 : Int32), fixF (fun _ _ => none) (f_X6_load_32 n x1) d S x2 = some (r, S2) → Keeps wq_X6_load S0 S → Keeps wq_X6_load S0 S2 := by
    intro x1  d
    induction d with
    | zero => intro S x2 hf hk; cases hf
    | succ d ih => exact b32 x1  (fixF (fun _ _ => none) (f_X6_load_32 n x1) d) ih
  unfold f_X6_load at hf
  obtain ⟨S_32, eS_32, hf⟩ := bd_inv hf
  have hk := hk.trans (kpI eS_32 (by unfold wq_X6_load; omega))
  obtain ⟨S_33, eS_33, hf⟩ := bd_inv hf
  have hk := hk.trans (kpI eS_33 (by unfold wq_X6_load; omega))
  obtain ⟨S_34, eS_34, hf⟩ := bd_inv hf
  have hk := hk.trans (kpI eS_34 (by unfold wq_X6_load; omega))
  obtain ⟨r_35, S_36, hc_37, hf⟩ := bo_inv hf
  have hk := hk.trans ((fr_X6_aimAt n _ _ _ _ _ hc_37).mono (by intro c h; unfold wr_X6_aimAt at h; unfold wq_X6_load; omega))
  obtain ⟨g_38, hf⟩ := gd_inv hf
  try have gg_38 := (not_or.mp g_38).2
  obtain ⟨r_39, S_40, hc_41, hf⟩ := bo_inv hf
  have hk := hk.trans ((fr_X1_clear n _ _ _ _ hc_41).mono (by intro c h; unfold wr_X1_clear at h; unfold wq_X6_load; omega))
  obtain ⟨x2_42, ex2_42, hf⟩ := bd_inv hf
  exact j32 a1  n S_40 x2_42 hf hk
def wq_X4_demandDifferentNames : Nat → Prop := fun c => (50 ≤ c ∧ c < 121) ∨ c = 23
theorem fq_X4_demandDifferentNames (n : Nat) (S : St) (a1 : Int32) (r : Unit) (S2 : St) (hf : f_X4_demandDifferentNames n S a1 = some (r, S2)) : Keeps (wq_X4_demandDifferentNames) S S2 := by
  have hk : Keeps (wq_X4_demandDifferentNames) S S := Keeps.rf
  unfold f_X4_demandDifferentNames at hf
  rcases (Decidable.em (a1 < 0)) with b_1 | b_1
  · have hf := if_t b_1 hf
    exact (rt_inv hf).2 ▸ hk
  · have hf := if_f b_1 hf
    rcases (Decidable.em ((10 : Int32) ≤ a1)) with b_2 | b_2
    · have hf := if_t b_2 hf
      exact (rt_inv hf).2 ▸ hk
    · have hf := if_f b_2 hf
      obtain ⟨g_3, hf⟩ := gd_inv hf
      try have gg_3 := (not_or.mp g_3).2
      obtain ⟨g_4, hf⟩ := gd_inv hf
      try have gg_4 := (not_or.mp g_4).2
      obtain ⟨r_5, S_6, hc_7, hf⟩ := bo_inv hf
      have hk := hk.trans ((fq_X6_demandDifferent n _ _ _ _ _ hc_7).mono (by intro c h; unfold wq_X6_demandDifferent at h; unfold wq_X4_demandDifferentNames; omega))
      exact (rt_inv hf).2 ▸ hk
def wq_X6_search : Nat → Prop := fun c => (50 ≤ c ∧ c < 121) ∨ c = 23
theorem fq_X6_search (n d : Nat) : ∀ (S : St) (a1 : Int32) (r : Unit) (S2 : St), fixF (fun _ _ => none) (f_X6_search n) d S a1 = some (r, S2) → Keeps (wq_X6_search) S S2 := by
  induction d with
  | zero => intro S a1 r S2 hf; cases hf
  | succ d ih =>
  intro S a1 r S2 hf
  generalize hkr : fixF (fun _ _ => none) (f_X6_search n) d = kr at ih
  have hf : f_X6_search n kr S a1 = some (r, S2) := by rw [← hkr]; exact hf
  have hk : Keeps (wq_X6_search) S S := Keeps.rf
  obtain ⟨S0, hS0⟩ : ∃ S0, S0 = S := ⟨S, rfl⟩
  have hk : Keeps (wq_X6_search) S0 S := by rw [hS0]; exact hk
  suffices hh : Keeps (wq_X6_search) S0 S2 by rw [hS0] at hh; exact hh
  have j146 : ∀ (x1 : Int32) (q2 : Nat) (x3 : Int32) (x4 : Int32) (k80 : St → Int32 → Option (Unit × St)) (hk80 : ∀ (S : St) (x5 : Int32), k80 S x5 = some (r, S2) → Keeps wq_X6_search S0 S → Keeps wq_X6_search S0 S2), ∀ (S : St) (x5 : Int32), f_X6_search_146 n kr x1 q2 x3 x4 k80 S x5 = some (r, S2) → Keeps wq_X6_search S0 S → Keeps wq_X6_search S0 S2 := by
    intro x1 q2 x3 x4 k80 hk80 S x5 hf hk
    unfold f_X6_search_146 at hf
    obtain ⟨x5_1, ex5_1, hf⟩ := bd_inv hf
    exact hk80 S x5_1 hf hk
  have b80 : ∀ (x1 : Int32) (q2 : Nat) (x3 : Int32) (x4 : Int32) (k80 : St → Int32 → Option (Unit × St)) (hk80 : ∀ (S : St) (x5 : Int32), k80 S x5 = some (r, S2) → Keeps wq_X6_search S0 S → Keeps wq_X6_search S0 S2), ∀ (S : St) (x5 : Int32), f_X6_search_80 n kr x1 q2 x3 x4 k80 S x5 = some (r, S2) → Keeps wq_X6_search S0 S → Keeps wq_X6_search S0 S2 := by
    intro x1 q2 x3 x4 k80 hk80 S x5 hf hk
    unfold f_X6_search_80 at hf
    rcases (Decidable.em ((5 : Int32) ≤ x5)) with b_2 | b_2
    · have hf := if_t b_2 hf
      exact (rt_inv hf).2 ▸ hk
    · have hf := if_f b_2 hf
      rcases (Decidable.em ((23 : Int32) ≤ (x1 + (1 : Int32)))) with b_3 | b_3
      · have hf := if_t b_3 hf
        exact (rt_inv hf).2 ▸ hk
      · have hf := if_f b_3 hf
        rcases (Decidable.em (((x4 >>> (x5 &&& 31)) &&& (1 : Int32)) = (1 : Int32))).symm with b_4 | b_4
        · have hf := if_f b_4 hf
          exact j146 x1 q2 x3 x4 k80 hk80 S x5 hf hk
        · have hf := if_t b_4 hf
          obtain ⟨g_5, hf⟩ := gd_inv hf
          try have gg_5 := (not_or.mp g_5).2
          obtain ⟨r_6, S_7, hc_8, hf⟩ := bo_inv hf
          have hk := hk.trans ((fr_X1_copyFrom n _ _ _ _ _ hc_8).mono (by intro c h; unfold wr_X1_copyFrom at h; unfold wq_X6_search; omega))
          obtain ⟨g_9, hf⟩ := gd_inv hf
          try have gg_9 := (not_or.mp g_9).2
          obtain ⟨g_10, hf⟩ := gd_inv hf
          try have gg_10 := (not_or.mp g_10).2
          obtain ⟨r_11, S_12, hc_13, hf⟩ := bo_inv hf
          have hk := hk.trans ((fr_X0_take n _ _ _ _ _ _ hc_13).mono (by intro c h; unfold wr_X0_take at h; unfold wq_X6_search; omega))
          rcases (Decidable.em (r_11 = 0)) with b_14 | b_14
          · have hf := if_t b_14 hf
            exact j146 x1 q2 x3 x4 k80 hk80 S_12 x5 hf hk
          · have hf := if_f b_14 hf
            obtain ⟨r_15, S_16, hc_17, hf⟩ := bo_inv hf
            have hk := hk.trans (ih _ _ _ _ hc_17)
            exact j146 x1 q2 x3 x4 k80 hk80 S_16 x5 hf hk
  have j80 : ∀ (x1 : Int32) (q2 : Nat) (x3 : Int32) (x4 : Int32) (d : Nat), ∀ (S : St) (x5 : Int32), fixF (fun _ _ => none) (f_X6_search_80 n kr x1 q2 x3 x4) d S x5 = some (r, S2) → Keeps wq_X6_search S0 S → Keeps wq_X6_search S0 S2 := by
    intro x1 q2 x3 x4  d
    induction d with
    | zero => intro S x5 hf hk; cases hf
    | succ d ih => exact b80 x1 q2 x3 x4  (fixF (fun _ _ => none) (f_X6_search_80 n kr x1 q2 x3 x4) d) ih
  have j51 : ∀ (S : St) (q2 : Nat), f_X6_search_51 n kr S q2 = some (r, S2) → Keeps wq_X6_search S0 S → Keeps wq_X6_search S0 S2 := by
    intro S q2 hf hk
    unfold f_X6_search_51 at hf
    obtain ⟨r_18, S_19, hc_20, hf⟩ := bo_inv hf
    have hk := hk.trans ((fr_X1_copyFrom n _ _ _ _ _ hc_20).mono (by intro c h; unfold wr_X1_copyFrom at h; unfold wq_X6_search; omega))
    obtain ⟨S_21, eS_21, hf⟩ := bd_inv hf
    have hk := hk.trans (kpI eS_21 (by unfold wq_X6_search; omega))
    exact (rt_inv hf).2 ▸ hk
  unfold f_X6_search at hf
  rcases (Decidable.em (a1 < 0)) with b_22 | b_22
  · have hf := if_t b_22 hf
    exact (rt_inv hf).2 ▸ hk
  · have hf := if_f b_22 hf
    rcases (Decidable.em (a1 < (23 : Int32))) with b_23 | b_23
    · have hf := if_t b_23 hf
      obtain ⟨g_24, hf⟩ := gd_inv hf
      try have gg_24 := (not_or.mp g_24).2
      obtain ⟨q2_25, eq2_25, hf⟩ := bd_inv hf
      obtain ⟨r_26, S_27, hc_28, hf⟩ := bo_inv hf
      have hk := hk.trans ((fr_X6_demandsMore n _ _ _ _ hc_28).mono (by intro c h; unfold wr_X6_demandsMore at h; unfold wq_X6_search; omega))
      rcases (Decidable.em (r_26 = 0)) with b_29 | b_29
      · have hf := if_t b_29 hf
        exact (rt_inv hf).2 ▸ hk
      · have hf := if_f b_29 hf
        obtain ⟨r_30, S_31, hc_32, hf⟩ := bo_inv hf
        have hk := hk.trans ((fr_X6_takeForcedOptions n _ _ _ _ hc_32).mono (by intro c h; unfold wr_X6_takeForcedOptions at h; unfold wq_X6_search; omega))
        rcases (Decidable.em (r_30 = 0)).symm with b_33 | b_33
        · have hf := if_f b_33 hf
          obtain ⟨r_34, S_35, hc_36, hf⟩ := bo_inv hf
          have hk := hk.trans ((fr_X6_narrowestClause n _ _ _ _ hc_36).mono (fun _ h => False.elim h))
          obtain ⟨x3_37, ex3_37, hf⟩ := bd_inv hf
          rcases (Decidable.em (x3_37 < 0)) with b_38 | b_38
          · have hf := if_t b_38 hf
            exact j51   S_35 q2_25 hf hk
          · have hf := if_f b_38 hf
            rcases (Decidable.em (x3_37 < (22 : Int32))) with b_39 | b_39
            · have hf := if_t b_39 hf
              obtain ⟨g_40, hf⟩ := gd_inv hf
              try have gg_40 := (not_or.mp g_40).2
              obtain ⟨r_41, S_42, hc_43, hf⟩ := bo_inv hf
              have hk := hk.trans ((fr_X0_openOptions n _ _ _ _ _ hc_43).mono (fun _ h => False.elim h))
              obtain ⟨x4_44, ex4_44, hf⟩ := bd_inv hf
              obtain ⟨x5_45, ex5_45, hf⟩ := bd_inv hf
              exact j80 a1 q2_25 x3_37 x4_44  n S_42 x5_45 hf hk
            · have hf := if_f b_39 hf
              exact j51   S_35 q2_25 hf hk
        · have hf := if_t b_33 hf
          exact (rt_inv hf).2 ▸ hk
    · have hf := if_f b_23 hf
      exact (rt_inv hf).2 ▸ hk
def wq_X6_hasSolution : Nat → Prop := fun c => (50 ≤ c ∧ c < 121) ∨ c = 23
theorem fq_X6_hasSolution (n : Nat) (S : St) (r : Int32) (S2 : St) (hf : f_X6_hasSolution n S = some (r, S2)) : Keeps (wq_X6_hasSolution) S S2 := by
  have hk : Keeps (wq_X6_hasSolution) S S := Keeps.rf
  unfold f_X6_hasSolution at hf
  rcases (Decidable.em ((S.1 23 6) = 0)).symm with b_1 | b_1
  · have hf := if_f b_1 hf
    obtain ⟨g_2, hf⟩ := gd_inv hf
    try have gg_2 := (not_or.mp g_2).2
    exact (rt_inv hf).2 ▸ hk
  · have hf := if_t b_1 hf
    obtain ⟨r_3, S_4, hc_5, hf⟩ := bo_inv hf
    have hk := hk.trans ((fq_X6_search n 24 _ _ _ _ hc_5).mono (by intro c h; unfold wq_X6_search at h; unfold wq_X6_hasSolution; omega))
    obtain ⟨g_6, hf⟩ := gd_inv hf
    try have gg_6 := (not_or.mp g_6).2
    exact (rt_inv hf).2 ▸ hk
def wq_X4_pairsTiedWith : Nat → Prop := fun c => (50 ≤ c ∧ c < 121) ∨ c = 23
theorem fq_X4_pairsTiedWith (n : Nat) (S : St) (a1 : Int32) (a2 : Int32) (r : Int32) (S2 : St) (hf : f_X4_pairsTiedWith n S a1 a2 = some (r, S2)) : Keeps (wq_X4_pairsTiedWith) S S2 := by
  have hk : Keeps (wq_X4_pairsTiedWith) S S := Keeps.rf
  obtain ⟨S0, hS0⟩ : ∃ S0, S0 = S := ⟨S, rfl⟩
  have hk : Keeps (wq_X4_pairsTiedWith) S0 S := by rw [hS0]; exact hk
  suffices hh : Keeps (wq_X4_pairsTiedWith) S0 S2 by rw [hS0] at hh; exact hh
  have j66 : ∀ (k30 : St → Int32 → Int32 → Option (Int32 × St)) (hk30 : ∀ (S : St) (x3 : Int32) (x4 : Int32), k30 S x3 x4 = some (r, S2) → Keeps wq_X4_pairsTiedWith S0 S → Keeps wq_X4_pairsTiedWith S0 S2), ∀ (S : St) (x3 : Int32) (x4 : Int32), f_X4_pairsTiedWith_66 n k30 S x3 x4 = some (r, S2) → Keeps wq_X4_pairsTiedWith S0 S → Keeps wq_X4_pairsTiedWith S0 S2 := by
    intro k30 hk30 S x3 x4 hf hk
    unfold f_X4_pairsTiedWith_66 at hf
    obtain ⟨x4_1, ex4_1, hf⟩ := bd_inv hf
    exact hk30 S x3 x4_1 hf hk
  have b30 : ∀ (k30 : St → Int32 → Int32 → Option (Int32 × St)) (hk30 : ∀ (S : St) (x3 : Int32) (x4 : Int32), k30 S x3 x4 = some (r, S2) → Keeps wq_X4_pairsTiedWith S0 S → Keeps wq_X4_pairsTiedWith S0 S2), ∀ (S : St) (x3 : Int32) (x4 : Int32), f_X4_pairsTiedWith_30 n k30 S x3 x4 = some (r, S2) → Keeps wq_X4_pairsTiedWith S0 S → Keeps wq_X4_pairsTiedWith S0 S2 := by
    intro k30 hk30 S x3 x4 hf hk
    unfold f_X4_pairsTiedWith_30 at hf
    rcases (Decidable.em ((10 : Int32) ≤ x4)) with b_2 | b_2
    · have hf := if_t b_2 hf
      exact (rt_inv hf).2 ▸ hk
    · have hf := if_f b_2 hf
      obtain ⟨g_3, hf⟩ := gd_inv hf
      try have gg_3 := (not_or.mp g_3).2
      obtain ⟨g_4, hf⟩ := gd_inv hf
      try have gg_4 := (not_or.mp g_4).2
      obtain ⟨r_5, S_6, hc_7, hf⟩ := bo_inv hf
      have hk := hk.trans ((fr_X6_foundEqual n _ _ _ _ _ hc_7).mono (fun _ h => False.elim h))
      rcases (Decidable.em (r_5 = 0)) with b_8 | b_8
      · have hf := if_t b_8 hf
        exact j66  k30 hk30 S_6 x3 x4 hf hk
      · have hf := if_f b_8 hf
        obtain ⟨x3_9, ex3_9, hf⟩ := bd_inv hf
        exact j66  k30 hk30 S_6 x3_9 x4 hf hk
  have j30 : ∀ (d : Nat), ∀ (S : St) (x3 : Int32) (x4 : Int32), fixF (fun _ _ _ => none) (f_X4_pairsTiedWith_30 n) d S x3 x4 = some (r, S2) → Keeps wq_X4_pairsTiedWith S0 S → Keeps wq_X4_pairsTiedWith S0 S2 := by
    intro   d
    induction d with
    | zero => intro S x3 x4 hf hk; cases hf
    | succ d ih => exact b30   (fixF (fun _ _ _ => none) (f_X4_pairsTiedWith_30 n) d) ih
  unfold f_X4_pairsTiedWith at hf
  obtain ⟨r_10, S_11, hc_12, hf⟩ := bo_inv hf
  have hk := hk.trans ((fq_X6_load n _ _ _ _ hc_12).mono (by intro c h; unfold wq_X6_load at h; unfold wq_X4_pairsTiedWith; omega))
  obtain ⟨r_13, S_14, hc_15, hf⟩ := bo_inv hf
  have hk := hk.trans ((fq_X4_demandDifferentNames n _ _ _ _ hc_15).mono (by intro c h; unfold wq_X4_demandDifferentNames at h; unfold wq_X4_pairsTiedWith; omega))
  obtain ⟨r_16, S_17, hc_18, hf⟩ := bo_inv hf
  have hk := hk.trans ((fq_X6_hasSolution n _ _ _ hc_18).mono (by intro c h; unfold wq_X6_hasSolution at h; unfold wq_X4_pairsTiedWith; omega))
  rcases (Decidable.em (r_16 = 0)).symm with b_19 | b_19
  · have hf := if_f b_19 hf
    obtain ⟨x3_20, ex3_20, hf⟩ := bd_inv hf
    obtain ⟨x4_21, ex4_21, hf⟩ := bd_inv hf
    exact j30   n S_17 x3_20 x4_21 hf hk
  · have hf := if_t b_19 hf
    exact (rt_inv hf).2 ▸ hk
def wq_X4_oneIsEqual : Nat → Prop := fun c => (50 ≤ c ∧ c < 121) ∨ c = 23
theorem fq_X4_oneIsEqual (n : Nat) (S : St) (a1 : Int32) (a2 : Int32) (a3 : Int32) (r : Int32) (S2 : St) (hf : f_X4_oneIsEqual n S a1 a2 a3 = some (r, S2)) : Keeps (wq_X4_oneIsEqual) S S2 := by
  have hk : Keeps (wq_X4_oneIsEqual) S S := Keeps.rf
  unfold f_X4_oneIsEqual at hf
  obtain ⟨r_1, S_2, hc_3, hf⟩ := bo_inv hf
  have hk := hk.trans ((fq_X6_load n _ _ _ _ hc_3).mono (by intro c h; unfold wq_X6_load at h; unfold wq_X4_oneIsEqual; omega))
  obtain ⟨r_4, S_5, hc_6, hf⟩ := bo_inv hf
  have hk := hk.trans ((fq_X4_demandDifferentNames n _ _ _ _ hc_6).mono (by intro c h; unfold wq_X4_demandDifferentNames at h; unfold wq_X4_oneIsEqual; omega))
  obtain ⟨r_7, S_8, hc_9, hf⟩ := bo_inv hf
  have hk := hk.trans ((fq_X4_demandDifferentNames n _ _ _ _ hc_9).mono (by intro c h; unfold wq_X4_demandDifferentNames at h; unfold wq_X4_oneIsEqual; omega))
  obtain ⟨r_10, S_11, hc_12, hf⟩ := bo_inv hf
  have hk := hk.trans ((fq_X6_hasSolution n _ _ _ hc_12).mono (by intro c h; unfold wq_X6_hasSolution at h; unfold wq_X4_oneIsEqual; omega))
  rcases (Decidable.em (r_10 = 0)).symm with b_13 | b_13
  · have hf := if_f b_13 hf
    exact (rt_inv hf).2 ▸ hk
  · have hf := if_t b_13 hf
    exact (rt_inv hf).2 ▸ hk
def wq_X4_find : Nat → Prop := fun c => (50 ≤ c ∧ c < 121) ∨ c = 23 ∨ c = 26 ∨ c = 27
theorem fq_X4_find (n : Nat) (S : St) (a1 : Int32) (r : Unit) (S2 : St) (hf : f_X4_find n S a1 = some (r, S2)) : Keeps (wq_X4_find) S S2 := by
  have hk : Keeps (wq_X4_find) S S := Keeps.rf
  obtain ⟨S0, hS0⟩ : ∃ S0, S0 = S := ⟨S, rfl⟩
  have hk : Keeps (wq_X4_find) S0 S := by rw [hS0]; exact hk
  suffices hh : Keeps (wq_X4_find) S0 S2 by rw [hS0] at hh; exact hh
  have j115 : ∀ (x1 : Int32) (k40 : St → Int32 → Option (Unit × St)) (hk40 : ∀ (S : St) (x2 : Int32), k40 S x2 = some (r, S2) → Keeps wq_X4_find S0 S → Keeps wq_X4_find S0 S2), ∀ (S : St) (x2 : Int32), f_X4_find_115 n x1 k40 S x2 = some (r, S2) → Keeps wq_X4_find S0 S → Keeps wq_X4_find S0 S2 := by
    intro x1 k40 hk40 S x2 hf hk
    unfold f_X4_find_115 at hf
    obtain ⟨x2_1, ex2_1, hf⟩ := bd_inv hf
    exact hk40 S x2_1 hf hk
  have j109 : ∀ (x1 : Int32) (x2 : Int32) (k40 : St → Int32 → Option (Unit × St)) (hk40 : ∀ (S : St) (x2 : Int32), k40 S x2 = some (r, S2) → Keeps wq_X4_find S0 S → Keeps wq_X4_find S0 S2) (k59 : St → Int32 → Option (Unit × St)) (hk59 : ∀ (S : St) (x3 : Int32), k59 S x3 = some (r, S2) → Keeps wq_X4_find S0 S → Keeps wq_X4_find S0 S2), ∀ (S : St) (x3 : Int32), f_X4_find_109 n x1 x2 k40 k59 S x3 = some (r, S2) → Keeps wq_X4_find S0 S → Keeps wq_X4_find S0 S2 := by
    intro x1 x2 k40 hk40 k59 hk59 S x3 hf hk
    unfold f_X4_find_109 at hf
    obtain ⟨x3_2, ex3_2, hf⟩ := bd_inv hf
    exact hk59 S x3_2 hf hk
  have b59 : ∀ (x1 : Int32) (x2 : Int32) (k40 : St → Int32 → Option (Unit × St)) (hk40 : ∀ (S : St) (x2 : Int32), k40 S x2 = some (r, S2) → Keeps wq_X4_find S0 S → Keeps wq_X4_find S0 S2) (k59 : St → Int32 → Option (Unit × St)) (hk59 : ∀ (S : St) (x3 : Int32), k59 S x3 = some (r, S2) → Keeps wq_X4_find S0 S → Keeps wq_X4_find S0 S2), ∀ (S : St) (x3 : Int32), f_X4_find_59 n x1 x2 k40 k59 S x3 = some (r, S2) → Keeps wq_X4_find S0 S → Keeps wq_X4_find S0 S2 := by
    intro x1 x2 k40 hk40 k59 hk59 S x3 hf hk
    unfold f_X4_find_59 at hf
    rcases (Decidable.em ((10 : Int32) ≤ x3)) with b_3 | b_3
    · have hf := if_t b_3 hf
      exact j115 x1 k40 hk40 S x2 hf hk
    · have hf := if_f b_3 hf
      rcases (Decidable.em ((S.1 26 2) = (-2000000001 : Int32))).symm with b_4 | b_4
      · have hf := if_f b_4 hf
        exact j115 x1 k40 hk40 S x2 hf hk
      · have hf := if_t b_4 hf
        obtain ⟨r_5, S_6, hc_7, hf⟩ := bo_inv hf
        have hk := hk.trans ((fr_X4_areTied n _ _ _ _ _ hc_7).mono (fun _ h => False.elim h))
        rcases (Decidable.em (r_5 = 0)) with b_8 | b_8
        · have hf := if_t b_8 hf
          exact j109 x1 x2 k40 hk40 k59 hk59 S_6 x3 hf hk
        · have hf := if_f b_8 hf
          obtain ⟨r_9, S_10, hc_11, hf⟩ := bo_inv hf
          have hk := hk.trans ((fq_X4_oneIsEqual n _ _ _ _ _ _ hc_11).mono (by intro c h; unfold wq_X4_oneIsEqual at h; unfold wq_X4_find; omega))
          rcases (Decidable.em (r_9 = 0)) with b_12 | b_12
          · have hf := if_t b_12 hf
            exact j109 x1 x2 k40 hk40 k59 hk59 S_10 x3 hf hk
          · have hf := if_f b_12 hf
            obtain ⟨r_13, S_14, hc_15, hf⟩ := bo_inv hf
            have hk := hk.trans ((fr_X4_asAnswerOf n _ _ _ _ hc_15).mono (fun _ h => False.elim h))
            obtain ⟨S_16, eS_16, hf⟩ := bd_inv hf
            have hk := hk.trans (kpI eS_16 (by unfold wq_X4_find; omega))
            obtain ⟨r_17, S_18, hc_19, hf⟩ := bo_inv hf
            have hk := hk.trans ((fr_X4_asAnswerOf n _ _ _ _ hc_19).mono (fun _ h => False.elim h))
            obtain ⟨S_20, eS_20, hf⟩ := bd_inv hf
            have hk := hk.trans (kpI eS_20 (by unfold wq_X4_find; omega))
            exact j109 x1 x2 k40 hk40 k59 hk59 S_20 x3 hf hk
  have j59 : ∀ (x1 : Int32) (x2 : Int32) (k40 : St → Int32 → Option (Unit × St)) (hk40 : ∀ (S : St) (x2 : Int32), k40 S x2 = some (r, S2) → Keeps wq_X4_find S0 S → Keeps wq_X4_find S0 S2) (d : Nat), ∀ (S : St) (x3 : Int32), fixF (fun _ _ => none) (f_X4_find_59 n x1 x2 k40) d S x3 = some (r, S2) → Keeps wq_X4_find S0 S → Keeps wq_X4_find S0 S2 := by
    intro x1 x2 k40 hk40 d
    induction d with
    | zero => intro S x3 hf hk; cases hf
    | succ d ih => exact b59 x1 x2 k40 hk40 (fixF (fun _ _ => none) (f_X4_find_59 n x1 x2 k40) d) ih
  have b40 : ∀ (x1 : Int32) (k40 : St → Int32 → Option (Unit × St)) (hk40 : ∀ (S : St) (x2 : Int32), k40 S x2 = some (r, S2) → Keeps wq_X4_find S0 S → Keeps wq_X4_find S0 S2), ∀ (S : St) (x2 : Int32), f_X4_find_40 n x1 k40 S x2 = some (r, S2) → Keeps wq_X4_find S0 S → Keeps wq_X4_find S0 S2 := by
    intro x1 k40 hk40 S x2 hf hk
    unfold f_X4_find_40 at hf
    rcases (Decidable.em ((10 : Int32) ≤ x2)) with b_21 | b_21
    · have hf := if_t b_21 hf
      exact (rt_inv hf).2 ▸ hk
    · have hf := if_f b_21 hf
      rcases (Decidable.em ((S.1 26 2) = (-2000000001 : Int32))).symm with b_22 | b_22
      · have hf := if_f b_22 hf
        exact (rt_inv hf).2 ▸ hk
      · have hf := if_t b_22 hf
        obtain ⟨x3_23, ex3_23, hf⟩ := bd_inv hf
        exact j59 x1 x2 k40 hk40 n S x3_23 hf hk
  have j40 : ∀ (x1 : Int32) (d : Nat), ∀ (S : St) (x2 : Int32), fixF (fun _ _ => none) (f_X4_find_40 n x1) d S x2 = some (r, S2) → Keeps wq_X4_find S0 S → Keeps wq_X4_find S0 S2 := by
    intro x1  d
    induction d with
    | zero => intro S x2 hf hk; cases hf
    | succ d ih => exact b40 x1  (fixF (fun _ _ => none) (f_X4_find_40 n x1) d) ih
  have b14 : ∀ (x1 : Int32) (k14 : St → Int32 → Option (Unit × St)) (hk14 : ∀ (S : St) (x2 : Int32), k14 S x2 = some (r, S2) → Keeps wq_X4_find S0 S → Keeps wq_X4_find S0 S2), ∀ (S : St) (x2 : Int32), f_X4_find_14 n x1 k14 S x2 = some (r, S2) → Keeps wq_X4_find S0 S → Keeps wq_X4_find S0 S2 := by
    intro x1 k14 hk14 S x2 hf hk
    unfold f_X4_find_14 at hf
    rcases (Decidable.em ((10 : Int32) ≤ x2)) with b_24 | b_24
    · have hf := if_t b_24 hf
      obtain ⟨x2_25, ex2_25, hf⟩ := bd_inv hf
      exact j40 x1  n S x2_25 hf hk
    · have hf := if_f b_24 hf
      obtain ⟨r_26, S_27, hc_28, hf⟩ := bo_inv hf
      have hk := hk.trans ((fq_X4_pairsTiedWith n _ _ _ _ _ hc_28).mono (by intro c h; unfold wq_X4_pairsTiedWith at h; unfold wq_X4_find; omega))
      obtain ⟨g_29, hf⟩ := gd_inv hf
      try have gg_29 := (not_or.mp g_29).2
      obtain ⟨S_30, eS_30, hf⟩ := bd_inv hf
      have hk := hk.trans (kpI eS_30 (by unfold wq_X4_find; omega))
      obtain ⟨x2_31, ex2_31, hf⟩ := bd_inv hf
      exact hk14 S_30 x2_31 hf hk
  have j14 : ∀ (x1 : Int32) (d : Nat), ∀ (S : St) (x2 : Int32), fixF (fun _ _ => none) (f_X4_find_14 n x1) d S x2 = some (r, S2) → Keeps wq_X4_find S0 S → Keeps wq_X4_find S0 S2 := by
    intro x1  d
    induction d with
    | zero => intro S x2 hf hk; cases hf
    | succ d ih => exact b14 x1  (fixF (fun _ _ => none) (f_X4_find_14 n x1) d) ih
  unfold f_X4_find at hf
  obtain ⟨S_32, eS_32, hf⟩ := bd_inv hf
  have hk := hk.trans (kpI eS_32 (by unfold wq_X4_find; omega))
  obtain ⟨S_33, eS_33, hf⟩ := bd_inv hf
  have hk := hk.trans (kpI eS_33 (by unfold wq_X4_find; omega))
  obtain ⟨x2_34, ex2_34, hf⟩ := bd_inv hf
  exact j14 a1  n S_33 x2_34 hf hk
