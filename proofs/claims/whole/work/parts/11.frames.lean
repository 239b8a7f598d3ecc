def wr_X0_clearSecond (q : Nat) : Nat → Prop := fun c => c = q
theorem fr_X0_clearSecond (n : Nat) (q : Nat) (S : St) (r : Unit) (S2 : St) (hf : f_X0_clearSecond n q S = some (r, S2)) : Keeps (wr_X0_clearSecond q) S S2 := by
  have hk : Keeps (wr_X0_clearSecond q) S S := Keeps.rf
  unfold f_X0_clearSecond at hf
  obtain ⟨S_1, eS_1, hf⟩ := bd_inv hf
  have hk := hk.trans (kpI eS_1 (by unfold wr_X0_clearSecond; omega))
  obtain ⟨S_2, eS_2, hf⟩ := bd_inv hf
  have hk := hk.trans (kpI eS_2 (by unfold wr_X0_clearSecond; omega))
  exact (rt_inv hf).2 ▸ hk
def wr_X0_setInequality (q : Nat) : Nat → Prop := fun c => c = q
theorem fr_X0_setInequality (n : Nat) (q : Nat) (S : St) (a1 : Int32) (a2 : Int32) (r : Unit) (S2 : St) (hf : f_X0_setInequality n q S a1 a2 = some (r, S2)) : Keeps (wr_X0_setInequality q) S S2 := by
  have hk : Keeps (wr_X0_setInequality q) S S := Keeps.rf
  unfold f_X0_setInequality at hf
  obtain ⟨S_1, eS_1, hf⟩ := bd_inv hf
  have hk := hk.trans (kpI eS_1 (by unfold wr_X0_setInequality; omega))
  obtain ⟨S_2, eS_2, hf⟩ := bd_inv hf
  have hk := hk.trans (kpI eS_2 (by unfold wr_X0_setInequality; omega))
  obtain ⟨r_3, S_4, hc_5, hf⟩ := bo_inv hf
  have hk := hk.trans ((fr_X0_clearSecond n _ _ _ _ hc_5).mono (by intro c h; unfold wr_X0_clearSecond at h; unfold wr_X0_setInequality; omega))
  obtain ⟨S_6, eS_6, hf⟩ := bd_inv hf
  have hk := hk.trans (kpI eS_6 (by unfold wr_X0_setInequality; omega))
  exact (rt_inv hf).2 ▸ hk
def wr_X7_has (q : Nat) : Nat → Prop := fun c => False
theorem fr_X7_has (n : Nat) (q : Nat) (S : St) (a1 : Int32) (r : Int32) (S2 : St) (hf : f_X7_has n q S a1 = some (r, S2)) : Keeps (wr_X7_has q) S S2 := by
  have hk : Keeps (wr_X7_has q) S S := Keeps.rf
  unfold f_X7_has at hf
  rcases (Decidable.em (a1 < 0)) with b_1 | b_1
  · have hf := if_t b_1 hf
    exact (rt_inv hf).2 ▸ hk
  · have hf := if_f b_1 hf
    rcases (Decidable.em ((S.1 q 4) ≤ a1)) with b_2 | b_2
    · have hf := if_t b_2 hf
      exact (rt_inv hf).2 ▸ hk
    · have hf := if_f b_2 hf
      rcases (Decidable.em ((10 : Int32) ≤ a1)) with b_3 | b_3
      · have hf := if_t b_3 hf
        exact (rt_inv hf).2 ▸ hk
      · have hf := if_f b_3 hf
        exact (rt_inv hf).2 ▸ hk
def wr_X7_firstOf (q : Nat) : Nat → Prop := fun c => False
theorem fr_X7_firstOf (n : Nat) (q : Nat) (S : St) (a1 : Int32) (r : Int32) (S2 : St) (hf : f_X7_firstOf n q S a1 = some (r, S2)) : Keeps (wr_X7_firstOf q) S S2 := by
  have hk : Keeps (wr_X7_firstOf q) S S := Keeps.rf
  unfold f_X7_firstOf at hf
  obtain ⟨r_1, S_2, hc_3, hf⟩ := bo_inv hf
  have hk := hk.trans ((fr_X7_has n _ _ _ _ _ hc_3).mono (fun _ h => False.elim h))
  rcases (Decidable.em (r_1 = 0)) with b_4 | b_4
  · have hf := if_t b_4 hf
    exact (rt_inv hf).2 ▸ hk
  · have hf := if_f b_4 hf
    obtain ⟨g_5, hf⟩ := gd_inv hf
    exact (rt_inv hf).2 ▸ hk
def wr_X7_kindOf (q : Nat) : Nat → Prop := fun c => False
theorem fr_X7_kindOf (n : Nat) (q : Nat) (S : St) (a1 : Int32) (r : Int32) (S2 : St) (hf : f_X7_kindOf n q S a1 = some (r, S2)) : Keeps (wr_X7_kindOf q) S S2 := by
  have hk : Keeps (wr_X7_kindOf q) S S := Keeps.rf
  unfold f_X7_kindOf at hf
  obtain ⟨r_1, S_2, hc_3, hf⟩ := bo_inv hf
  have hk := hk.trans ((fr_X7_has n _ _ _ _ _ hc_3).mono (fun _ h => False.elim h))
  rcases (Decidable.em (r_1 = 0)) with b_4 | b_4
  · have hf := if_t b_4 hf
    exact (rt_inv hf).2 ▸ hk
  · have hf := if_f b_4 hf
    obtain ⟨g_5, hf⟩ := gd_inv hf
    exact (rt_inv hf).2 ▸ hk
def wr_X7_secondOf (q : Nat) : Nat → Prop := fun c => False
theorem fr_X7_secondOf (n : Nat) (q : Nat) (S : St) (a1 : Int32) (r : Int32) (S2 : St) (hf : f_X7_secondOf n q S a1 = some (r, S2)) : Keeps (wr_X7_secondOf q) S S2 := by
  have hk : Keeps (wr_X7_secondOf q) S S := Keeps.rf
  unfold f_X7_secondOf at hf
  obtain ⟨r_1, S_2, hc_3, hf⟩ := bo_inv hf
  have hk := hk.trans ((fr_X7_has n _ _ _ _ _ hc_3).mono (fun _ h => False.elim h))
  rcases (Decidable.em (r_1 = 0)) with b_4 | b_4
  · have hf := if_t b_4 hf
    exact (rt_inv hf).2 ▸ hk
  · have hf := if_f b_4 hf
    obtain ⟨g_5, hf⟩ := gd_inv hf
    exact (rt_inv hf).2 ▸ hk
def wr_X0_setCongruence (q : Nat) (q1 : Nat) : Nat → Prop := fun c => c = q
theorem fr_X0_setCongruence (n : Nat) (q : Nat) (S : St) (q1 : Nat) (a2 : Int32) (a3 : Int32) (r : Unit) (S2 : St) (hf : f_X0_setCongruence n q S q1 a2 a3 = some (r, S2)) : Keeps (wr_X0_setCongruence q q1) S S2 := by
  have hk : Keeps (wr_X0_setCongruence q q1) S S := Keeps.rf
  obtain ⟨S0, hS0⟩ : ∃ S0, S0 = S := ⟨S, rfl⟩
  have hk : Keeps (wr_X0_setCongruence q q1) S0 S := by rw [hS0]; exact hk
  suffices hh : Keeps (wr_X0_setCongruence q q1) S0 S2 by rw [hS0] at hh; exact hh
  have j49 : ∀ (S : St) (x2 : Int32) (x3 : Int32), f_X0_setCongruence_49 n q q1 S x2 x3 = some (r, S2) → Keeps (wr_X0_setCongruence q q1) S0 S → Keeps (wr_X0_setCongruence q q1) S0 S2 := by
    intro S x2 x3 hf hk
    unfold f_X0_setCongruence_49 at hf
    obtain ⟨S_1, eS_1, hf⟩ := bd_inv hf
    have hk := hk.trans (kpI eS_1 (by unfold wr_X0_setCongruence; omega))
    obtain ⟨S_2, eS_2, hf⟩ := bd_inv hf
    have hk := hk.trans (kpI eS_2 (by unfold wr_X0_setCongruence; omega))
    obtain ⟨S_3, eS_3, hf⟩ := bd_inv hf
    have hk := hk.trans (kpI eS_3 (by unfold wr_X0_setCongruence; omega))
    exact (rt_inv hf).2 ▸ hk
  unfold f_X0_setCongruence at hf
  obtain ⟨r_4, S_5, hc_6, hf⟩ := bo_inv hf
  have hk := hk.trans ((fr_X7_firstOf n _ _ _ _ _ hc_6).mono (fun _ h => False.elim h))
  obtain ⟨S_7, eS_7, hf⟩ := bd_inv hf
  have hk := hk.trans (kpI eS_7 (by unfold wr_X0_setCongruence; omega))
  obtain ⟨r_8, S_9, hc_10, hf⟩ := bo_inv hf
  have hk := hk.trans ((fr_X7_firstOf n _ _ _ _ _ hc_10).mono (fun _ h => False.elim h))
  obtain ⟨S_11, eS_11, hf⟩ := bd_inv hf
  have hk := hk.trans (kpI eS_11 (by unfold wr_X0_setCongruence; omega))
  obtain ⟨r_12, S_13, hc_14, hf⟩ := bo_inv hf
  have hk := hk.trans ((fr_X0_clearSecond n _ _ _ _ hc_14).mono (by intro c h; unfold wr_X0_clearSecond at h; unfold wr_X0_setCongruence; omega))
  obtain ⟨r_15, S_16, hc_17, hf⟩ := bo_inv hf
  have hk := hk.trans ((fr_X7_kindOf n _ _ _ _ _ hc_17).mono (fun _ h => False.elim h))
  rcases (Decidable.em (r_15 = (2 : Int32))).symm with b_18 | b_18
  · have hf := if_f b_18 hf
    exact j49   S_16 a2 a3 hf hk
  · have hf := if_t b_18 hf
    obtain ⟨r_19, S_20, hc_21, hf⟩ := bo_inv hf
    have hk := hk.trans ((fr_X7_secondOf n _ _ _ _ _ hc_21).mono (fun _ h => False.elim h))
    obtain ⟨S_22, eS_22, hf⟩ := bd_inv hf
    have hk := hk.trans (kpI eS_22 (by unfold wr_X0_setCongruence; omega))
    obtain ⟨r_23, S_24, hc_25, hf⟩ := bo_inv hf
    have hk := hk.trans ((fr_X7_secondOf n _ _ _ _ _ hc_25).mono (fun _ h => False.elim h))
    obtain ⟨S_26, eS_26, hf⟩ := bd_inv hf
    have hk := hk.trans (kpI eS_26 (by unfold wr_X0_setCongruence; omega))
    exact j49   S_26 a2 a3 hf hk
def wr_X1_between (q : Nat) : Nat → Prop := fun c => False
theorem fr_X1_between (n : Nat) (q : Nat) (S : St) (a1 : Int32) (a2 : Int32) (r : Int64) (S2 : St) (hf : f_X1_between n q S a1 a2 = some (r, S2)) : Keeps (wr_X1_between q) S S2 := by
  have hk : Keeps (wr_X1_between q) S S := Keeps.rf
  unfold f_X1_between at hf
  rcases (Decidable.em (a1 < 0)) with b_1 | b_1
  · have hf := if_t b_1 hf
    exact (rt_inv hf).2 ▸ hk
  · have hf := if_f b_1 hf
    rcases (Decidable.em ((10 : Int32) ≤ a1)) with b_2 | b_2
    · have hf := if_t b_2 hf
      exact (rt_inv hf).2 ▸ hk
    · have hf := if_f b_2 hf
      rcases (Decidable.em (a2 < 0)) with b_3 | b_3
      · have hf := if_t b_3 hf
        exact (rt_inv hf).2 ▸ hk
      · have hf := if_f b_3 hf
        rcases (Decidable.em ((10 : Int32) ≤ a2)) with b_4 | b_4
        · have hf := if_t b_4 hf
          exact (rt_inv hf).2 ▸ hk
        · have hf := if_f b_4 hf
          obtain ⟨g_5, hf⟩ := gd_inv hf
          exact (rt_inv hf).2 ▸ hk
def wr_X0_openOptions (q : Nat) (q1 : Nat) : Nat → Prop := fun c => False
theorem fr_X0_openOptions (n : Nat) (q : Nat) (S : St) (q1 : Nat) (r : Int32) (S2 : St) (hf : f_X0_openOptions n q S q1 = some (r, S2)) : Keeps (wr_X0_openOptions q q1) S S2 := by
  have hk : Keeps (wr_X0_openOptions q q1) S S := Keeps.rf
  obtain ⟨S0, hS0⟩ : ∃ S0, S0 = S := ⟨S, rfl⟩
  have hk : Keeps (wr_X0_openOptions q q1) S0 S := by rw [hS0]; exact hk
  suffices hh : Keeps (wr_X0_openOptions q q1) S0 S2 by rw [hS0] at hh; exact hh
  have j203 : ∀ (S : St) (x10 : Int32) (x11 : Int64) (x13 : Int64), f_X0_openOptions_203 n q q1 S x10 x11 x13 = some (r, S2) → Keeps (wr_X0_openOptions q q1) S0 S → Keeps (wr_X0_openOptions q q1) S0 S2 := by
    intro S x10 x11 x13 hf hk
    unfold f_X0_openOptions_203 at hf
    rcases (Decidable.em ((lg_cmp x11 (0 : Int64)) < 0)) with b_1 | b_1
    · have hf := if_t b_1 hf
      exact (rt_inv hf).2 ▸ hk
    · have hf := if_f b_1 hf
      rcases (Decidable.em ((lg_cmp x13 (0 : Int64)) < 0)) with b_2 | b_2
      · have hf := if_t b_2 hf
        exact (rt_inv hf).2 ▸ hk
      · have hf := if_f b_2 hf
        exact (rt_inv hf).2 ▸ hk
  have j146 : ∀ (S : St) (t0 : Int32) (t1 : Int32), f_X0_openOptions_146 n q q1 S t0 t1 = some (r, S2) → Keeps (wr_X0_openOptions q q1) S0 S → Keeps (wr_X0_openOptions q q1) S0 S2 := by
    intro S t0 t1 hf hk
    unfold f_X0_openOptions_146 at hf
    obtain ⟨x10_3, ex10_3, hf⟩ := bd_inv hf
    rcases (Decidable.em ((S.1 q 4) = 0)).symm with b_4 | b_4
    · have hf := if_f b_4 hf
      obtain ⟨r_5, S_6, hc_7, hf⟩ := bo_inv hf
      have hk := hk.trans ((fr_X1_between n _ _ _ _ _ _ hc_7).mono (fun _ h => False.elim h))
      obtain ⟨x11_8, ex11_8, hf⟩ := bd_inv hf
      obtain ⟨r_9, S_10, hc_11, hf⟩ := bo_inv hf
      have hk := hk.trans ((fr_X1_between n _ _ _ _ _ _ hc_11).mono (fun _ h => False.elim h))
      obtain ⟨x13_12, ex13_12, hf⟩ := bd_inv hf
      rcases (Decidable.em ((lg_cmp x11_8 (0 : Int64)) = 0)).symm with b_13 | b_13
      · have hf := if_f b_13 hf
        exact j203   S_10 x10_3 x11_8 x13_12 hf hk
      · have hf := if_t b_13 hf
        rcases (Decidable.em ((lg_cmp x13_12 (0 : Int64)) = 0)).symm with b_14 | b_14
        · have hf := if_f b_14 hf
          exact j203   S_10 x10_3 x11_8 x13_12 hf hk
        · have hf := if_t b_14 hf
          exact (rt_inv hf).2 ▸ hk
    · have hf := if_t b_4 hf
      exact (rt_inv hf).2 ▸ hk
  have j128 : ∀ (S : St) (x6 : Int64) (t0 : Int32) (t1 : Int32), f_X0_openOptions_128 n q q1 S x6 t0 t1 = some (r, S2) → Keeps (wr_X0_openOptions q q1) S0 S → Keeps (wr_X0_openOptions q q1) S0 S2 := by
    intro S x6 t0 t1 hf hk
    unfold f_X0_openOptions_128 at hf
    obtain ⟨x10_15, ex10_15, hf⟩ := bd_inv hf
    rcases (Decidable.em ((lg_cmp x6 (0 : Int64)) ≤ 0)) with b_16 | b_16
    · have hf := if_t b_16 hf
      exact j146   S x10_15 ((0 : Int32)) hf hk
    · have hf := if_f b_16 hf
      exact j146   S x10_15 ((8 : Int32)) hf hk
  have j111 : ∀ (S : St) (x6 : Int64) (x8 : Int64) (t0 : Int32) (t1 : Int32), f_X0_openOptions_111 n q q1 S x6 x8 t0 t1 = some (r, S2) → Keeps (wr_X0_openOptions q q1) S0 S → Keeps (wr_X0_openOptions q q1) S0 S2 := by
    intro S x6 x8 t0 t1 hf hk
    unfold f_X0_openOptions_111 at hf
    obtain ⟨x10_17, ex10_17, hf⟩ := bd_inv hf
    rcases (Decidable.em ((lg_cmp x8 (0 : Int64)) ≤ 0)) with b_18 | b_18
    · have hf := if_t b_18 hf
      exact j128   S x6 x10_17 ((0 : Int32)) hf hk
    · have hf := if_f b_18 hf
      exact j128   S x6 x10_17 ((4 : Int32)) hf hk
  have j96 : ∀ (S : St) (x2 : Int64) (x6 : Int64) (x8 : Int64) (t0 : Int32), f_X0_openOptions_96 n q q1 S x2 x6 x8 t0 = some (r, S2) → Keeps (wr_X0_openOptions q q1) S0 S → Keeps (wr_X0_openOptions q q1) S0 S2 := by
    intro S x2 x6 x8 t0 hf hk
    unfold f_X0_openOptions_96 at hf
    obtain ⟨x10_19, ex10_19, hf⟩ := bd_inv hf
    rcases (Decidable.em ((lg_cmp x2 (0 : Int64)) ≤ 0)) with b_20 | b_20
    · have hf := if_t b_20 hf
      exact j111   S x6 x8 x10_19 ((0 : Int32)) hf hk
    · have hf := if_f b_20 hf
      exact j111   S x6 x8 x10_19 ((2 : Int32)) hf hk
  unfold f_X0_openOptions at hf
  obtain ⟨r_21, S_22, hc_23, hf⟩ := bo_inv hf
  have hk := hk.trans ((fr_X1_between n _ _ _ _ _ _ hc_23).mono (fun _ h => False.elim h))
  obtain ⟨x2_24, ex2_24, hf⟩ := bd_inv hf
  obtain ⟨r_25, S_26, hc_27, hf⟩ := bo_inv hf
  have hk := hk.trans ((fr_X1_between n _ _ _ _ _ _ hc_27).mono (fun _ h => False.elim h))
  obtain ⟨x4_28, ex4_28, hf⟩ := bd_inv hf
  obtain ⟨r_29, S_30, hc_31, hf⟩ := bo_inv hf
  have hk := hk.trans ((fr_X1_between n _ _ _ _ _ _ hc_31).mono (fun _ h => False.elim h))
  obtain ⟨x6_32, ex6_32, hf⟩ := bd_inv hf
  obtain ⟨r_33, S_34, hc_35, hf⟩ := bo_inv hf
  have hk := hk.trans ((fr_X1_between n _ _ _ _ _ _ hc_35).mono (fun _ h => False.elim h))
  obtain ⟨x8_36, ex8_36, hf⟩ := bd_inv hf
  rcases (Decidable.em ((lg_cmp x2_24 (0 : Int64)) < 0)) with b_37 | b_37
  · have hf := if_t b_37 hf
    exact (rt_inv hf).2 ▸ hk
  · have hf := if_f b_37 hf
    rcases (Decidable.em ((lg_cmp x4_28 (0 : Int64)) < 0)) with b_38 | b_38
    · have hf := if_t b_38 hf
      exact (rt_inv hf).2 ▸ hk
    · have hf := if_f b_38 hf
      rcases (Decidable.em ((lg_cmp x6_32 (0 : Int64)) < 0)) with b_39 | b_39
      · have hf := if_t b_39 hf
        exact (rt_inv hf).2 ▸ hk
      · have hf := if_f b_39 hf
        rcases (Decidable.em (0 ≤ (lg_cmp x8_36 (0 : Int64)))) with b_40 | b_40
        · have hf := if_t b_40 hf
          rcases (Decidable.em ((lg_cmp x4_28 (0 : Int64)) ≤ 0)) with b_41 | b_41
          · have hf := if_t b_41 hf
            exact j96   S_34 x2_24 x6_32 x8_36 ((0 : Int32)) hf hk
          · have hf := if_f b_41 hf
            exact j96   S_34 x2_24 x6_32 x8_36 ((1 : Int32)) hf hk
        · have hf := if_f b_40 hf
          exact (rt_inv hf).2 ▸ hk
def wr_X1_bound (q : Nat) : Nat → Prop := fun c => c = q + 25
theorem fr_X1_bound (n : Nat) (q : Nat) (S : St) (a1 : Int32) (a2 : Int32) (a3 : Int64) (r : Int32) (S2 : St) (hf : f_X1_bound n q S a1 a2 a3 = some (r, S2)) : Keeps (wr_X1_bound q) S S2 := by
  have hk : Keeps (wr_X1_bound q) S S := Keeps.rf
  obtain ⟨S0, hS0⟩ : ∃ S0, S0 = S := ⟨S, rfl⟩
  have hk : Keeps (wr_X1_bound q) S0 S := by rw [hS0]; exact hk
  suffices hh : Keeps (wr_X1_bound q) S0 S2 by rw [hS0] at hh; exact hh
  have j187 : ∀ (x1 : Int32) (x2 : Int32) (x3 : Int64) (k74 : St → Int32 → Option (Int32 × St)) (hk74 : ∀ (S : St) (x7 : Int32), k74 S x7 = some (r, S2) → Keeps (wr_X1_bound q) S0 S → Keeps (wr_X1_bound q) S0 S2), ∀ (S : St) (x7 : Int32), f_X1_bound_187 n q x1 x2 x3 k74 S x7 = some (r, S2) → Keeps (wr_X1_bound q) S0 S → Keeps (wr_X1_bound q) S0 S2 := by
    intro x1 x2 x3 k74 hk74 S x7 hf hk
    unfold f_X1_bound_187 at hf
    obtain ⟨x7_1, ex7_1, hf⟩ := bd_inv hf
    exact hk74 S x7_1 hf hk
  have j181 : ∀ (x1 : Int32) (x2 : Int32) (x3 : Int64) (x7 : Int32) (x8 : Int64) (k74 : St → Int32 → Option (Int32 × St)) (hk74 : ∀ (S : St) (x7 : Int32), k74 S x7 = some (r, S2) → Keeps (wr_X1_bound q) S0 S → Keeps (wr_X1_bound q) S0 S2) (k98 : St → Int32 → Option (Int32 × St)) (hk98 : ∀ (S : St) (x10 : Int32), k98 S x10 = some (r, S2) → Keeps (wr_X1_bound q) S0 S → Keeps (wr_X1_bound q) S0 S2), ∀ (S : St) (x10 : Int32), f_X1_bound_181 n q x1 x2 x3 x7 x8 k74 k98 S x10 = some (r, S2) → Keeps (wr_X1_bound q) S0 S → Keeps (wr_X1_bound q) S0 S2 := by
    intro x1 x2 x3 x7 x8 k74 hk74 k98 hk98 S x10 hf hk
    unfold f_X1_bound_181 at hf
    obtain ⟨x10_2, ex10_2, hf⟩ := bd_inv hf
    exact hk98 S x10_2 hf hk
  have b98 : ∀ (x1 : Int32) (x2 : Int32) (x3 : Int64) (x7 : Int32) (x8 : Int64) (k74 : St → Int32 → Option (Int32 × St)) (hk74 : ∀ (S : St) (x7 : Int32), k74 S x7 = some (r, S2) → Keeps (wr_X1_bound q) S0 S → Keeps (wr_X1_bound q) S0 S2) (k98 : St → Int32 → Option (Int32 × St)) (hk98 : ∀ (S : St) (x10 : Int32), k98 S x10 = some (r, S2) → Keeps (wr_X1_bound q) S0 S → Keeps (wr_X1_bound q) S0 S2), ∀ (S : St) (x10 : Int32), f_X1_bound_98 n q x1 x2 x3 x7 x8 k74 k98 S x10 = some (r, S2) → Keeps (wr_X1_bound q) S0 S → Keeps (wr_X1_bound q) S0 S2 := by
    intro x1 x2 x3 x7 x8 k74 hk74 k98 hk98 S x10 hf hk
    unfold f_X1_bound_98 at hf
    rcases (Decidable.em ((10 : Int32) ≤ x10)) with b_3 | b_3
    · have hf := if_t b_3 hf
      exact j187 x1 x2 x3 k74 hk74 S x7 hf hk
    · have hf := if_f b_3 hf
      rcases (Decidable.em ((lg_cmp x8 (1000000000000000 : Int64)) = 0)) with b_4 | b_4
      · have hf := if_t b_4 hf
        exact j187 x1 x2 x3 k74 hk74 S x7 hf hk
      · have hf := if_f b_4 hf
        obtain ⟨g_5, hf⟩ := gd_inv hf
        obtain ⟨x11_6, ex11_6, hf⟩ := bd_inv hf
        rcases (Decidable.em ((lg_cmp x11_6 (1000000000000000 : Int64)) = 0)) with b_7 | b_7
        · have hf := if_t b_7 hf
          exact j181 x1 x2 x3 x7 x8 k74 hk74 k98 hk98 S x10 hf hk
        · have hf := if_f b_7 hf
          obtain ⟨g_8, hf⟩ := gd_inv hf
          rcases (Decidable.em (0 ≤ (lg_cmp ((x8 + x3) + x11_6) (S.2 (q + 25) (((x7 * (10 : Int32)) + x10)).toNatClampNeg)))) with b_9 | b_9
          · have hf := if_t b_9 hf
            exact j181 x1 x2 x3 x7 x8 k74 hk74 k98 hk98 S x10 hf hk
          · have hf := if_f b_9 hf
            obtain ⟨g_10, hf⟩ := gd_inv hf
            obtain ⟨S_11, eS_11, hf⟩ := bd_inv hf
            have hk := hk.trans (kpL eS_11 (by unfold wr_X1_bound; omega))
            exact j181 x1 x2 x3 x7 x8 k74 hk74 k98 hk98 S_11 x10 hf hk
  have j98 : ∀ (x1 : Int32) (x2 : Int32) (x3 : Int64) (x7 : Int32) (x8 : Int64) (k74 : St → Int32 → Option (Int32 × St)) (hk74 : ∀ (S : St) (x7 : Int32), k74 S x7 = some (r, S2) → Keeps (wr_X1_bound q) S0 S → Keeps (wr_X1_bound q) S0 S2) (d : Nat), ∀ (S : St) (x10 : Int32), fixF (fun _ _ => none) (f_X1_bound_98 n q x1 x2 x3 x7 x8 k74) d S x10 = some (r, S2) → Keeps (wr_X1_bound q) S0 S → Keeps (wr_X1_bound q) S0 S2 := by
    intro x1 x2 x3 x7 x8 k74 hk74 d
    induction d with
    | zero => intro S x10 hf hk; cases hf
    | succ d ih => exact b98 x1 x2 x3 x7 x8 k74 hk74 (fixF (fun _ _ => none) (f_X1_bound_98 n q x1 x2 x3 x7 x8 k74) d) ih
  have b74 : ∀ (x1 : Int32) (x2 : Int32) (x3 : Int64) (k74 : St → Int32 → Option (Int32 × St)) (hk74 : ∀ (S : St) (x7 : Int32), k74 S x7 = some (r, S2) → Keeps (wr_X1_bound q) S0 S → Keeps (wr_X1_bound q) S0 S2), ∀ (S : St) (x7 : Int32), f_X1_bound_74 n q x1 x2 x3 k74 S x7 = some (r, S2) → Keeps (wr_X1_bound q) S0 S → Keeps (wr_X1_bound q) S0 S2 := by
    intro x1 x2 x3 k74 hk74 S x7 hf hk
    unfold f_X1_bound_74 at hf
    rcases (Decidable.em ((10 : Int32) ≤ x7)) with b_12 | b_12
    · have hf := if_t b_12 hf
      exact (rt_inv hf).2 ▸ hk
    · have hf := if_f b_12 hf
      obtain ⟨g_13, hf⟩ := gd_inv hf
      obtain ⟨x8_14, ex8_14, hf⟩ := bd_inv hf
      obtain ⟨x10_15, ex10_15, hf⟩ := bd_inv hf
      exact j98 x1 x2 x3 x7 x8_14 k74 hk74 n S x10_15 hf hk
  have j74 : ∀ (x1 : Int32) (x2 : Int32) (x3 : Int64) (d : Nat), ∀ (S : St) (x7 : Int32), fixF (fun _ _ => none) (f_X1_bound_74 n q x1 x2 x3) d S x7 = some (r, S2) → Keeps (wr_X1_bound q) S0 S → Keeps (wr_X1_bound q) S0 S2 := by
    intro x1 x2 x3  d
    induction d with
    | zero => intro S x7 hf hk; cases hf
    | succ d ih => exact b74 x1 x2 x3  (fixF (fun _ _ => none) (f_X1_bound_74 n q x1 x2 x3) d) ih
  have j71 : ∀ (S : St) (x1 : Int32) (x2 : Int32) (x3 : Int64), f_X1_bound_71 n q S x1 x2 x3 = some (r, S2) → Keeps (wr_X1_bound q) S0 S → Keeps (wr_X1_bound q) S0 S2 := by
    intro S x1 x2 x3 hf hk
    unfold f_X1_bound_71 at hf
    obtain ⟨x7_16, ex7_16, hf⟩ := bd_inv hf
    exact j74 x1 x2 x3  n S x7_16 hf hk
  unfold f_X1_bound at hf
  rcases (Decidable.em (a1 < 0)) with b_17 | b_17
  · have hf := if_t b_17 hf
    exact (rt_inv hf).2 ▸ hk
  · have hf := if_f b_17 hf
    rcases (Decidable.em ((10 : Int32) ≤ a1)) with b_18 | b_18
    · have hf := if_t b_18 hf
      exact (rt_inv hf).2 ▸ hk
    · have hf := if_f b_18 hf
      rcases (Decidable.em (a2 < 0)) with b_19 | b_19
      · have hf := if_t b_19 hf
        exact (rt_inv hf).2 ▸ hk
      · have hf := if_f b_19 hf
        rcases (Decidable.em ((10 : Int32) ≤ a2)) with b_20 | b_20
        · have hf := if_t b_20 hf
          exact (rt_inv hf).2 ▸ hk
        · have hf := if_f b_20 hf
          obtain ⟨g_21, hf⟩ := gd_inv hf
          rcases (Decidable.em (0 < (lg_cmp (S.2 (q + 25) (((a1 * (10 : Int32)) + a2)).toNatClampNeg) a3))) with b_22 | b_22
          · have hf := if_t b_22 hf
            obtain ⟨g_23, hf⟩ := gd_inv hf
            obtain ⟨x5_24, ex5_24, hf⟩ := bd_inv hf
            rcases (Decidable.em ((lg_cmp x5_24 (1000000000000000 : Int64)) = 0)) with b_25 | b_25
            · have hf := if_t b_25 hf
              exact j71   S a1 a2 a3 hf hk
            · have hf := if_f b_25 hf
              rcases (Decidable.em (0 ≤ (lg_cmp (x5_24 + a3) (0 : Int64)))) with b_26 | b_26
              · have hf := if_t b_26 hf
                exact j71   S a1 a2 a3 hf hk
              · have hf := if_f b_26 hf
                exact (rt_inv hf).2 ▸ hk
          · have hf := if_f b_22 hf
            exact (rt_inv hf).2 ▸ hk
def wr_X0_take (q : Nat) (q1 : Nat) : Nat → Prop := fun c => c = q1 + 25
theorem fr_X0_take (n : Nat) (q : Nat) (S : St) (q1 : Nat) (a2 : Int32) (r : Int32) (S2 : St) (hf : f_X0_take n q S q1 a2 = some (r, S2)) : Keeps (wr_X0_take q q1) S S2 := by
  have hk : Keeps (wr_X0_take q q1) S S := Keeps.rf
  unfold f_X0_take at hf
  by_cases b_1 : a2 = (0 : Int32)
  · have hf := if_t b_1 hf
    obtain ⟨r_2, S_3, hc_4, hf⟩ := bo_inv hf
    have hk := hk.trans ((fr_X1_bound n _ _ _ _ _ _ _ hc_4).mono (by intro c h; unfold wr_X1_bound at h; unfold wr_X0_take; omega))
    obtain ⟨g_5, hf⟩ := gd_inv hf
    exact (rt_inv hf).2 ▸ hk
  · have hf := if_f b_1 hf
    by_cases b_6 : a2 = (1 : Int32)
    · have hf := if_t b_6 hf
      obtain ⟨r_7, S_8, hc_9, hf⟩ := bo_inv hf
      have hk := hk.trans ((fr_X1_bound n _ _ _ _ _ _ _ hc_9).mono (by intro c h; unfold wr_X1_bound at h; unfold wr_X0_take; omega))
      obtain ⟨g_10, hf⟩ := gd_inv hf
      exact (rt_inv hf).2 ▸ hk
    · have hf := if_f b_6 hf
      by_cases b_11 : a2 = (2 : Int32)
      · have hf := if_t b_11 hf
        obtain ⟨r_12, S_13, hc_14, hf⟩ := bo_inv hf
        have hk := hk.trans ((fr_X1_bound n _ _ _ _ _ _ _ hc_14).mono (by intro c h; unfold wr_X1_bound at h; unfold wr_X0_take; omega))
        obtain ⟨g_15, hf⟩ := gd_inv hf
        exact (rt_inv hf).2 ▸ hk
      · have hf := if_f b_11 hf
        by_cases b_16 : a2 = (3 : Int32)
        · have hf := if_t b_16 hf
          obtain ⟨r_17, S_18, hc_19, hf⟩ := bo_inv hf
          have hk := hk.trans ((fr_X1_bound n _ _ _ _ _ _ _ hc_19).mono (by intro c h; unfold wr_X1_bound at h; unfold wr_X0_take; omega))
          obtain ⟨g_20, hf⟩ := gd_inv hf
          exact (rt_inv hf).2 ▸ hk
        · have hf := if_f b_16 hf
          obtain ⟨r_21, S_22, hc_23, hf⟩ := bo_inv hf
          have hk := hk.trans ((fr_X1_bound n _ _ _ _ _ _ _ hc_23).mono (by intro c h; unfold wr_X1_bound at h; unfold wr_X0_take; omega))
          rcases (Decidable.em (r_21 = 0)) with b_24 | b_24
          · have hf := if_t b_24 hf
            exact (rt_inv hf).2 ▸ hk
          · have hf := if_f b_24 hf
            obtain ⟨r_25, S_26, hc_27, hf⟩ := bo_inv hf
            have hk := hk.trans ((fr_X1_bound n _ _ _ _ _ _ _ hc_27).mono (by intro c h; unfold wr_X1_bound at h; unfold wr_X0_take; omega))
            rcases (Decidable.em (r_25 = 0)) with b_28 | b_28
            · have hf := if_t b_28 hf
              exact (rt_inv hf).2 ▸ hk
            · have hf := if_f b_28 hf
              exact (rt_inv hf).2 ▸ hk
def wr_J7_fill_d0a16 (q0 : Nat) : Nat → Prop := fun c => c = q0
theorem fr_J7_fill_d0a16 (n : Nat) (S : St) (q0 : Nat) (a1 : Int64) (r : Unit) (S2 : St) (hf : f_J7_fill_d0a16 n S q0 a1 = some (r, S2)) : Keeps (wr_J7_fill_d0a16 q0) S S2 := by
  have hk : Keeps (wr_J7_fill_d0a16 q0) S S := Keeps.rf
  obtain ⟨S0, hS0⟩ : ∃ S0, S0 = S := ⟨S, rfl⟩
  have hk : Keeps (wr_J7_fill_d0a16 q0) S0 S := by rw [hS0]; exact hk
  suffices hh : Keeps (wr_J7_fill_d0a16 q0) S0 S2 by rw [hS0] at hh; exact hh
  have b6 : ∀ (x1 : Int64) (x4 : Int32) (k6 : St → Int32 → Option (Unit × St)) (hk6 : ∀ (S : St) (x3 : Int32), k6 S x3 = some (r, S2) → Keeps (wr_J7_fill_d0a16 q0) S0 S → Keeps (wr_J7_fill_d0a16 q0) S0 S2), ∀ (S : St) (x3 : Int32), f_J7_fill_d0a16_6 n q0 x1 x4 k6 S x3 = some (r, S2) → Keeps (wr_J7_fill_d0a16 q0) S0 S → Keeps (wr_J7_fill_d0a16 q0) S0 S2 := by
    intro x1 x4 k6 hk6 S x3 hf hk
    unfold f_J7_fill_d0a16_6 at hf
    rcases (Decidable.em (x4 ≤ x3)) with b_1 | b_1
    · have hf := if_t b_1 hf
      exact (rt_inv hf).2 ▸ hk
    · have hf := if_f b_1 hf
      obtain ⟨g_2, hf⟩ := gd_inv hf
      obtain ⟨S_3, eS_3, hf⟩ := bd_inv hf
      have hk := hk.trans (kpL eS_3 (by unfold wr_J7_fill_d0a16; omega))
      obtain ⟨x3_4, ex3_4, hf⟩ := bd_inv hf
      exact hk6 S_3 x3_4 hf hk
  have j6 : ∀ (x1 : Int64) (x4 : Int32) (d : Nat), ∀ (S : St) (x3 : Int32), fixF (fun _ _ => none) (f_J7_fill_d0a16_6 n q0 x1 x4) d S x3 = some (r, S2) → Keeps (wr_J7_fill_d0a16 q0) S0 S → Keeps (wr_J7_fill_d0a16 q0) S0 S2 := by
    intro x1 x4  d
    induction d with
    | zero => intro S x3 hf hk; cases hf
    | succ d ih => exact b6 x1 x4  (fixF (fun _ _ => none) (f_J7_fill_d0a16_6 n q0 x1 x4) d) ih
  unfold f_J7_fill_d0a16 at hf
  obtain ⟨x3_5, ex3_5, hf⟩ := bd_inv hf
  obtain ⟨x4_6, ex4_6, hf⟩ := bd_inv hf
  exact j6 a1 x4_6  n S x3_5 hf hk
def wr_X1_clear (q : Nat) : Nat → Prop := fun c => c = q + 25
theorem fr_X1_clear (n : Nat) (q : Nat) (S : St) (r : Unit) (S2 : St) (hf : f_X1_clear n q S = some (r, S2)) : Keeps (wr_X1_clear q) S S2 := by
  have hk : Keeps (wr_X1_clear q) S S := Keeps.rf
  obtain ⟨S0, hS0⟩ : ∃ S0, S0 = S := ⟨S, rfl⟩
  have hk : Keeps (wr_X1_clear q) S0 S := by rw [hS0]; exact hk
  suffices hh : Keeps (wr_X1_clear q) S0 S2 by rw [hS0] at hh; exact hh
  have b12 : ∀ (k12 : St → Int32 → Option (Unit × St)) (hk12 : ∀ (S : St) (x1 : Int32), k12 S x1 = some (r, S2) → Keeps (wr_X1_clear q) S0 S → Keeps (wr_X1_clear q) S0 S2), ∀ (S : St) (x1 : Int32), f_X1_clear_12 n q k12 S x1 = some (r, S2) → Keeps (wr_X1_clear q) S0 S → Keeps (wr_X1_clear q) S0 S2 := by
    intro k12 hk12 S x1 hf hk
    unfold f_X1_clear_12 at hf
    rcases (Decidable.em ((10 : Int32) ≤ x1)) with b_1 | b_1
    · have hf := if_t b_1 hf
      exact (rt_inv hf).2 ▸ hk
    · have hf := if_f b_1 hf
      obtain ⟨g_2, hf⟩ := gd_inv hf
      obtain ⟨S_3, eS_3, hf⟩ := bd_inv hf
      have hk := hk.trans (kpL eS_3 (by unfold wr_X1_clear; omega))
      obtain ⟨x1_4, ex1_4, hf⟩ := bd_inv hf
      exact hk12 S_3 x1_4 hf hk
  have j12 : ∀ (d : Nat), ∀ (S : St) (x1 : Int32), fixF (fun _ _ => none) (f_X1_clear_12 n q) d S x1 = some (r, S2) → Keeps (wr_X1_clear q) S0 S → Keeps (wr_X1_clear q) S0 S2 := by
    intro   d
    induction d with
    | zero => intro S x1 hf hk; cases hf
    | succ d ih => exact b12   (fixF (fun _ _ => none) (f_X1_clear_12 n q) d) ih
  unfold f_X1_clear at hf
  obtain ⟨r_5, S_6, hc_7, hf⟩ := bo_inv hf
  have hk := hk.trans ((fr_J7_fill_d0a16 n _ _ _ _ _ hc_7).mono (by intro c h; unfold wr_J7_fill_d0a16 at h; unfold wr_X1_clear; omega))
  obtain ⟨x1_8, ex1_8, hf⟩ := bd_inv hf
  exact j12   n S_6 x1_8 hf hk
def wr_X1_copyFrom (q : Nat) (q1 : Nat) : Nat → Prop := fun c => c = q + 25
theorem fr_X1_copyFrom (n : Nat) (q : Nat) (S : St) (q1 : Nat) (r : Unit) (S2 : St) (hf : f_X1_copyFrom n q S q1 = some (r, S2)) : Keeps (wr_X1_copyFrom q q1) S S2 := by
  have hk : Keeps (wr_X1_copyFrom q q1) S S := Keeps.rf
  unfold f_X1_copyFrom at hf
  obtain ⟨S_1, eS_1, hf⟩ := bd_inv hf
  have hk := hk.trans (kpR eS_1 (by unfold wr_X1_copyFrom; omega))
  exact (rt_inv hf).2 ▸ hk
def wr_X1_areEqual (q : Nat) : Nat → Prop := fun c => False
theorem fr_X1_areEqual (n : Nat) (q : Nat) (S : St) (a1 : Int32) (a2 : Int32) (r : Int32) (S2 : St) (hf : f_X1_areEqual n q S a1 a2 = some (r, S2)) : Keeps (wr_X1_areEqual q) S S2 := by
  have hk : Keeps (wr_X1_areEqual q) S S := Keeps.rf
  unfold f_X1_areEqual at hf
  obtain ⟨r_1, S_2, hc_3, hf⟩ := bo_inv hf
  have hk := hk.trans ((fr_X1_between n _ _ _ _ _ _ hc_3).mono (fun _ h => False.elim h))
  rcases (Decidable.em ((lg_cmp r_1 (0 : Int64)) = 0)).symm with b_4 | b_4
  · have hf := if_f b_4 hf
    exact (rt_inv hf).2 ▸ hk
  · have hf := if_t b_4 hf
    obtain ⟨r_5, S_6, hc_7, hf⟩ := bo_inv hf
    have hk := hk.trans ((fr_X1_between n _ _ _ _ _ _ hc_7).mono (fun _ h => False.elim h))
    rcases (Decidable.em ((lg_cmp r_5 (0 : Int64)) = 0)).symm with b_8 | b_8
    · have hf := if_f b_8 hf
      exact (rt_inv hf).2 ▸ hk
    · have hf := if_t b_8 hf
      exact (rt_inv hf).2 ▸ hk
def wr_X1_equate (q : Nat) : Nat → Prop := fun c => c = q + 25
theorem fr_X1_equate (n : Nat) (q : Nat) (S : St) (a1 : Int32) (a2 : Int32) (r : Int32) (S2 : St) (hf : f_X1_equate n q S a1 a2 = some (r, S2)) : Keeps (wr_X1_equate q) S S2 := by
  have hk : Keeps (wr_X1_equate q) S S := Keeps.rf
  unfold f_X1_equate at hf
  obtain ⟨r_1, S_2, hc_3, hf⟩ := bo_inv hf
  have hk := hk.trans ((fr_X1_bound n _ _ _ _ _ _ _ hc_3).mono (by intro c h; unfold wr_X1_bound at h; unfold wr_X1_equate; omega))
  rcases (Decidable.em (r_1 = 0)) with b_4 | b_4
  · have hf := if_t b_4 hf
    exact (rt_inv hf).2 ▸ hk
  · have hf := if_f b_4 hf
    obtain ⟨r_5, S_6, hc_7, hf⟩ := bo_inv hf
    have hk := hk.trans ((fr_X1_bound n _ _ _ _ _ _ _ hc_7).mono (by intro c h; unfold wr_X1_bound at h; unfold wr_X1_equate; omega))
    rcases (Decidable.em (r_5 = 0)) with b_8 | b_8
    · have hf := if_t b_8 hf
      exact (rt_inv hf).2 ▸ hk
    · have hf := if_f b_8 hf
      exact (rt_inv hf).2 ▸ hk
def wr_X2_rounds : Nat → Prop := fun c => False
theorem fr_X2_rounds (n : Nat) (S : St) (r : Int32) (S2 : St) (hf : f_X2_rounds n S = some (r, S2)) : Keeps (wr_X2_rounds) S S2 := by
  have hk : Keeps (wr_X2_rounds) S S := Keeps.rf
  unfold f_X2_rounds at hf
  exact (rt_inv hf).2 ▸ hk
def wr_X2_hasConflict : Nat → Prop := fun c => False
theorem fr_X2_hasConflict (n : Nat) (S : St) (r : Int32) (S2 : St) (hf : f_X2_hasConflict n S = some (r, S2)) : Keeps (wr_X2_hasConflict) S S2 := by
  have hk : Keeps (wr_X2_hasConflict) S S := Keeps.rf
  unfold f_X2_hasConflict at hf
  obtain ⟨g_1, hf⟩ := gd_inv hf
  exact (rt_inv hf).2 ▸ hk
def wr_X2_distance : Nat → Prop := fun c => False
theorem fr_X2_distance (n : Nat) (S : St) (a1 : Int32) (a2 : Int32) (r : Int64) (S2 : St) (hf : f_X2_distance n S a1 a2 = some (r, S2)) : Keeps (wr_X2_distance) S S2 := by
  have hk : Keeps (wr_X2_distance) S S := Keeps.rf
  unfold f_X2_distance at hf
  obtain ⟨r_1, S_2, hc_3, hf⟩ := bo_inv hf
  have hk := hk.trans ((fr_X1_between n _ _ _ _ _ _ hc_3).mono (fun _ h => False.elim h))
  exact (rt_inv hf).2 ▸ hk
def wr_X2_smallestSame : Nat → Prop := fun c => False
theorem fr_X2_smallestSame (n : Nat) (S : St) (a1 : Int32) (r : Int32) (S2 : St) (hf : f_X2_smallestSame n S a1 = some (r, S2)) : Keeps (wr_X2_smallestSame) S S2 := by
  have hk : Keeps (wr_X2_smallestSame) S S := Keeps.rf
  unfold f_X2_smallestSame at hf
  rcases (Decidable.em (a1 < 0)) with b_1 | b_1
  · have hf := if_t b_1 hf
    exact (rt_inv hf).2 ▸ hk
  · have hf := if_f b_1 hf
    rcases (Decidable.em ((10 : Int32) ≤ a1)) with b_2 | b_2
    · have hf := if_t b_2 hf
      exact (rt_inv hf).2 ▸ hk
    · have hf := if_f b_2 hf
      obtain ⟨g_3, hf⟩ := gd_inv hf
      exact (rt_inv hf).2 ▸ hk
def wr_X7_size (q : Nat) : Nat → Prop := fun c => False
theorem fr_X7_size (n : Nat) (q : Nat) (S : St) (r : Int32) (S2 : St) (hf : f_X7_size n q S = some (r, S2)) : Keeps (wr_X7_size q) S S2 := by
  have hk : Keeps (wr_X7_size q) S S := Keeps.rf
  unfold f_X7_size at hf
  exact (rt_inv hf).2 ▸ hk
def wr_X2_classes : Nat → Prop := fun c => False
theorem fr_X2_classes (n : Nat) (S : St) (r : Int32) (S2 : St) (hf : f_X2_classes n S = some (r, S2)) : Keeps (wr_X2_classes) S S2 := by
  have hk : Keeps (wr_X2_classes) S S := Keeps.rf
  obtain ⟨S0, hS0⟩ : ∃ S0, S0 = S := ⟨S, rfl⟩
  have hk : Keeps (wr_X2_classes) S0 S := by rw [hS0]; exact hk
  suffices hh : Keeps (wr_X2_classes) S0 S2 by rw [hS0] at hh; exact hh
  have j34 : ∀ (k4 : St → Int32 → Int32 → Option (Int32 × St)) (hk4 : ∀ (S : St) (x1 : Int32) (x2 : Int32), k4 S x1 x2 = some (r, S2) → Keeps wr_X2_classes S0 S → Keeps wr_X2_classes S0 S2), ∀ (S : St) (x1 : Int32) (x2 : Int32), f_X2_classes_34 n k4 S x1 x2 = some (r, S2) → Keeps wr_X2_classes S0 S → Keeps wr_X2_classes S0 S2 := by
    intro k4 hk4 S x1 x2 hf hk
    unfold f_X2_classes_34 at hf
    obtain ⟨x2_1, ex2_1, hf⟩ := bd_inv hf
    exact hk4 S x1 x2_1 hf hk
  have b4 : ∀ (k4 : St → Int32 → Int32 → Option (Int32 × St)) (hk4 : ∀ (S : St) (x1 : Int32) (x2 : Int32), k4 S x1 x2 = some (r, S2) → Keeps wr_X2_classes S0 S → Keeps wr_X2_classes S0 S2), ∀ (S : St) (x1 : Int32) (x2 : Int32), f_X2_classes_4 n k4 S x1 x2 = some (r, S2) → Keeps wr_X2_classes S0 S → Keeps wr_X2_classes S0 S2 := by
    intro k4 hk4 S x1 x2 hf hk
    unfold f_X2_classes_4 at hf
    obtain ⟨r_2, S_3, hc_4, hf⟩ := bo_inv hf
    have hk := hk.trans ((fr_X7_size n _ _ _ _ hc_4).mono (fun _ h => False.elim h))
    rcases (Decidable.em (r_2 ≤ x2)) with b_5 | b_5
    · have hf := if_t b_5 hf
      exact (rt_inv hf).2 ▸ hk
    · have hf := if_f b_5 hf
      rcases (Decidable.em ((10 : Int32) ≤ x2)) with b_6 | b_6
      · have hf := if_t b_6 hf
        exact (rt_inv hf).2 ▸ hk
      · have hf := if_f b_6 hf
        obtain ⟨g_7, hf⟩ := gd_inv hf
        rcases (Decidable.em ((S_3.1 22 (x2).toNatClampNeg) = x2)).symm with b_8 | b_8
        · have hf := if_f b_8 hf
          exact j34  k4 hk4 S_3 x1 x2 hf hk
        · have hf := if_t b_8 hf
          obtain ⟨x1_9, ex1_9, hf⟩ := bd_inv hf
          exact j34  k4 hk4 S_3 x1_9 x2 hf hk
  have j4 : ∀ (d : Nat), ∀ (S : St) (x1 : Int32) (x2 : Int32), fixF (fun _ _ _ => none) (f_X2_classes_4 n) d S x1 x2 = some (r, S2) → Keeps wr_X2_classes S0 S → Keeps wr_X2_classes S0 S2 := by
    intro   d
    induction d with
    | zero => intro S x1 x2 hf hk; cases hf
    | succ d ih => exact b4   (fixF (fun _ _ _ => none) (f_X2_classes_4 n) d) ih
  unfold f_X2_classes at hf
  obtain ⟨x1_10, ex1_10, hf⟩ := bd_inv hf
  obtain ⟨x2_11, ex2_11, hf⟩ := bd_inv hf
  exact j4   n S x1_10 x2_11 hf hk
def wr_X3_size : Nat → Prop := fun c => False
theorem fr_X3_size (n : Nat) (S : St) (r : Int32) (S2 : St) (hf : f_X3_size n S = some (r, S2)) : Keeps (wr_X3_size) S S2 := by
  have hk : Keeps (wr_X3_size) S S := Keeps.rf
  unfold f_X3_size at hf
  exact (rt_inv hf).2 ▸ hk
def wr_X3_has : Nat → Prop := fun c => False
theorem fr_X3_has (n : Nat) (S : St) (a1 : Int32) (r : Int32) (S2 : St) (hf : f_X3_has n S a1 = some (r, S2)) : Keeps (wr_X3_has) S S2 := by
  have hk : Keeps (wr_X3_has) S S := Keeps.rf
  unfold f_X3_has at hf
  rcases (Decidable.em (a1 < 0)) with b_1 | b_1
  · have hf := if_t b_1 hf
    exact (rt_inv hf).2 ▸ hk
  · have hf := if_f b_1 hf
    rcases (Decidable.em ((S.1 16 4) ≤ a1)) with b_2 | b_2
    · have hf := if_t b_2 hf
      exact (rt_inv hf).2 ▸ hk
    · have hf := if_f b_2 hf
      rcases (Decidable.em ((10 : Int32) ≤ a1)) with b_3 | b_3
      · have hf := if_t b_3 hf
        exact (rt_inv hf).2 ▸ hk
      · have hf := if_f b_3 hf
        exact (rt_inv hf).2 ▸ hk
def wr_X3_kindOf : Nat → Prop := fun c => False
theorem fr_X3_kindOf (n : Nat) (S : St) (a1 : Int32) (r : Int32) (S2 : St) (hf : f_X3_kindOf n S a1 = some (r, S2)) : Keeps (wr_X3_kindOf) S S2 := by
  have hk : Keeps (wr_X3_kindOf) S S := Keeps.rf
  unfold f_X3_kindOf at hf
  obtain ⟨r_1, S_2, hc_3, hf⟩ := bo_inv hf
  have hk := hk.trans ((fr_X3_has n _ _ _ _ hc_3).mono (fun _ h => False.elim h))
  rcases (Decidable.em (r_1 = 0)) with b_4 | b_4
  · have hf := if_t b_4 hf
    exact (rt_inv hf).2 ▸ hk
  · have hf := if_f b_4 hf
    obtain ⟨g_5, hf⟩ := gd_inv hf
    exact (rt_inv hf).2 ▸ hk
def wr_X3_leftOf : Nat → Prop := fun c => False
theorem fr_X3_leftOf (n : Nat) (S : St) (a1 : Int32) (r : Int32) (S2 : St) (hf : f_X3_leftOf n S a1 = some (r, S2)) : Keeps (wr_X3_leftOf) S S2 := by
  have hk : Keeps (wr_X3_leftOf) S S := Keeps.rf
  unfold f_X3_leftOf at hf
  obtain ⟨r_1, S_2, hc_3, hf⟩ := bo_inv hf
  have hk := hk.trans ((fr_X3_has n _ _ _ _ hc_3).mono (fun _ h => False.elim h))
  rcases (Decidable.em (r_1 = 0)) with b_4 | b_4
  · have hf := if_t b_4 hf
    exact (rt_inv hf).2 ▸ hk
  · have hf := if_f b_4 hf
    obtain ⟨g_5, hf⟩ := gd_inv hf
    exact (rt_inv hf).2 ▸ hk
def wr_X3_rightOf : Nat → Prop := fun c => False
theorem fr_X3_rightOf (n : Nat) (S : St) (a1 : Int32) (r : Int32) (S2 : St) (hf : f_X3_rightOf n S a1 = some (r, S2)) : Keeps (wr_X3_rightOf) S S2 := by
  have hk : Keeps (wr_X3_rightOf) S S := Keeps.rf
  unfold f_X3_rightOf at hf
  obtain ⟨r_1, S_2, hc_3, hf⟩ := bo_inv hf
  have hk := hk.trans ((fr_X3_has n _ _ _ _ hc_3).mono (fun _ h => False.elim h))
  rcases (Decidable.em (r_1 = 0)) with b_4 | b_4
  · have hf := if_t b_4 hf
    exact (rt_inv hf).2 ▸ hk
  · have hf := if_f b_4 hf
    obtain ⟨g_5, hf⟩ := gd_inv hf
    exact (rt_inv hf).2 ▸ hk
def wr_X2_join : Nat → Prop := fun c => c = 22
theorem fr_X2_join (n : Nat) (S : St) (a1 : Int32) (a2 : Int32) (r : Int32) (S2 : St) (hf : f_X2_join n S a1 a2 = some (r, S2)) : Keeps (wr_X2_join) S S2 := by
  have hk : Keeps (wr_X2_join) S S := Keeps.rf
  obtain ⟨S0, hS0⟩ : ∃ S0, S0 = S := ⟨S, rfl⟩
  have hk : Keeps (wr_X2_join) S0 S := by rw [hS0]; exact hk
  suffices hh : Keeps (wr_X2_join) S0 S2 by rw [hS0] at hh; exact hh
  have j71 : ∀ (x3 : Int32) (x4 : Int32) (x5 : Int32) (k32 : St → Int32 → Option (Int32 × St)) (hk32 : ∀ (S : St) (x6 : Int32), k32 S x6 = some (r, S2) → Keeps wr_X2_join S0 S → Keeps wr_X2_join S0 S2), ∀ (S : St) (x6 : Int32), f_X2_join_71 n x3 x4 x5 k32 S x6 = some (r, S2) → Keeps wr_X2_join S0 S → Keeps wr_X2_join S0 S2 := by
    intro x3 x4 x5 k32 hk32 S x6 hf hk
    unfold f_X2_join_71 at hf
    obtain ⟨x6_1, ex6_1, hf⟩ := bd_inv hf
    exact hk32 S x6_1 hf hk
  have j62 : ∀ (x3 : Int32) (x4 : Int32) (x5 : Int32) (k32 : St → Int32 → Option (Int32 × St)) (hk32 : ∀ (S : St) (x6 : Int32), k32 S x6 = some (r, S2) → Keeps wr_X2_join S0 S → Keeps wr_X2_join S0 S2), ∀ (S : St) (x6 : Int32), f_X2_join_62 n x3 x4 x5 k32 S x6 = some (r, S2) → Keeps wr_X2_join S0 S → Keeps wr_X2_join S0 S2 := by
    intro x3 x4 x5 k32 hk32 S x6 hf hk
    unfold f_X2_join_62 at hf
    obtain ⟨g_2, hf⟩ := gd_inv hf
    obtain ⟨S_3, eS_3, hf⟩ := bd_inv hf
    have hk := hk.trans (kpI eS_3 (by unfold wr_X2_join; omega))
    exact j71 x3 x4 x5 k32 hk32 S_3 x6 hf hk
  have b32 : ∀ (x3 : Int32) (x4 : Int32) (x5 : Int32) (k32 : St → Int32 → Option (Int32 × St)) (hk32 : ∀ (S : St) (x6 : Int32), k32 S x6 = some (r, S2) → Keeps wr_X2_join S0 S → Keeps wr_X2_join S0 S2), ∀ (S : St) (x6 : Int32), f_X2_join_32 n x3 x4 x5 k32 S x6 = some (r, S2) → Keeps wr_X2_join S0 S → Keeps wr_X2_join S0 S2 := by
    intro x3 x4 x5 k32 hk32 S x6 hf hk
    unfold f_X2_join_32 at hf
    rcases (Decidable.em ((10 : Int32) ≤ x6)) with b_4 | b_4
    · have hf := if_t b_4 hf
      exact (rt_inv hf).2 ▸ hk
    · have hf := if_f b_4 hf
      obtain ⟨g_5, hf⟩ := gd_inv hf
      rcases (Decidable.em ((S.1 22 (x6).toNatClampNeg) = x3)) with b_6 | b_6
      · have hf := if_t b_6 hf
        exact j62 x3 x4 x5 k32 hk32 S x6 hf hk
      · have hf := if_f b_6 hf
        obtain ⟨g_7, hf⟩ := gd_inv hf
        rcases (Decidable.em ((S.1 22 (x6).toNatClampNeg) = x4)).symm with b_8 | b_8
        · have hf := if_f b_8 hf
          exact j71 x3 x4 x5 k32 hk32 S x6 hf hk
        · have hf := if_t b_8 hf
          exact j62 x3 x4 x5 k32 hk32 S x6 hf hk
  have j32 : ∀ (x3 : Int32) (x4 : Int32) (x5 : Int32) (d : Nat), ∀ (S : St) (x6 : Int32), fixF (fun _ _ => none) (f_X2_join_32 n x3 x4 x5) d S x6 = some (r, S2) → Keeps wr_X2_join S0 S → Keeps wr_X2_join S0 S2 := by
    intro x3 x4 x5  d
    induction d with
    | zero => intro S x6 hf hk; cases hf
    | succ d ih => exact b32 x3 x4 x5  (fixF (fun _ _ => none) (f_X2_join_32 n x3 x4 x5) d) ih
  unfold f_X2_join at hf
  obtain ⟨r_9, S_10, hc_11, hf⟩ := bo_inv hf
  have hk := hk.trans ((fr_X2_smallestSame n _ _ _ _ hc_11).mono (fun _ h => False.elim h))
  obtain ⟨x3_12, ex3_12, hf⟩ := bd_inv hf
  obtain ⟨r_13, S_14, hc_15, hf⟩ := bo_inv hf
  have hk := hk.trans ((fr_X2_smallestSame n _ _ _ _ hc_15).mono (fun _ h => False.elim h))
  obtain ⟨x4_16, ex4_16, hf⟩ := bd_inv hf
  rcases (Decidable.em (x3_12 = x4_16)).symm with b_17 | b_17
  · have hf := if_f b_17 hf
    obtain ⟨x5_18, ex5_18, hf⟩ := bd_inv hf
    obtain ⟨x6_19, ex6_19, hf⟩ := bd_inv hf
    exact j32 x3_12 x4_16 x5_18  n S_14 x6_19 hf hk
  · have hf := if_t b_17 hf
    exact (rt_inv hf).2 ▸ hk
def wr_X2_joinByEqualities : Nat → Prop := fun c => c = 22
theorem fr_X2_joinByEqualities (n : Nat) (S : St) (r : Unit) (S2 : St) (hf : f_X2_joinByEqualities n S = some (r, S2)) : Keeps (wr_X2_joinByEqualities) S S2 := by
  have hk : Keeps (wr_X2_joinByEqualities) S S := Keeps.rf
  obtain ⟨S0, hS0⟩ : ∃ S0, S0 = S := ⟨S, rfl⟩
  have hk : Keeps (wr_X2_joinByEqualities) S0 S := by rw [hS0]; exact hk
  suffices hh : Keeps (wr_X2_joinByEqualities) S0 S2 by rw [hS0] at hh; exact hh
  have j66 : ∀ (k23 : St → Int32 → Option (Unit × St)) (hk23 : ∀ (S : St) (x1 : Int32), k23 S x1 = some (r, S2) → Keeps wr_X2_joinByEqualities S0 S → Keeps wr_X2_joinByEqualities S0 S2), ∀ (S : St) (x1 : Int32), f_X2_joinByEqualities_66 n k23 S x1 = some (r, S2) → Keeps wr_X2_joinByEqualities S0 S → Keeps wr_X2_joinByEqualities S0 S2 := by
    intro k23 hk23 S x1 hf hk
    unfold f_X2_joinByEqualities_66 at hf
    obtain ⟨x1_1, ex1_1, hf⟩ := bd_inv hf
    exact hk23 S x1_1 hf hk
  have b23 : ∀ (k23 : St → Int32 → Option (Unit × St)) (hk23 : ∀ (S : St) (x1 : Int32), k23 S x1 = some (r, S2) → Keeps wr_X2_joinByEqualities S0 S → Keeps wr_X2_joinByEqualities S0 S2), ∀ (S : St) (x1 : Int32), f_X2_joinByEqualities_23 n k23 S x1 = some (r, S2) → Keeps wr_X2_joinByEqualities S0 S → Keeps wr_X2_joinByEqualities S0 S2 := by
    intro k23 hk23 S x1 hf hk
    unfold f_X2_joinByEqualities_23 at hf
    obtain ⟨r_2, S_3, hc_4, hf⟩ := bo_inv hf
    have hk := hk.trans ((fr_X3_size n _ _ _ hc_4).mono (fun _ h => False.elim h))
    rcases (Decidable.em (r_2 ≤ x1)) with b_5 | b_5
    · have hf := if_t b_5 hf
      exact (rt_inv hf).2 ▸ hk
    · have hf := if_f b_5 hf
      obtain ⟨r_6, S_7, hc_8, hf⟩ := bo_inv hf
      have hk := hk.trans ((fr_X3_kindOf n _ _ _ _ hc_8).mono (fun _ h => False.elim h))
      rcases (Decidable.em (r_6 = 0)).symm with b_9 | b_9
      · have hf := if_f b_9 hf
        exact j66  k23 hk23 S_7 x1 hf hk
      · have hf := if_t b_9 hf
        obtain ⟨r_10, S_11, hc_12, hf⟩ := bo_inv hf
        have hk := hk.trans ((fr_X3_leftOf n _ _ _ _ hc_12).mono (fun _ h => False.elim h))
        obtain ⟨r_13, S_14, hc_15, hf⟩ := bo_inv hf
        have hk := hk.trans ((fr_X3_rightOf n _ _ _ _ hc_15).mono (fun _ h => False.elim h))
        obtain ⟨r_16, S_17, hc_18, hf⟩ := bo_inv hf
        have hk := hk.trans ((fr_X2_join n _ _ _ _ _ hc_18).mono (by intro c h; unfold wr_X2_join at h; unfold wr_X2_joinByEqualities; omega))
        exact j66  k23 hk23 S_17 x1 hf hk
  have j23 : ∀ (d : Nat), ∀ (S : St) (x1 : Int32), fixF (fun _ _ => none) (f_X2_joinByEqualities_23 n) d S x1 = some (r, S2) → Keeps wr_X2_joinByEqualities S0 S → Keeps wr_X2_joinByEqualities S0 S2 := by
    intro   d
    induction d with
    | zero => intro S x1 hf hk; cases hf
    | succ d ih => exact b23   (fixF (fun _ _ => none) (f_X2_joinByEqualities_23 n) d) ih
  have b2 : ∀ (k2 : St → Int32 → Option (Unit × St)) (hk2 : ∀ (S : St) (x1 : Int32), k2 S x1 = some (r, S2) → Keeps wr_X2_joinByEqualities S0 S → Keeps wr_X2_joinByEqualities S0 S2), ∀ (S : St) (x1 : Int32), f_X2_joinByEqualities_2 n k2 S x1 = some (r, S2) → Keeps wr_X2_joinByEqualities S0 S → Keeps wr_X2_joinByEqualities S0 S2 := by
    intro k2 hk2 S x1 hf hk
    unfold f_X2_joinByEqualities_2 at hf
    rcases (Decidable.em ((10 : Int32) ≤ x1)) with b_19 | b_19
    · have hf := if_t b_19 hf
      obtain ⟨x1_20, ex1_20, hf⟩ := bd_inv hf
      exact j23   n S x1_20 hf hk
    · have hf := if_f b_19 hf
      obtain ⟨g_21, hf⟩ := gd_inv hf
      obtain ⟨S_22, eS_22, hf⟩ := bd_inv hf
      have hk := hk.trans (kpI eS_22 (by unfold wr_X2_joinByEqualities; omega))
      obtain ⟨x1_23, ex1_23, hf⟩ := bd_inv hf
      exact hk2 S_22 x1_23 hf hk
  have j2 : ∀ (d : Nat), ∀ (S : St) (x1 : Int32), fixF (fun _ _ => none) (f_X2_joinByEqualities_2 n) d S x1 = some (r, S2) → Keeps wr_X2_joinByEqualities S0 S → Keeps wr_X2_joinByEqualities S0 S2 := by
    intro   d
    induction d with
    | zero => intro S x1 hf hk; cases hf
    | succ d ih => exact b2   (fixF (fun _ _ => none) (f_X2_joinByEqualities_2 n) d) ih
  unfold f_X2_joinByEqualities at hf
  obtain ⟨x1_24, ex1_24, hf⟩ := bd_inv hf
  exact j2   n S x1_24 hf hk
def wr_X7_haveSameFunction (q : Nat) : Nat → Prop := fun c => False
theorem fr_X7_haveSameFunction (n : Nat) (q : Nat) (S : St) (a1 : Int32) (a2 : Int32) (r : Int32) (S2 : St) (hf : f_X7_haveSameFunction n q S a1 a2 = some (r, S2)) : Keeps (wr_X7_haveSameFunction q) S S2 := by
  have hk : Keeps (wr_X7_haveSameFunction q) S S := Keeps.rf
  unfold f_X7_haveSameFunction at hf
  obtain ⟨r_1, S_2, hc_3, hf⟩ := bo_inv hf
  have hk := hk.trans ((fr_X7_has n _ _ _ _ _ hc_3).mono (fun _ h => False.elim h))
  rcases (Decidable.em (r_1 = 0)) with b_4 | b_4
  · have hf := if_t b_4 hf
    exact (rt_inv hf).2 ▸ hk
  · have hf := if_f b_4 hf
    obtain ⟨r_5, S_6, hc_7, hf⟩ := bo_inv hf
    have hk := hk.trans ((fr_X7_has n _ _ _ _ _ hc_7).mono (fun _ h => False.elim h))
    rcases (Decidable.em (r_5 = 0)) with b_8 | b_8
    · have hf := if_t b_8 hf
      exact (rt_inv hf).2 ▸ hk
    · have hf := if_f b_8 hf
      obtain ⟨g_9, hf⟩ := gd_inv hf
      rcases (Decidable.em ((S_6.1 (q + 1) (a1).toNatClampNeg) = 0)) with b_10 | b_10
      · have hf := if_t b_10 hf
        exact (rt_inv hf).2 ▸ hk
      · have hf := if_f b_10 hf
        obtain ⟨g_11, hf⟩ := gd_inv hf
        obtain ⟨g_12, hf⟩ := gd_inv hf
        rcases (Decidable.em ((S_6.1 (q + 1) (a1).toNatClampNeg) = (S_6.1 (q + 1) (a2).toNatClampNeg))).symm with b_13 | b_13
        · have hf := if_f b_13 hf
          exact (rt_inv hf).2 ▸ hk
        · have hf := if_t b_13 hf
          exact (rt_inv hf).2 ▸ hk
def wr_X2_haveSameArguments : Nat → Prop := fun c => False
theorem fr_X2_haveSameArguments (n : Nat) (S : St) (a1 : Int32) (a2 : Int32) (r : Int32) (S2 : St) (hf : f_X2_haveSameArguments n S a1 a2 = some (r, S2)) : Keeps (wr_X2_haveSameArguments) S S2 := by
  have hk : Keeps (wr_X2_haveSameArguments) S S := Keeps.rf
  unfold f_X2_haveSameArguments at hf
  obtain ⟨r_1, S_2, hc_3, hf⟩ := bo_inv hf
  have hk := hk.trans ((fr_X7_haveSameFunction n _ _ _ _ _ _ hc_3).mono (fun _ h => False.elim h))
  rcases (Decidable.em (r_1 = 0)).symm with b_4 | b_4
  · have hf := if_f b_4 hf
    obtain ⟨r_5, S_6, hc_7, hf⟩ := bo_inv hf
    have hk := hk.trans ((fr_X7_firstOf n _ _ _ _ _ hc_7).mono (fun _ h => False.elim h))
    obtain ⟨r_8, S_9, hc_10, hf⟩ := bo_inv hf
    have hk := hk.trans ((fr_X2_smallestSame n _ _ _ _ hc_10).mono (fun _ h => False.elim h))
    obtain ⟨r_11, S_12, hc_13, hf⟩ := bo_inv hf
    have hk := hk.trans ((fr_X7_firstOf n _ _ _ _ _ hc_13).mono (fun _ h => False.elim h))
    obtain ⟨r_14, S_15, hc_16, hf⟩ := bo_inv hf
    have hk := hk.trans ((fr_X2_smallestSame n _ _ _ _ hc_16).mono (fun _ h => False.elim h))
    rcases (Decidable.em (r_8 = r_14)).symm with b_17 | b_17
    · have hf := if_f b_17 hf
      exact (rt_inv hf).2 ▸ hk
    · have hf := if_t b_17 hf
      obtain ⟨r_18, S_19, hc_20, hf⟩ := bo_inv hf
      have hk := hk.trans ((fr_X7_secondOf n _ _ _ _ _ hc_20).mono (fun _ h => False.elim h))
      obtain ⟨r_21, S_22, hc_23, hf⟩ := bo_inv hf
      have hk := hk.trans ((fr_X2_smallestSame n _ _ _ _ hc_23).mono (fun _ h => False.elim h))
      obtain ⟨r_24, S_25, hc_26, hf⟩ := bo_inv hf
      have hk := hk.trans ((fr_X7_secondOf n _ _ _ _ _ hc_26).mono (fun _ h => False.elim h))
      obtain ⟨r_27, S_28, hc_29, hf⟩ := bo_inv hf
      have hk := hk.trans ((fr_X2_smallestSame n _ _ _ _ hc_29).mono (fun _ h => False.elim h))
      rcases (Decidable.em (r_21 = r_27)).symm with b_30 | b_30
      · have hf := if_f b_30 hf
        exact (rt_inv hf).2 ▸ hk
      · have hf := if_t b_30 hf
        exact (rt_inv hf).2 ▸ hk
  · have hf := if_t b_4 hf
    exact (rt_inv hf).2 ▸ hk
def wr_X2_joinByCongruence : Nat → Prop := fun c => c = 22
theorem fr_X2_joinByCongruence (n : Nat) (S : St) (r : Unit) (S2 : St) (hf : f_X2_joinByCongruence n S = some (r, S2)) : Keeps (wr_X2_joinByCongruence) S S2 := by
  have hk : Keeps (wr_X2_joinByCongruence) S S := Keeps.rf
  obtain ⟨S0, hS0⟩ : ∃ S0, S0 = S := ⟨S, rfl⟩
  have hk : Keeps (wr_X2_joinByCongruence) S0 S := by rw [hS0]; exact hk
  suffices hh : Keeps (wr_X2_joinByCongruence) S0 S2 by rw [hS0] at hh; exact hh
  have j68 : ∀ (x2 : Int32) (x3 : Int32) (k4 : St → Int32 → Int32 → Option (Unit × St)) (hk4 : ∀ (S : St) (x1 : Int32) (x2 : Int32), k4 S x1 x2 = some (r, S2) → Keeps wr_X2_joinByCongruence S0 S → Keeps wr_X2_joinByCongruence S0 S2) (k18 : St → Int32 → Int32 → Option (Unit × St)) (hk18 : ∀ (S : St) (x1 : Int32) (x3 : Int32), k18 S x1 x3 = some (r, S2) → Keeps wr_X2_joinByCongruence S0 S → Keeps wr_X2_joinByCongruence S0 S2) (k34 : St → Int32 → Int32 → Option (Unit × St)) (hk34 : ∀ (S : St) (x1 : Int32) (x4 : Int32), k34 S x1 x4 = some (r, S2) → Keeps wr_X2_joinByCongruence S0 S → Keeps wr_X2_joinByCongruence S0 S2), ∀ (S : St) (x1 : Int32) (x4 : Int32), f_X2_joinByCongruence_68 n x2 x3 k4 k18 k34 S x1 x4 = some (r, S2) → Keeps wr_X2_joinByCongruence S0 S → Keeps wr_X2_joinByCongruence S0 S2 := by
    intro x2 x3 k4 hk4 k18 hk18 k34 hk34 S x1 x4 hf hk
    unfold f_X2_joinByCongruence_68 at hf
    obtain ⟨x4_1, ex4_1, hf⟩ := bd_inv hf
    exact hk34 S x1 x4_1 hf hk
  have b34 : ∀ (x2 : Int32) (x3 : Int32) (k4 : St → Int32 → Int32 → Option (Unit × St)) (hk4 : ∀ (S : St) (x1 : Int32) (x2 : Int32), k4 S x1 x2 = some (r, S2) → Keeps wr_X2_joinByCongruence S0 S → Keeps wr_X2_joinByCongruence S0 S2) (k18 : St → Int32 → Int32 → Option (Unit × St)) (hk18 : ∀ (S : St) (x1 : Int32) (x3 : Int32), k18 S x1 x3 = some (r, S2) → Keeps wr_X2_joinByCongruence S0 S → Keeps wr_X2_joinByCongruence S0 S2) (k34 : St → Int32 → Int32 → Option (Unit × St)) (hk34 : ∀ (S : St) (x1 : Int32) (x4 : Int32), k34 S x1 x4 = some (r, S2) → Keeps wr_X2_joinByCongruence S0 S → Keeps wr_X2_joinByCongruence S0 S2), ∀ (S : St) (x1 : Int32) (x4 : Int32), f_X2_joinByCongruence_34 n x2 x3 k4 k18 k34 S x1 x4 = some (r, S2) → Keeps wr_X2_joinByCongruence S0 S → Keeps wr_X2_joinByCongruence S0 S2 := by
    intro x2 x3 k4 hk4 k18 hk18 k34 hk34 S x1 x4 hf hk
    unfold f_X2_joinByCongruence_34 at hf
    obtain ⟨r_2, S_3, hc_4, hf⟩ := bo_inv hf
    have hk := hk.trans ((fr_X7_size n _ _ _ _ hc_4).mono (fun _ h => False.elim h))
    rcases (Decidable.em (r_2 ≤ x4)) with b_5 | b_5
    · have hf := if_t b_5 hf
      obtain ⟨x3_6, ex3_6, hf⟩ := bd_inv hf
      exact hk18 S_3 x1 x3_6 hf hk
    · have hf := if_f b_5 hf
      obtain ⟨r_7, S_8, hc_9, hf⟩ := bo_inv hf
      have hk := hk.trans ((fr_X2_haveSameArguments n _ _ _ _ _ hc_9).mono (fun _ h => False.elim h))
      rcases (Decidable.em (r_7 = 0)) with b_10 | b_10
      · have hf := if_t b_10 hf
        exact j68 x2 x3 k4 hk4 k18 hk18 k34 hk34 S_8 x1 x4 hf hk
      · have hf := if_f b_10 hf
        obtain ⟨r_11, S_12, hc_13, hf⟩ := bo_inv hf
        have hk := hk.trans ((fr_X2_join n _ _ _ _ _ hc_13).mono (by intro c h; unfold wr_X2_join at h; unfold wr_X2_joinByCongruence; omega))
        rcases (Decidable.em (r_11 = 0)) with b_14 | b_14
        · have hf := if_t b_14 hf
          exact j68 x2 x3 k4 hk4 k18 hk18 k34 hk34 S_12 x1 x4 hf hk
        · have hf := if_f b_14 hf
          obtain ⟨x1_15, ex1_15, hf⟩ := bd_inv hf
          exact j68 x2 x3 k4 hk4 k18 hk18 k34 hk34 S_12 x1_15 x4 hf hk
  have j34 : ∀ (x2 : Int32) (x3 : Int32) (k4 : St → Int32 → Int32 → Option (Unit × St)) (hk4 : ∀ (S : St) (x1 : Int32) (x2 : Int32), k4 S x1 x2 = some (r, S2) → Keeps wr_X2_joinByCongruence S0 S → Keeps wr_X2_joinByCongruence S0 S2) (k18 : St → Int32 → Int32 → Option (Unit × St)) (hk18 : ∀ (S : St) (x1 : Int32) (x3 : Int32), k18 S x1 x3 = some (r, S2) → Keeps wr_X2_joinByCongruence S0 S → Keeps wr_X2_joinByCongruence S0 S2) (d : Nat), ∀ (S : St) (x1 : Int32) (x4 : Int32), fixF (fun _ _ _ => none) (f_X2_joinByCongruence_34 n x2 x3 k4 k18) d S x1 x4 = some (r, S2) → Keeps wr_X2_joinByCongruence S0 S → Keeps wr_X2_joinByCongruence S0 S2 := by
    intro x2 x3 k4 hk4 k18 hk18 d
    induction d with
    | zero => intro S x1 x4 hf hk; cases hf
    | succ d ih => exact b34 x2 x3 k4 hk4 k18 hk18 (fixF (fun _ _ _ => none) (f_X2_joinByCongruence_34 n x2 x3 k4 k18) d) ih
  have b18 : ∀ (x2 : Int32) (k4 : St → Int32 → Int32 → Option (Unit × St)) (hk4 : ∀ (S : St) (x1 : Int32) (x2 : Int32), k4 S x1 x2 = some (r, S2) → Keeps wr_X2_joinByCongruence S0 S → Keeps wr_X2_joinByCongruence S0 S2) (k18 : St → Int32 → Int32 → Option (Unit × St)) (hk18 : ∀ (S : St) (x1 : Int32) (x3 : Int32), k18 S x1 x3 = some (r, S2) → Keeps wr_X2_joinByCongruence S0 S → Keeps wr_X2_joinByCongruence S0 S2), ∀ (S : St) (x1 : Int32) (x3 : Int32), f_X2_joinByCongruence_18 n x2 k4 k18 S x1 x3 = some (r, S2) → Keeps wr_X2_joinByCongruence S0 S → Keeps wr_X2_joinByCongruence S0 S2 := by
    intro x2 k4 hk4 k18 hk18 S x1 x3 hf hk
    unfold f_X2_joinByCongruence_18 at hf
    obtain ⟨r_16, S_17, hc_18, hf⟩ := bo_inv hf
    have hk := hk.trans ((fr_X7_size n _ _ _ _ hc_18).mono (fun _ h => False.elim h))
    rcases (Decidable.em (r_16 ≤ x3)) with b_19 | b_19
    · have hf := if_t b_19 hf
      obtain ⟨x2_20, ex2_20, hf⟩ := bd_inv hf
      exact hk4 S_17 x1 x2_20 hf hk
    · have hf := if_f b_19 hf
      obtain ⟨x4_21, ex4_21, hf⟩ := bd_inv hf
      exact j34 x2 x3 k4 hk4 k18 hk18 n S_17 x1 x4_21 hf hk
  have j18 : ∀ (x2 : Int32) (k4 : St → Int32 → Int32 → Option (Unit × St)) (hk4 : ∀ (S : St) (x1 : Int32) (x2 : Int32), k4 S x1 x2 = some (r, S2) → Keeps wr_X2_joinByCongruence S0 S → Keeps wr_X2_joinByCongruence S0 S2) (d : Nat), ∀ (S : St) (x1 : Int32) (x3 : Int32), fixF (fun _ _ _ => none) (f_X2_joinByCongruence_18 n x2 k4) d S x1 x3 = some (r, S2) → Keeps wr_X2_joinByCongruence S0 S → Keeps wr_X2_joinByCongruence S0 S2 := by
    intro x2 k4 hk4 d
    induction d with
    | zero => intro S x1 x3 hf hk; cases hf
    | succ d ih => exact b18 x2 k4 hk4 (fixF (fun _ _ _ => none) (f_X2_joinByCongruence_18 n x2 k4) d) ih
  have b4 : ∀ (k4 : St → Int32 → Int32 → Option (Unit × St)) (hk4 : ∀ (S : St) (x1 : Int32) (x2 : Int32), k4 S x1 x2 = some (r, S2) → Keeps wr_X2_joinByCongruence S0 S → Keeps wr_X2_joinByCongruence S0 S2), ∀ (S : St) (x1 : Int32) (x2 : Int32), f_X2_joinByCongruence_4 n k4 S x1 x2 = some (r, S2) → Keeps wr_X2_joinByCongruence S0 S → Keeps wr_X2_joinByCongruence S0 S2 := by
    intro k4 hk4 S x1 x2 hf hk
    unfold f_X2_joinByCongruence_4 at hf
    rcases (Decidable.em ((10 : Int32) ≤ x2)) with b_22 | b_22
    · have hf := if_t b_22 hf
      exact (rt_inv hf).2 ▸ hk
    · have hf := if_f b_22 hf
      rcases (Decidable.em (x1 = 0)) with b_23 | b_23
      · have hf := if_t b_23 hf
        exact (rt_inv hf).2 ▸ hk
      · have hf := if_f b_23 hf
        obtain ⟨x1_24, ex1_24, hf⟩ := bd_inv hf
        obtain ⟨x3_25, ex3_25, hf⟩ := bd_inv hf
        exact j18 x2 k4 hk4 n S x1_24 x3_25 hf hk
  have j4 : ∀ (d : Nat), ∀ (S : St) (x1 : Int32) (x2 : Int32), fixF (fun _ _ _ => none) (f_X2_joinByCongruence_4 n) d S x1 x2 = some (r, S2) → Keeps wr_X2_joinByCongruence S0 S → Keeps wr_X2_joinByCongruence S0 S2 := by
    intro   d
    induction d with
    | zero => intro S x1 x2 hf hk; cases hf
    | succ d ih => exact b4   (fixF (fun _ _ _ => none) (f_X2_joinByCongruence_4 n) d) ih
  unfold f_X2_joinByCongruence at hf
  obtain ⟨x1_26, ex1_26, hf⟩ := bd_inv hf
  obtain ⟨x2_27, ex2_27, hf⟩ := bd_inv hf
  exact j4   n S x1_26 x2_27 hf hk
def wr_X3_numberOf : Nat → Prop := fun c => False
theorem fr_X3_numberOf (n : Nat) (S : St) (a1 : Int32) (r : Int32) (S2 : St) (hf : f_X3_numberOf n S a1 = some (r, S2)) : Keeps (wr_X3_numberOf) S S2 := by
  have hk : Keeps (wr_X3_numberOf) S S := Keeps.rf
  unfold f_X3_numberOf at hf
  obtain ⟨r_1, S_2, hc_3, hf⟩ := bo_inv hf
  have hk := hk.trans ((fr_X3_has n _ _ _ _ hc_3).mono (fun _ h => False.elim h))
  rcases (Decidable.em (r_1 = 0)) with b_4 | b_4
  · have hf := if_t b_4 hf
    exact (rt_inv hf).2 ▸ hk
  · have hf := if_f b_4 hf
    obtain ⟨g_5, hf⟩ := gd_inv hf
    exact (rt_inv hf).2 ▸ hk
def wr_X2_measure : Nat → Prop := fun c => c = 121
theorem fr_X2_measure (n : Nat) (S : St) (r : Int32) (S2 : St) (hf : f_X2_measure n S = some (r, S2)) : Keeps (wr_X2_measure) S S2 := by
  have hk : Keeps (wr_X2_measure) S S := Keeps.rf
  obtain ⟨S0, hS0⟩ : ∃ S0, S0 = S := ⟨S, rfl⟩
  have hk : Keeps (wr_X2_measure) S0 S := by rw [hS0]; exact hk
  suffices hh : Keeps (wr_X2_measure) S0 S2 by rw [hS0] at hh; exact hh
  have j102 : ∀ (k42 : St → Int32 → Option (Int32 × St)) (hk42 : ∀ (S : St) (x1 : Int32), k42 S x1 = some (r, S2) → Keeps wr_X2_measure S0 S → Keeps wr_X2_measure S0 S2), ∀ (S : St) (x1 : Int32), f_X2_measure_102 n k42 S x1 = some (r, S2) → Keeps wr_X2_measure S0 S → Keeps wr_X2_measure S0 S2 := by
    intro k42 hk42 S x1 hf hk
    unfold f_X2_measure_102 at hf
    obtain ⟨x1_1, ex1_1, hf⟩ := bd_inv hf
    exact hk42 S x1_1 hf hk
  have b42 : ∀ (k42 : St → Int32 → Option (Int32 × St)) (hk42 : ∀ (S : St) (x1 : Int32), k42 S x1 = some (r, S2) → Keeps wr_X2_measure S0 S → Keeps wr_X2_measure S0 S2), ∀ (S : St) (x1 : Int32), f_X2_measure_42 n k42 S x1 = some (r, S2) → Keeps wr_X2_measure S0 S → Keeps wr_X2_measure S0 S2 := by
    intro k42 hk42 S x1 hf hk
    unfold f_X2_measure_42 at hf
    obtain ⟨r_2, S_3, hc_4, hf⟩ := bo_inv hf
    have hk := hk.trans ((fr_X3_size n _ _ _ hc_4).mono (fun _ h => False.elim h))
    rcases (Decidable.em (r_2 ≤ x1)) with b_5 | b_5
    · have hf := if_t b_5 hf
      exact (rt_inv hf).2 ▸ hk
    · have hf := if_f b_5 hf
      obtain ⟨r_6, S_7, hc_8, hf⟩ := bo_inv hf
      have hk := hk.trans ((fr_X3_kindOf n _ _ _ _ hc_8).mono (fun _ h => False.elim h))
      rcases (Decidable.em (r_6 = (2 : Int32))).symm with b_9 | b_9
      · have hf := if_f b_9 hf
        exact j102  k42 hk42 S_7 x1 hf hk
      · have hf := if_t b_9 hf
        obtain ⟨r_10, S_11, hc_12, hf⟩ := bo_inv hf
        have hk := hk.trans ((fr_X3_leftOf n _ _ _ _ hc_12).mono (fun _ h => False.elim h))
        obtain ⟨r_13, S_14, hc_15, hf⟩ := bo_inv hf
        have hk := hk.trans ((fr_X3_rightOf n _ _ _ _ hc_15).mono (fun _ h => False.elim h))
        obtain ⟨r_16, S_17, hc_18, hf⟩ := bo_inv hf
        have hk := hk.trans ((fr_X3_numberOf n _ _ _ _ hc_18).mono (fun _ h => False.elim h))
        obtain ⟨r_19, S_20, hc_21, hf⟩ := bo_inv hf
        have hk := hk.trans ((fr_X1_bound n _ _ _ _ _ _ _ hc_21).mono (by intro c h; unfold wr_X1_bound at h; unfold wr_X2_measure; omega))
        rcases (Decidable.em (r_19 = 0)).symm with b_22 | b_22
        · have hf := if_f b_22 hf
          exact j102  k42 hk42 S_20 x1 hf hk
        · have hf := if_t b_22 hf
          exact (rt_inv hf).2 ▸ hk
  have j42 : ∀ (d : Nat), ∀ (S : St) (x1 : Int32), fixF (fun _ _ => none) (f_X2_measure_42 n) d S x1 = some (r, S2) → Keeps wr_X2_measure S0 S → Keeps wr_X2_measure S0 S2 := by
    intro   d
    induction d with
    | zero => intro S x1 hf hk; cases hf
    | succ d ih => exact b42   (fixF (fun _ _ => none) (f_X2_measure_42 n) d) ih
  have b9 : ∀ (k9 : St → Int32 → Option (Int32 × St)) (hk9 : ∀ (S : St) (x1 : Int32), k9 S x1 = some (r, S2) → Keeps wr_X2_measure S0 S → Keeps wr_X2_measure S0 S2), ∀ (S : St) (x1 : Int32), f_X2_measure_9 n k9 S x1 = some (r, S2) → Keeps wr_X2_measure S0 S → Keeps wr_X2_measure S0 S2 := by
    intro k9 hk9 S x1 hf hk
    unfold f_X2_measure_9 at hf
    rcases (Decidable.em ((10 : Int32) ≤ x1)) with b_23 | b_23
    · have hf := if_t b_23 hf
      obtain ⟨x1_24, ex1_24, hf⟩ := bd_inv hf
      exact j42   n S x1_24 hf hk
    · have hf := if_f b_23 hf
      obtain ⟨g_25, hf⟩ := gd_inv hf
      obtain ⟨r_26, S_27, hc_28, hf⟩ := bo_inv hf
      have hk := hk.trans ((fr_X1_equate n _ _ _ _ _ _ hc_28).mono (by intro c h; unfold wr_X1_equate at h; unfold wr_X2_measure; omega))
      rcases (Decidable.em (r_26 = 0)).symm with b_29 | b_29
      · have hf := if_f b_29 hf
        obtain ⟨x1_30, ex1_30, hf⟩ := bd_inv hf
        exact hk9 S_27 x1_30 hf hk
      · have hf := if_t b_29 hf
        exact (rt_inv hf).2 ▸ hk
  have j9 : ∀ (d : Nat), ∀ (S : St) (x1 : Int32), fixF (fun _ _ => none) (f_X2_measure_9 n) d S x1 = some (r, S2) → Keeps wr_X2_measure S0 S → Keeps wr_X2_measure S0 S2 := by
    intro   d
    induction d with
    | zero => intro S x1 hf hk; cases hf
    | succ d ih => exact b9   (fixF (fun _ _ => none) (f_X2_measure_9 n) d) ih
  unfold f_X2_measure at hf
  obtain ⟨r_31, S_32, hc_33, hf⟩ := bo_inv hf
  have hk := hk.trans ((fr_X1_clear n _ _ _ _ hc_33).mono (by intro c h; unfold wr_X1_clear at h; unfold wr_X2_measure; omega))
  obtain ⟨x1_34, ex1_34, hf⟩ := bd_inv hf
  exact j9   n S_32 x1_34 hf hk
def wr_X2_joinByDistances : Nat → Prop := fun c => c = 22
theorem fr_X2_joinByDistances (n : Nat) (S : St) (r : Int32) (S2 : St) (hf : f_X2_joinByDistances n S = some (r, S2)) : Keeps (wr_X2_joinByDistances) S S2 := by
  have hk : Keeps (wr_X2_joinByDistances) S S := Keeps.rf
  obtain ⟨S0, hS0⟩ : ∃ S0, S0 = S := ⟨S, rfl⟩
  have hk : Keeps (wr_X2_joinByDistances) S0 S := by rw [hS0]; exact hk
  suffices hh : Keeps (wr_X2_joinByDistances) S0 S2 by rw [hS0] at hh; exact hh
  have j53 : ∀ (x2 : Int32) (k4 : St → Int32 → Int32 → Option (Int32 × St)) (hk4 : ∀ (S : St) (x1 : Int32) (x2 : Int32), k4 S x1 x2 = some (r, S2) → Keeps wr_X2_joinByDistances S0 S → Keeps wr_X2_joinByDistances S0 S2) (k19 : St → Int32 → Int32 → Option (Int32 × St)) (hk19 : ∀ (S : St) (x1 : Int32) (x3 : Int32), k19 S x1 x3 = some (r, S2) → Keeps wr_X2_joinByDistances S0 S → Keeps wr_X2_joinByDistances S0 S2), ∀ (S : St) (x1 : Int32) (x3 : Int32), f_X2_joinByDistances_53 n x2 k4 k19 S x1 x3 = some (r, S2) → Keeps wr_X2_joinByDistances S0 S → Keeps wr_X2_joinByDistances S0 S2 := by
    intro x2 k4 hk4 k19 hk19 S x1 x3 hf hk
    unfold f_X2_joinByDistances_53 at hf
    obtain ⟨x3_1, ex3_1, hf⟩ := bd_inv hf
    exact hk19 S x1 x3_1 hf hk
  have b19 : ∀ (x2 : Int32) (k4 : St → Int32 → Int32 → Option (Int32 × St)) (hk4 : ∀ (S : St) (x1 : Int32) (x2 : Int32), k4 S x1 x2 = some (r, S2) → Keeps wr_X2_joinByDistances S0 S → Keeps wr_X2_joinByDistances S0 S2) (k19 : St → Int32 → Int32 → Option (Int32 × St)) (hk19 : ∀ (S : St) (x1 : Int32) (x3 : Int32), k19 S x1 x3 = some (r, S2) → Keeps wr_X2_joinByDistances S0 S → Keeps wr_X2_joinByDistances S0 S2), ∀ (S : St) (x1 : Int32) (x3 : Int32), f_X2_joinByDistances_19 n x2 k4 k19 S x1 x3 = some (r, S2) → Keeps wr_X2_joinByDistances S0 S → Keeps wr_X2_joinByDistances S0 S2 := by
    intro x2 k4 hk4 k19 hk19 S x1 x3 hf hk
    unfold f_X2_joinByDistances_19 at hf
    obtain ⟨r_2, S_3, hc_4, hf⟩ := bo_inv hf
    have hk := hk.trans ((fr_X7_size n _ _ _ _ hc_4).mono (fun _ h => False.elim h))
    rcases (Decidable.em (r_2 ≤ x3)) with b_5 | b_5
    · have hf := if_t b_5 hf
      obtain ⟨x2_6, ex2_6, hf⟩ := bd_inv hf
      exact hk4 S_3 x1 x2_6 hf hk
    · have hf := if_f b_5 hf
      obtain ⟨r_7, S_8, hc_9, hf⟩ := bo_inv hf
      have hk := hk.trans ((fr_X1_areEqual n _ _ _ _ _ _ hc_9).mono (fun _ h => False.elim h))
      rcases (Decidable.em (r_7 = 0)) with b_10 | b_10
      · have hf := if_t b_10 hf
        exact j53 x2 k4 hk4 k19 hk19 S_8 x1 x3 hf hk
      · have hf := if_f b_10 hf
        obtain ⟨r_11, S_12, hc_13, hf⟩ := bo_inv hf
        have hk := hk.trans ((fr_X2_join n _ _ _ _ _ hc_13).mono (by intro c h; unfold wr_X2_join at h; unfold wr_X2_joinByDistances; omega))
        rcases (Decidable.em (r_11 = 0)) with b_14 | b_14
        · have hf := if_t b_14 hf
          exact j53 x2 k4 hk4 k19 hk19 S_12 x1 x3 hf hk
        · have hf := if_f b_14 hf
          obtain ⟨x1_15, ex1_15, hf⟩ := bd_inv hf
          exact j53 x2 k4 hk4 k19 hk19 S_12 x1_15 x3 hf hk
  have j19 : ∀ (x2 : Int32) (k4 : St → Int32 → Int32 → Option (Int32 × St)) (hk4 : ∀ (S : St) (x1 : Int32) (x2 : Int32), k4 S x1 x2 = some (r, S2) → Keeps wr_X2_joinByDistances S0 S → Keeps wr_X2_joinByDistances S0 S2) (d : Nat), ∀ (S : St) (x1 : Int32) (x3 : Int32), fixF (fun _ _ _ => none) (f_X2_joinByDistances_19 n x2 k4) d S x1 x3 = some (r, S2) → Keeps wr_X2_joinByDistances S0 S → Keeps wr_X2_joinByDistances S0 S2 := by
    intro x2 k4 hk4 d
    induction d with
    | zero => intro S x1 x3 hf hk; cases hf
    | succ d ih => exact b19 x2 k4 hk4 (fixF (fun _ _ _ => none) (f_X2_joinByDistances_19 n x2 k4) d) ih
  have b4 : ∀ (k4 : St → Int32 → Int32 → Option (Int32 × St)) (hk4 : ∀ (S : St) (x1 : Int32) (x2 : Int32), k4 S x1 x2 = some (r, S2) → Keeps wr_X2_joinByDistances S0 S → Keeps wr_X2_joinByDistances S0 S2), ∀ (S : St) (x1 : Int32) (x2 : Int32), f_X2_joinByDistances_4 n k4 S x1 x2 = some (r, S2) → Keeps wr_X2_joinByDistances S0 S → Keeps wr_X2_joinByDistances S0 S2 := by
    intro k4 hk4 S x1 x2 hf hk
    unfold f_X2_joinByDistances_4 at hf
    obtain ⟨r_16, S_17, hc_18, hf⟩ := bo_inv hf
    have hk := hk.trans ((fr_X7_size n _ _ _ _ hc_18).mono (fun _ h => False.elim h))
    rcases (Decidable.em (r_16 ≤ x2)) with b_19 | b_19
    · have hf := if_t b_19 hf
      obtain ⟨g_20, hf⟩ := gd_inv hf
      exact (rt_inv hf).2 ▸ hk
    · have hf := if_f b_19 hf
      obtain ⟨x3_21, ex3_21, hf⟩ := bd_inv hf
      exact j19 x2 k4 hk4 n S_17 x1 x3_21 hf hk
  have j4 : ∀ (d : Nat), ∀ (S : St) (x1 : Int32) (x2 : Int32), fixF (fun _ _ _ => none) (f_X2_joinByDistances_4 n) d S x1 x2 = some (r, S2) → Keeps wr_X2_joinByDistances S0 S → Keeps wr_X2_joinByDistances S0 S2 := by
    intro   d
    induction d with
    | zero => intro S x1 x2 hf hk; cases hf
    | succ d ih => exact b4   (fixF (fun _ _ _ => none) (f_X2_joinByDistances_4 n) d) ih
  unfold f_X2_joinByDistances at hf
  obtain ⟨x1_22, ex1_22, hf⟩ := bd_inv hf
  obtain ⟨x2_23, ex2_23, hf⟩ := bd_inv hf
  exact j4   n S x1_22 x2_23 hf hk
def wr_X2_violatesInequality : Nat → Prop := fun c => False
theorem fr_X2_violatesInequality (n : Nat) (S : St) (r : Int32) (S2 : St) (hf : f_X2_violatesInequality n S = some (r, S2)) : Keeps (wr_X2_violatesInequality) S S2 := by
  have hk : Keeps (wr_X2_violatesInequality) S S := Keeps.rf
  obtain ⟨S0, hS0⟩ : ∃ S0, S0 = S := ⟨S, rfl⟩
  have hk : Keeps (wr_X2_violatesInequality) S0 S := by rw [hS0]; exact hk
  suffices hh : Keeps (wr_X2_violatesInequality) S0 S2 by rw [hS0] at hh; exact hh
  have j54 : ∀ (k2 : St → Int32 → Option (Int32 × St)) (hk2 : ∀ (S : St) (x1 : Int32), k2 S x1 = some (r, S2) → Keeps wr_X2_violatesInequality S0 S → Keeps wr_X2_violatesInequality S0 S2), ∀ (S : St) (x1 : Int32), f_X2_violatesInequality_54 n k2 S x1 = some (r, S2) → Keeps wr_X2_violatesInequality S0 S → Keeps wr_X2_violatesInequality S0 S2 := by
    intro k2 hk2 S x1 hf hk
    unfold f_X2_violatesInequality_54 at hf
    obtain ⟨x1_1, ex1_1, hf⟩ := bd_inv hf
    exact hk2 S x1_1 hf hk
  have b2 : ∀ (k2 : St → Int32 → Option (Int32 × St)) (hk2 : ∀ (S : St) (x1 : Int32), k2 S x1 = some (r, S2) → Keeps wr_X2_violatesInequality S0 S → Keeps wr_X2_violatesInequality S0 S2), ∀ (S : St) (x1 : Int32), f_X2_violatesInequality_2 n k2 S x1 = some (r, S2) → Keeps wr_X2_violatesInequality S0 S → Keeps wr_X2_violatesInequality S0 S2 := by
    intro k2 hk2 S x1 hf hk
    unfold f_X2_violatesInequality_2 at hf
    obtain ⟨r_2, S_3, hc_4, hf⟩ := bo_inv hf
    have hk := hk.trans ((fr_X3_size n _ _ _ hc_4).mono (fun _ h => False.elim h))
    rcases (Decidable.em (r_2 ≤ x1)) with b_5 | b_5
    · have hf := if_t b_5 hf
      exact (rt_inv hf).2 ▸ hk
    · have hf := if_f b_5 hf
      obtain ⟨r_6, S_7, hc_8, hf⟩ := bo_inv hf
      have hk := hk.trans ((fr_X3_kindOf n _ _ _ _ hc_8).mono (fun _ h => False.elim h))
      rcases (Decidable.em (r_6 = (1 : Int32))).symm with b_9 | b_9
      · have hf := if_f b_9 hf
        exact j54  k2 hk2 S_7 x1 hf hk
      · have hf := if_t b_9 hf
        obtain ⟨r_10, S_11, hc_12, hf⟩ := bo_inv hf
        have hk := hk.trans ((fr_X3_leftOf n _ _ _ _ hc_12).mono (fun _ h => False.elim h))
        obtain ⟨r_13, S_14, hc_15, hf⟩ := bo_inv hf
        have hk := hk.trans ((fr_X2_smallestSame n _ _ _ _ hc_15).mono (fun _ h => False.elim h))
        obtain ⟨r_16, S_17, hc_18, hf⟩ := bo_inv hf
        have hk := hk.trans ((fr_X3_rightOf n _ _ _ _ hc_18).mono (fun _ h => False.elim h))
        obtain ⟨r_19, S_20, hc_21, hf⟩ := bo_inv hf
        have hk := hk.trans ((fr_X2_smallestSame n _ _ _ _ hc_21).mono (fun _ h => False.elim h))
        rcases (Decidable.em (r_13 = r_19)).symm with b_22 | b_22
        · have hf := if_f b_22 hf
          exact j54  k2 hk2 S_20 x1 hf hk
        · have hf := if_t b_22 hf
          exact (rt_inv hf).2 ▸ hk
  have j2 : ∀ (d : Nat), ∀ (S : St) (x1 : Int32), fixF (fun _ _ => none) (f_X2_violatesInequality_2 n) d S x1 = some (r, S2) → Keeps wr_X2_violatesInequality S0 S → Keeps wr_X2_violatesInequality S0 S2 := by
    intro   d
    induction d with
    | zero => intro S x1 hf hk; cases hf
    | succ d ih => exact b2   (fixF (fun _ _ => none) (f_X2_violatesInequality_2 n) d) ih
  unfold f_X2_violatesInequality at hf
  obtain ⟨x1_23, ex1_23, hf⟩ := bd_inv hf
  exact j2   n S x1_23 hf hk
def wr_X2_run : Nat → Prop := fun c => c = 121 ∨ c = 21 ∨ c = 22
theorem fr_X2_run (n : Nat) (S : St) (r : Unit) (S2 : St) (hf : f_X2_run n S = some (r, S2)) : Keeps (wr_X2_run) S S2 := by
  have hk : Keeps (wr_X2_run) S S := Keeps.rf
  obtain ⟨S0, hS0⟩ : ∃ S0, S0 = S := ⟨S, rfl⟩
  have hk : Keeps (wr_X2_run) S0 S := by rw [hS0]; exact hk
  suffices hh : Keeps (wr_X2_run) S0 S2 by rw [hS0] at hh; exact hh
  have j51 : ∀ (S : St), f_X2_run_51 n S = some (r, S2) → Keeps wr_X2_run S0 S → Keeps wr_X2_run S0 S2 := by
    intro S hf hk
    unfold f_X2_run_51 at hf
    obtain ⟨r_1, S_2, hc_3, hf⟩ := bo_inv hf
    have hk := hk.trans ((fr_X2_violatesInequality n _ _ _ hc_3).mono (fun _ h => False.elim h))
    obtain ⟨g_5, hf⟩ := gd_inv hf
    obtain ⟨S_4, eS_4, hf⟩ := bd_inv hf
    have hk := hk.trans (kpI eS_4 (by unfold wr_X2_run; omega))
    exact (rt_inv hf).2 ▸ hk
  have b8 : ∀ (k8 : St → Int32 → Int32 → Option (Unit × St)) (hk8 : ∀ (S : St) (x1 : Int32) (x2 : Int32), k8 S x1 x2 = some (r, S2) → Keeps wr_X2_run S0 S → Keeps wr_X2_run S0 S2), ∀ (S : St) (x1 : Int32) (x2 : Int32), f_X2_run_8 n k8 S x1 x2 = some (r, S2) → Keeps wr_X2_run S0 S → Keeps wr_X2_run S0 S2 := by
    intro k8 hk8 S x1 x2 hf hk
    unfold f_X2_run_8 at hf
    rcases (Decidable.em ((10 : Int32) < x2)) with b_6 | b_6
    · have hf := if_t b_6 hf
      exact j51   S  hf hk
    · have hf := if_f b_6 hf
      rcases (Decidable.em (x1 = 0)) with b_7 | b_7
      · have hf := if_t b_7 hf
        exact j51   S  hf hk
      · have hf := if_f b_7 hf
        obtain ⟨S_8, eS_8, hf⟩ := bd_inv hf
        have hk := hk.trans (kpI eS_8 (by unfold wr_X2_run; omega))
        obtain ⟨r_9, S_10, hc_11, hf⟩ := bo_inv hf
        have hk := hk.trans ((fr_X2_joinByCongruence n _ _ _ hc_11).mono (by intro c h; unfold wr_X2_joinByCongruence at h; unfold wr_X2_run; omega))
        obtain ⟨r_12, S_13, hc_14, hf⟩ := bo_inv hf
        have hk := hk.trans ((fr_X2_measure n _ _ _ hc_14).mono (by intro c h; unfold wr_X2_measure at h; unfold wr_X2_run; omega))
        rcases (Decidable.em (r_12 = 0)).symm with b_15 | b_15
        · have hf := if_f b_15 hf
          obtain ⟨r_16, S_17, hc_18, hf⟩ := bo_inv hf
          have hk := hk.trans ((fr_X2_joinByDistances n _ _ _ hc_18).mono (by intro c h; unfold wr_X2_joinByDistances at h; unfold wr_X2_run; omega))
          obtain ⟨x1_19, ex1_19, hf⟩ := bd_inv hf
          obtain ⟨x2_20, ex2_20, hf⟩ := bd_inv hf
          exact hk8 S_17 x1_19 x2_20 hf hk
        · have hf := if_t b_15 hf
          obtain ⟨S_21, eS_21, hf⟩ := bd_inv hf
          have hk := hk.trans (kpI eS_21 (by unfold wr_X2_run; omega))
          exact (rt_inv hf).2 ▸ hk
  have j8 : ∀ (d : Nat), ∀ (S : St) (x1 : Int32) (x2 : Int32), fixF (fun _ _ _ => none) (f_X2_run_8 n) d S x1 x2 = some (r, S2) → Keeps wr_X2_run S0 S → Keeps wr_X2_run S0 S2 := by
    intro   d
    induction d with
    | zero => intro S x1 x2 hf hk; cases hf
    | succ d ih => exact b8   (fixF (fun _ _ _ => none) (f_X2_run_8 n) d) ih
  unfold f_X2_run at hf
  obtain ⟨r_22, S_23, hc_24, hf⟩ := bo_inv hf
  have hk := hk.trans ((fr_X2_joinByEqualities n _ _ _ hc_24).mono (by intro c h; unfold wr_X2_joinByEqualities at h; unfold wr_X2_run; omega))
  obtain ⟨x1_25, ex1_25, hf⟩ := bd_inv hf
  obtain ⟨x2_26, ex2_26, hf⟩ := bd_inv hf
  exact j8   n S_23 x1_25 x2_26 hf hk
def wr_X3_all : Nat → Prop := fun c => False
theorem fr_X3_all (n : Nat) (S : St) (r : Int32) (S2 : St) (hf : f_X3_all n S = some (r, S2)) : Keeps (wr_X3_all) S S2 := by
  have hk : Keeps (wr_X3_all) S S := Keeps.rf
  unfold f_X3_all at hf
  exact (rt_inv hf).2 ▸ hk
def wr_X3_howManyHave : Nat → Prop := fun c => False
theorem fr_X3_howManyHave (n : Nat) (S : St) (a1 : Int32) (r : Int32) (S2 : St) (hf : f_X3_howManyHave n S a1 = some (r, S2)) : Keeps (wr_X3_howManyHave) S S2 := by
  have hk : Keeps (wr_X3_howManyHave) S S := Keeps.rf
  obtain ⟨S0, hS0⟩ : ∃ S0, S0 = S := ⟨S, rfl⟩
  have hk : Keeps (wr_X3_howManyHave) S0 S := by rw [hS0]; exact hk
  suffices hh : Keeps (wr_X3_howManyHave) S0 S2 by rw [hS0] at hh; exact hh
  have j41 : ∀ (x1 : Int32) (k4 : St → Int32 → Int32 → Option (Int32 × St)) (hk4 : ∀ (S : St) (x2 : Int32) (x3 : Int32), k4 S x2 x3 = some (r, S2) → Keeps wr_X3_howManyHave S0 S → Keeps wr_X3_howManyHave S0 S2), ∀ (S : St) (x2 : Int32) (x3 : Int32), f_X3_howManyHave_41 n x1 k4 S x2 x3 = some (r, S2) → Keeps wr_X3_howManyHave S0 S → Keeps wr_X3_howManyHave S0 S2 := by
    intro x1 k4 hk4 S x2 x3 hf hk
    unfold f_X3_howManyHave_41 at hf
    obtain ⟨x3_1, ex3_1, hf⟩ := bd_inv hf
    exact hk4 S x2 x3_1 hf hk
  have j38 : ∀ (x1 : Int32) (k4 : St → Int32 → Int32 → Option (Int32 × St)) (hk4 : ∀ (S : St) (x2 : Int32) (x3 : Int32), k4 S x2 x3 = some (r, S2) → Keeps wr_X3_howManyHave S0 S → Keeps wr_X3_howManyHave S0 S2), ∀ (S : St) (x2 : Int32) (x3 : Int32), f_X3_howManyHave_38 n x1 k4 S x2 x3 = some (r, S2) → Keeps wr_X3_howManyHave S0 S → Keeps wr_X3_howManyHave S0 S2 := by
    intro x1 k4 hk4 S x2 x3 hf hk
    unfold f_X3_howManyHave_38 at hf
    obtain ⟨x2_2, ex2_2, hf⟩ := bd_inv hf
    exact j41 x1 k4 hk4 S x2_2 x3 hf hk
  have b4 : ∀ (x1 : Int32) (k4 : St → Int32 → Int32 → Option (Int32 × St)) (hk4 : ∀ (S : St) (x2 : Int32) (x3 : Int32), k4 S x2 x3 = some (r, S2) → Keeps wr_X3_howManyHave S0 S → Keeps wr_X3_howManyHave S0 S2), ∀ (S : St) (x2 : Int32) (x3 : Int32), f_X3_howManyHave_4 n x1 k4 S x2 x3 = some (r, S2) → Keeps wr_X3_howManyHave S0 S → Keeps wr_X3_howManyHave S0 S2 := by
    intro x1 k4 hk4 S x2 x3 hf hk
    unfold f_X3_howManyHave_4 at hf
    rcases (Decidable.em ((S.1 16 4) ≤ x3)) with b_3 | b_3
    · have hf := if_t b_3 hf
      exact (rt_inv hf).2 ▸ hk
    · have hf := if_f b_3 hf
      rcases (Decidable.em ((10 : Int32) ≤ x3)) with b_4 | b_4
      · have hf := if_t b_4 hf
        exact (rt_inv hf).2 ▸ hk
      · have hf := if_f b_4 hf
        obtain ⟨g_5, hf⟩ := gd_inv hf
        rcases (Decidable.em ((S.1 18 (x3).toNatClampNeg) = x1)) with b_6 | b_6
        · have hf := if_t b_6 hf
          exact j38 x1 k4 hk4 S x2 x3 hf hk
        · have hf := if_f b_6 hf
          obtain ⟨g_7, hf⟩ := gd_inv hf
          rcases (Decidable.em ((S.1 19 (x3).toNatClampNeg) = x1)).symm with b_8 | b_8
          · have hf := if_f b_8 hf
            exact j41 x1 k4 hk4 S x2 x3 hf hk
          · have hf := if_t b_8 hf
            exact j38 x1 k4 hk4 S x2 x3 hf hk
  have j4 : ∀ (x1 : Int32) (d : Nat), ∀ (S : St) (x2 : Int32) (x3 : Int32), fixF (fun _ _ _ => none) (f_X3_howManyHave_4 n x1) d S x2 x3 = some (r, S2) → Keeps wr_X3_howManyHave S0 S → Keeps wr_X3_howManyHave S0 S2 := by
    intro x1  d
    induction d with
    | zero => intro S x2 x3 hf hk; cases hf
    | succ d ih => exact b4 x1  (fixF (fun _ _ _ => none) (f_X3_howManyHave_4 n x1) d) ih
  unfold f_X3_howManyHave at hf
  obtain ⟨x2_9, ex2_9, hf⟩ := bd_inv hf
  obtain ⟨x3_10, ex3_10, hf⟩ := bd_inv hf
  exact j4 a1  n S x2_9 x3_10 hf hk
def wr_X3_append : Nat → Prop := fun c => c = 16 ∨ c = 17 ∨ c = 18 ∨ c = 19 ∨ c = 20
theorem fr_X3_append (n : Nat) (S : St) (a1 : Int32) (a2 : Int32) (a3 : Int32) (a4 : Int32) (r : Unit) (S2 : St) (hf : f_X3_append n S a1 a2 a3 a4 = some (r, S2)) : Keeps (wr_X3_append) S S2 := by
  have hk : Keeps (wr_X3_append) S S := Keeps.rf
  unfold f_X3_append at hf
  rcases (Decidable.em ((S.1 16 4) < 0)) with b_1 | b_1
  · have hf := if_t b_1 hf
    exact (rt_inv hf).2 ▸ hk
  · have hf := if_f b_1 hf
    rcases (Decidable.em ((S.1 16 4) < (10 : Int32))) with b_2 | b_2
    · have hf := if_t b_2 hf
      obtain ⟨g_3, hf⟩ := gd_inv hf
      obtain ⟨S_4, eS_4, hf⟩ := bd_inv hf
      have hk := hk.trans (kpI eS_4 (by unfold wr_X3_append; omega))
      obtain ⟨g_5, hf⟩ := gd_inv hf
      obtain ⟨S_6, eS_6, hf⟩ := bd_inv hf
      have hk := hk.trans (kpI eS_6 (by unfold wr_X3_append; omega))
      obtain ⟨g_7, hf⟩ := gd_inv hf
      obtain ⟨S_8, eS_8, hf⟩ := bd_inv hf
      have hk := hk.trans (kpI eS_8 (by unfold wr_X3_append; omega))
      obtain ⟨g_9, hf⟩ := gd_inv hf
      obtain ⟨S_10, eS_10, hf⟩ := bd_inv hf
      have hk := hk.trans (kpI eS_10 (by unfold wr_X3_append; omega))
      obtain ⟨S_11, eS_11, hf⟩ := bd_inv hf
      have hk := hk.trans (kpI eS_11 (by unfold wr_X3_append; omega))
      exact (rt_inv hf).2 ▸ hk
    · have hf := if_f b_2 hf
      exact (rt_inv hf).2 ▸ hk
def wr_X3_removeAt : Nat → Prop := fun c => c = 16 ∨ c = 17 ∨ c = 18 ∨ c = 19 ∨ c = 20
theorem fr_X3_removeAt (n : Nat) (S : St) (a1 : Int32) (r : Unit) (S2 : St) (hf : f_X3_removeAt n S a1 = some (r, S2)) : Keeps (wr_X3_removeAt) S S2 := by
  have hk : Keeps (wr_X3_removeAt) S S := Keeps.rf
  obtain ⟨S0, hS0⟩ : ∃ S0, S0 = S := ⟨S, rfl⟩
  have hk : Keeps (wr_X3_removeAt) S0 S := by rw [hS0]; exact hk
  suffices hh : Keeps (wr_X3_removeAt) S0 S2 by rw [hS0] at hh; exact hh
  have j91 : ∀ (S : St), f_X3_removeAt_91 n S = some (r, S2) → Keeps wr_X3_removeAt S0 S → Keeps wr_X3_removeAt S0 S2 := by
    intro S hf hk
    unfold f_X3_removeAt_91 at hf
    obtain ⟨S_1, eS_1, hf⟩ := bd_inv hf
    have hk := hk.trans (kpI eS_1 (by unfold wr_X3_removeAt; omega))
    exact (rt_inv hf).2 ▸ hk
  have b11 : ∀ (k11 : St → Int32 → Option (Unit × St)) (hk11 : ∀ (S : St) (x2 : Int32), k11 S x2 = some (r, S2) → Keeps wr_X3_removeAt S0 S → Keeps wr_X3_removeAt S0 S2), ∀ (S : St) (x2 : Int32), f_X3_removeAt_11 n k11 S x2 = some (r, S2) → Keeps wr_X3_removeAt S0 S → Keeps wr_X3_removeAt S0 S2 := by
    intro k11 hk11 S x2 hf hk
    unfold f_X3_removeAt_11 at hf
    rcases (Decidable.em ((S.1 16 4) ≤ (x2 + (1 : Int32)))) with b_2 | b_2
    · have hf := if_t b_2 hf
      exact j91   S  hf hk
    · have hf := if_f b_2 hf
      rcases (Decidable.em ((10 : Int32) ≤ (x2 + (1 : Int32)))) with b_3 | b_3
      · have hf := if_t b_3 hf
        exact j91   S  hf hk
      · have hf := if_f b_3 hf
        obtain ⟨g_4, hf⟩ := gd_inv hf
        obtain ⟨g_5, hf⟩ := gd_inv hf
        obtain ⟨S_6, eS_6, hf⟩ := bd_inv hf
        have hk := hk.trans (kpI eS_6 (by unfold wr_X3_removeAt; omega))
        obtain ⟨g_7, hf⟩ := gd_inv hf
        obtain ⟨g_8, hf⟩ := gd_inv hf
        obtain ⟨S_9, eS_9, hf⟩ := bd_inv hf
        have hk := hk.trans (kpI eS_9 (by unfold wr_X3_removeAt; omega))
        obtain ⟨g_10, hf⟩ := gd_inv hf
        obtain ⟨g_11, hf⟩ := gd_inv hf
        obtain ⟨S_12, eS_12, hf⟩ := bd_inv hf
        have hk := hk.trans (kpI eS_12 (by unfold wr_X3_removeAt; omega))
        obtain ⟨g_13, hf⟩ := gd_inv hf
        obtain ⟨g_14, hf⟩ := gd_inv hf
        obtain ⟨S_15, eS_15, hf⟩ := bd_inv hf
        have hk := hk.trans (kpI eS_15 (by unfold wr_X3_removeAt; omega))
        obtain ⟨x2_16, ex2_16, hf⟩ := bd_inv hf
        exact hk11 S_15 x2_16 hf hk
  have j11 : ∀ (d : Nat), ∀ (S : St) (x2 : Int32), fixF (fun _ _ => none) (f_X3_removeAt_11 n) d S x2 = some (r, S2) → Keeps wr_X3_removeAt S0 S → Keeps wr_X3_removeAt S0 S2 := by
    intro   d
    induction d with
    | zero => intro S x2 hf hk; cases hf
    | succ d ih => exact b11   (fixF (fun _ _ => none) (f_X3_removeAt_11 n) d) ih
  unfold f_X3_removeAt at hf
  obtain ⟨r_17, S_18, hc_19, hf⟩ := bo_inv hf
  have hk := hk.trans ((fr_X3_has n _ _ _ _ hc_19).mono (fun _ h => False.elim h))
  rcases (Decidable.em (r_17 = 0)).symm with b_20 | b_20
  · have hf := if_f b_20 hf
    obtain ⟨x2_21, ex2_21, hf⟩ := bd_inv hf
    exact j11   n S_18 x2_21 hf hk
  · have hf := if_t b_20 hf
    exact (rt_inv hf).2 ▸ hk
def wr_X3_setTerms : Nat → Prop := fun c => c = 18 ∨ c = 19
theorem fr_X3_setTerms (n : Nat) (S : St) (a1 : Int32) (a2 : Int32) (a3 : Int32) (r : Unit) (S2 : St) (hf : f_X3_setTerms n S a1 a2 a3 = some (r, S2)) : Keeps (wr_X3_setTerms) S S2 := by
  have hk : Keeps (wr_X3_setTerms) S S := Keeps.rf
  unfold f_X3_setTerms at hf
  obtain ⟨r_1, S_2, hc_3, hf⟩ := bo_inv hf
  have hk := hk.trans ((fr_X3_has n _ _ _ _ hc_3).mono (fun _ h => False.elim h))
  rcases (Decidable.em (r_1 = 0)) with b_4 | b_4
  · have hf := if_t b_4 hf
    exact (rt_inv hf).2 ▸ hk
  · have hf := if_f b_4 hf
    obtain ⟨g_5, hf⟩ := gd_inv hf
    obtain ⟨S_6, eS_6, hf⟩ := bd_inv hf
    have hk := hk.trans (kpI eS_6 (by unfold wr_X3_setTerms; omega))
    obtain ⟨g_7, hf⟩ := gd_inv hf
    obtain ⟨S_8, eS_8, hf⟩ := bd_inv hf
    have hk := hk.trans (kpI eS_8 (by unfold wr_X3_setTerms; omega))
    exact (rt_inv hf).2 ▸ hk
def wr_X3_setNumber : Nat → Prop := fun c => c = 20
theorem fr_X3_setNumber (n : Nat) (S : St) (a1 : Int32) (a2 : Int32) (r : Unit) (S2 : St) (hf : f_X3_setNumber n S a1 a2 = some (r, S2)) : Keeps (wr_X3_setNumber) S S2 := by
  have hk : Keeps (wr_X3_setNumber) S S := Keeps.rf
  unfold f_X3_setNumber at hf
  obtain ⟨r_1, S_2, hc_3, hf⟩ := bo_inv hf
  have hk := hk.trans ((fr_X3_has n _ _ _ _ hc_3).mono (fun _ h => False.elim h))
  rcases (Decidable.em (r_1 = 0)) with b_4 | b_4
  · have hf := if_t b_4 hf
    exact (rt_inv hf).2 ▸ hk
  · have hf := if_f b_4 hf
    obtain ⟨g_5, hf⟩ := gd_inv hf
    obtain ⟨S_6, eS_6, hf⟩ := bd_inv hf
    have hk := hk.trans (kpI eS_6 (by unfold wr_X3_setNumber; omega))
    exact (rt_inv hf).2 ▸ hk
def wr_X4_first : Nat → Prop := fun c => False
theorem fr_X4_first (n : Nat) (S : St) (r : Int32) (S2 : St) (hf : f_X4_first n S = some (r, S2)) : Keeps (wr_X4_first) S S2 := by
  have hk : Keeps (wr_X4_first) S S := Keeps.rf
  unfold f_X4_first at hf
  exact (rt_inv hf).2 ▸ hk
def wr_X4_second : Nat → Prop := fun c => False
theorem fr_X4_second (n : Nat) (S : St) (r : Int32) (S2 : St) (hf : f_X4_second n S = some (r, S2)) : Keeps (wr_X4_second) S S2 := by
  have hk : Keeps (wr_X4_second) S S := Keeps.rf
  unfold f_X4_second at hf
  exact (rt_inv hf).2 ▸ hk
def wr_X6_aimAt : Nat → Prop := fun c => c = 23
theorem fr_X6_aimAt (n : Nat) (S : St) (a1 : Int32) (a2 : Int32) (r : Unit) (S2 : St) (hf : f_X6_aimAt n S a1 a2 = some (r, S2)) : Keeps (wr_X6_aimAt) S S2 := by
  have hk : Keeps (wr_X6_aimAt) S S := Keeps.rf
  unfold f_X6_aimAt at hf
  obtain ⟨S_1, eS_1, hf⟩ := bd_inv hf
  have hk := hk.trans (kpI eS_1 (by unfold wr_X6_aimAt; omega))
  obtain ⟨S_2, eS_2, hf⟩ := bd_inv hf
  have hk := hk.trans (kpI eS_2 (by unfold wr_X6_aimAt; omega))
  exact (rt_inv hf).2 ▸ hk
def wr_X6_demandEqual : Nat → Prop := fun c => 97 ≤ c ∨ c = 23
theorem fr_X6_demandEqual (n : Nat) (S : St) (a1 : Int32) (a2 : Int32) (r : Unit) (S2 : St) (hf : f_X6_demandEqual n S a1 a2 = some (r, S2)) : Keeps (wr_X6_demandEqual) S S2 := by
  have hk : Keeps (wr_X6_demandEqual) S S := Keeps.rf
  unfold f_X6_demandEqual at hf
  obtain ⟨g_1, hf⟩ := gd_inv hf
  obtain ⟨r_2, S_3, hc_4, hf⟩ := bo_inv hf
  have hk := hk.trans ((fr_X1_equate n _ _ _ _ _ _ hc_4).mono (by intro c h; unfold wr_X1_equate at h; unfold wr_X6_demandEqual; omega))
  rcases (Decidable.em (r_2 = 0)).symm with b_5 | b_5
  · have hf := if_f b_5 hf
    exact (rt_inv hf).2 ▸ hk
  · have hf := if_t b_5 hf
    obtain ⟨S_6, eS_6, hf⟩ := bd_inv hf
    have hk := hk.trans (kpI eS_6 (by unfold wr_X6_demandEqual; omega))
    exact (rt_inv hf).2 ▸ hk
def wr_X6_demandDifferent : Nat → Prop := fun c => 50 ≤ c ∨ c = 23
theorem fr_X6_demandDifferent (n : Nat) (S : St) (a1 : Int32) (a2 : Int32) (r : Unit) (S2 : St) (hf : f_X6_demandDifferent n S a1 a2 = some (r, S2)) : Keeps (wr_X6_demandDifferent) S S2 := by
  have hk : Keeps (wr_X6_demandDifferent) S S := Keeps.rf
  unfold f_X6_demandDifferent at hf
  rcases (Decidable.em ((S.1 23 3) < 0)) with b_1 | b_1
  · have hf := if_t b_1 hf
    exact (rt_inv hf).2 ▸ hk
  · have hf := if_f b_1 hf
    rcases (Decidable.em ((22 : Int32) ≤ (S.1 23 3))) with b_2 | b_2
    · have hf := if_t b_2 hf
      exact (rt_inv hf).2 ▸ hk
    · have hf := if_f b_2 hf
      obtain ⟨g_3, hf⟩ := gd_inv hf
      obtain ⟨r_4, S_5, hc_6, hf⟩ := bo_inv hf
      have hk := hk.trans ((fr_X0_setInequality n _ _ _ _ _ _ hc_6).mono (by intro c h; unfold wr_X0_setInequality at h; unfold wr_X6_demandDifferent; omega))
      obtain ⟨S_7, eS_7, hf⟩ := bd_inv hf
      have hk := hk.trans (kpI eS_7 (by unfold wr_X6_demandDifferent; omega))
      exact (rt_inv hf).2 ▸ hk
def wr_X6_demandAtMost : Nat → Prop := fun c => 97 ≤ c ∨ c = 23
theorem fr_X6_demandAtMost (n : Nat) (S : St) (a1 : Int32) (a2 : Int32) (a3 : Int32) (r : Unit) (S2 : St) (hf : f_X6_demandAtMost n S a1 a2 a3 = some (r, S2)) : Keeps (wr_X6_demandAtMost) S S2 := by
  have hk : Keeps (wr_X6_demandAtMost) S S := Keeps.rf
  unfold f_X6_demandAtMost at hf
  obtain ⟨g_1, hf⟩ := gd_inv hf
  obtain ⟨r_2, S_3, hc_4, hf⟩ := bo_inv hf
  have hk := hk.trans ((fr_X1_bound n _ _ _ _ _ _ _ hc_4).mono (by intro c h; unfold wr_X1_bound at h; unfold wr_X6_demandAtMost; omega))
  rcases (Decidable.em (r_2 = 0)).symm with b_5 | b_5
  · have hf := if_f b_5 hf
    exact (rt_inv hf).2 ▸ hk
  · have hf := if_t b_5 hf
    obtain ⟨S_6, eS_6, hf⟩ := bd_inv hf
    have hk := hk.trans (kpI eS_6 (by unfold wr_X6_demandAtMost; omega))
    exact (rt_inv hf).2 ▸ hk
def wr_X6_demandLiteral : Nat → Prop := fun c => 50 ≤ c ∨ 97 ≤ c ∨ c = 23
theorem fr_X6_demandLiteral (n : Nat) (S : St) (a1 : Int32) (r : Unit) (S2 : St) (hf : f_X6_demandLiteral n S a1 = some (r, S2)) : Keeps (wr_X6_demandLiteral) S S2 := by
  have hk : Keeps (wr_X6_demandLiteral) S S := Keeps.rf
  unfold f_X6_demandLiteral at hf
  obtain ⟨r_1, S_2, hc_3, hf⟩ := bo_inv hf
  have hk := hk.trans ((fr_X3_leftOf n _ _ _ _ hc_3).mono (fun _ h => False.elim h))
  obtain ⟨x2_4, ex2_4, hf⟩ := bd_inv hf
  obtain ⟨r_5, S_6, hc_7, hf⟩ := bo_inv hf
  have hk := hk.trans ((fr_X3_rightOf n _ _ _ _ hc_7).mono (fun _ h => False.elim h))
  obtain ⟨x3_8, ex3_8, hf⟩ := bd_inv hf
  obtain ⟨r_9, S_10, hc_11, hf⟩ := bo_inv hf
  have hk := hk.trans ((fr_X3_kindOf n _ _ _ _ hc_11).mono (fun _ h => False.elim h))
  rcases (Decidable.em (r_9 = 0)).symm with b_12 | b_12
  · have hf := if_f b_12 hf
    obtain ⟨r_13, S_14, hc_15, hf⟩ := bo_inv hf
    have hk := hk.trans ((fr_X3_kindOf n _ _ _ _ hc_15).mono (fun _ h => False.elim h))
    rcases (Decidable.em (r_13 = (1 : Int32))).symm with b_16 | b_16
    · have hf := if_f b_16 hf
      obtain ⟨r_17, S_18, hc_19, hf⟩ := bo_inv hf
      have hk := hk.trans ((fr_X3_numberOf n _ _ _ _ hc_19).mono (fun _ h => False.elim h))
      obtain ⟨r_20, S_21, hc_22, hf⟩ := bo_inv hf
      have hk := hk.trans ((fr_X6_demandAtMost n _ _ _ _ _ _ hc_22).mono (by intro c h; unfold wr_X6_demandAtMost at h; unfold wr_X6_demandLiteral; omega))
      exact (rt_inv hf).2 ▸ hk
    · have hf := if_t b_16 hf
      obtain ⟨r_23, S_24, hc_25, hf⟩ := bo_inv hf
      have hk := hk.trans ((fr_X6_demandDifferent n _ _ _ _ _ hc_25).mono (by intro c h; unfold wr_X6_demandDifferent at h; unfold wr_X6_demandLiteral; omega))
      exact (rt_inv hf).2 ▸ hk
  · have hf := if_t b_12 hf
    obtain ⟨r_26, S_27, hc_28, hf⟩ := bo_inv hf
    have hk := hk.trans ((fr_X6_demandEqual n _ _ _ _ _ hc_28).mono (by intro c h; unfold wr_X6_demandEqual at h; unfold wr_X6_demandLiteral; omega))
    exact (rt_inv hf).2 ▸ hk
def wr_X6_load : Nat → Prop := fun c => 50 ≤ c ∨ 97 ≤ c ∨ c = 23
theorem fr_X6_load (n : Nat) (S : St) (a1 : Int32) (r : Unit) (S2 : St) (hf : f_X6_load n S a1 = some (r, S2)) : Keeps (wr_X6_load) S S2 := by
  have hk : Keeps (wr_X6_load) S S := Keeps.rf
  obtain ⟨S0, hS0⟩ : ∃ S0, S0 = S := ⟨S, rfl⟩
  have hk : Keeps (wr_X6_load) S0 S := by rw [hS0]; exact hk
  suffices hh : Keeps (wr_X6_load) S0 S2 by rw [hS0] at hh; exact hh
  have j140 : ∀ (x2 : Int32) (k65 : St → Int32 → Option (Unit × St)) (hk65 : ∀ (S : St) (x2 : Int32), k65 S x2 = some (r, S2) → Keeps wr_X6_load S0 S → Keeps wr_X6_load S0 S2) (k80 : St → Int32 → Option (Unit × St)) (hk80 : ∀ (S : St) (x3 : Int32), k80 S x3 = some (r, S2) → Keeps wr_X6_load S0 S → Keeps wr_X6_load S0 S2), ∀ (S : St) (x3 : Int32), f_X6_load_140 n x2 k65 k80 S x3 = some (r, S2) → Keeps wr_X6_load S0 S → Keeps wr_X6_load S0 S2 := by
    intro x2 k65 hk65 k80 hk80 S x3 hf hk
    unfold f_X6_load_140 at hf
    obtain ⟨x3_1, ex3_1, hf⟩ := bd_inv hf
    exact hk80 S x3_1 hf hk
  have b80 : ∀ (x2 : Int32) (k65 : St → Int32 → Option (Unit × St)) (hk65 : ∀ (S : St) (x2 : Int32), k65 S x2 = some (r, S2) → Keeps wr_X6_load S0 S → Keeps wr_X6_load S0 S2) (k80 : St → Int32 → Option (Unit × St)) (hk80 : ∀ (S : St) (x3 : Int32), k80 S x3 = some (r, S2) → Keeps wr_X6_load S0 S → Keeps wr_X6_load S0 S2), ∀ (S : St) (x3 : Int32), f_X6_load_80 n x2 k65 k80 S x3 = some (r, S2) → Keeps wr_X6_load S0 S → Keeps wr_X6_load S0 S2 := by
    intro x2 k65 hk65 k80 hk80 S x3 hf hk
    unfold f_X6_load_80 at hf
    obtain ⟨r_2, S_3, hc_4, hf⟩ := bo_inv hf
    have hk := hk.trans ((fr_X7_size n _ _ _ _ hc_4).mono (fun _ h => False.elim h))
    rcases (Decidable.em (r_2 ≤ x3)) with b_5 | b_5
    · have hf := if_t b_5 hf
      obtain ⟨x2_6, ex2_6, hf⟩ := bd_inv hf
      exact hk65 S_3 x2_6 hf hk
    · have hf := if_f b_5 hf
      obtain ⟨r_7, S_8, hc_9, hf⟩ := bo_inv hf
      have hk := hk.trans ((fr_X7_haveSameFunction n _ _ _ _ _ _ hc_9).mono (fun _ h => False.elim h))
      rcases (Decidable.em (r_7 = 0)) with b_10 | b_10
      · have hf := if_t b_10 hf
        exact j140 x2 k65 hk65 k80 hk80 S_8 x3 hf hk
      · have hf := if_f b_10 hf
        rcases (Decidable.em ((22 : Int32) ≤ (S_8.1 23 3))) with b_11 | b_11
        · have hf := if_t b_11 hf
          exact j140 x2 k65 hk65 k80 hk80 S_8 x3 hf hk
        · have hf := if_f b_11 hf
          obtain ⟨g_12, hf⟩ := gd_inv hf
          obtain ⟨r_13, S_14, hc_15, hf⟩ := bo_inv hf
          have hk := hk.trans ((fr_X0_setCongruence n _ _ _ _ _ _ _ hc_15).mono (by intro c h; unfold wr_X0_setCongruence at h; unfold wr_X6_load; omega))
          obtain ⟨S_16, eS_16, hf⟩ := bd_inv hf
          have hk := hk.trans (kpI eS_16 (by unfold wr_X6_load; omega))
          exact j140 x2 k65 hk65 k80 hk80 S_16 x3 hf hk
  have j80 : ∀ (x2 : Int32) (k65 : St → Int32 → Option (Unit × St)) (hk65 : ∀ (S : St) (x2 : Int32), k65 S x2 = some (r, S2) → Keeps wr_X6_load S0 S → Keeps wr_X6_load S0 S2) (d : Nat), ∀ (S : St) (x3 : Int32), fixF (fun _ _ => none) (f_X6_load_80 n x2 k65) d S x3 = some (r, S2) → Keeps wr_X6_load S0 S → Keeps wr_X6_load S0 S2 := by
    intro x2 k65 hk65 d
    induction d with
    | zero => intro S x3 hf hk; cases hf
    | succ d ih => exact b80 x2 k65 hk65 (fixF (fun _ _ => none) (f_X6_load_80 n x2 k65) d) ih
  have b65 : ∀ (k65 : St → Int32 → Option (Unit × St)) (hk65 : ∀ (S : St) (x2 : Int32), k65 S x2 = some (r, S2) → Keeps wr_X6_load S0 S → Keeps wr_X6_load S0 S2), ∀ (S : St) (x2 : Int32), f_X6_load_65 n k65 S x2 = some (r, S2) → Keeps wr_X6_load S0 S → Keeps wr_X6_load S0 S2 := by
    intro k65 hk65 S x2 hf hk
    unfold f_X6_load_65 at hf
    obtain ⟨r_17, S_18, hc_19, hf⟩ := bo_inv hf
    have hk := hk.trans ((fr_X7_size n _ _ _ _ hc_19).mono (fun _ h => False.elim h))
    rcases (Decidable.em (r_17 ≤ x2)) with b_20 | b_20
    · have hf := if_t b_20 hf
      exact (rt_inv hf).2 ▸ hk
    · have hf := if_f b_20 hf
      obtain ⟨x3_21, ex3_21, hf⟩ := bd_inv hf
      exact j80 x2 k65 hk65 n S_18 x3_21 hf hk
  have j65 : ∀ (d : Nat), ∀ (S : St) (x2 : Int32), fixF (fun _ _ => none) (f_X6_load_65 n) d S x2 = some (r, S2) → Keeps wr_X6_load S0 S → Keeps wr_X6_load S0 S2 := by
    intro   d
    induction d with
    | zero => intro S x2 hf hk; cases hf
    | succ d ih => exact b65   (fixF (fun _ _ => none) (f_X6_load_65 n) d) ih
  have j57 : ∀ (x1 : Int32) (k32 : St → Int32 → Option (Unit × St)) (hk32 : ∀ (S : St) (x2 : Int32), k32 S x2 = some (r, S2) → Keeps wr_X6_load S0 S → Keeps wr_X6_load S0 S2), ∀ (S : St) (x2 : Int32), f_X6_load_57 n x1 k32 S x2 = some (r, S2) → Keeps wr_X6_load S0 S → Keeps wr_X6_load S0 S2 := by
    intro x1 k32 hk32 S x2 hf hk
    unfold f_X6_load_57 at hf
    obtain ⟨x2_22, ex2_22, hf⟩ := bd_inv hf
    exact hk32 S x2_22 hf hk
  have b32 : ∀ (x1 : Int32) (k32 : St → Int32 → Option (Unit × St)) (hk32 : ∀ (S : St) (x2 : Int32), k32 S x2 = some (r, S2) → Keeps wr_X6_load S0 S → Keeps wr_X6_load S0 S2), ∀ (S : St) (x2 : Int32), f_X6_load_32 n x1 k32 S x2 = some (r, S2) → Keeps wr_X6_load S0 S → Keeps wr_X6_load S0 S2 := by
    intro x1 k32 hk32 S x2 hf hk
    unfold f_X6_load_32 at hf
    obtain ⟨r_23, S_24, hc_25, hf⟩ := bo_inv hf
    have hk := hk.trans ((fr_X3_size n _ _ _ hc_25).mono (fun _ h => False.elim h))
    rcases (Decidable.em (r_23 ≤ x2)) with b_26 | b_26
    · have hf := if_t b_26 hf
      obtain ⟨x2_27, ex2_27, hf⟩ := bd_inv hf
      exact j65   n S_24 x2_27 hf hk
    · have hf := if_f b_26 hf
      rcases (Decidable.em (((x1 >>> (x2 &&& 31)) &&& (1 : Int32)) = (1 : Int32))).symm with b_28 | b_28
      · have hf := if_f b_28 hf
        exact j57 x1 k32 hk32 S_24 x2 hf hk
      · have hf := if_t b_28 hf
        obtain ⟨r_29, S_30, hc_31, hf⟩ := bo_inv hf
        have hk := hk.trans ((fr_X6_demandLiteral n _ _ _ _ hc_31).mono (by intro c h; unfold wr_X6_demandLiteral at h; unfold wr_X6_load; omega))
        exact j57 x1 k32 hk32 S_30 x2 hf hk
  have j32 : ∀ (x1 : Int32) (d : Nat), ∀ (S : St) (x2 : Int32), fixF (fun _ _ => none) (f_X6_load_32 n x1) d S x2 = some (r, S2) → Keeps wr_X6_load S0 S → Keeps wr_X6_load S0 S2 := by
    intro x1  d
    induction d with
    | zero => intro S x2 hf hk; cases hf
    | succ d ih => exact b32 x1  (fixF (fun _ _ => none) (f_X6_load_32 n x1) d) ih
  unfold f_X6_load at hf
  obtain ⟨S_32, eS_32, hf⟩ := bd_inv hf
  have hk := hk.trans (kpI eS_32 (by unfold wr_X6_load; omega))
  obtain ⟨S_33, eS_33, hf⟩ := bd_inv hf
  have hk := hk.trans (kpI eS_33 (by unfold wr_X6_load; omega))
  obtain ⟨S_34, eS_34, hf⟩ := bd_inv hf
  have hk := hk.trans (kpI eS_34 (by unfold wr_X6_load; omega))
  obtain ⟨r_35, S_36, hc_37, hf⟩ := bo_inv hf
  have hk := hk.trans ((fr_X6_aimAt n _ _ _ _ _ hc_37).mono (by intro c h; unfold wr_X6_aimAt at h; unfold wr_X6_load; omega))
  obtain ⟨g_38, hf⟩ := gd_inv hf
  obtain ⟨r_39, S_40, hc_41, hf⟩ := bo_inv hf
  have hk := hk.trans ((fr_X1_clear n _ _ _ _ hc_41).mono (by intro c h; unfold wr_X1_clear at h; unfold wr_X6_load; omega))
  obtain ⟨x2_42, ex2_42, hf⟩ := bd_inv hf
  exact j32 a1  n S_40 x2_42 hf hk
def wr_X4_demandDifferentNames : Nat → Prop := fun c => 50 ≤ c ∨ c = 23
theorem fr_X4_demandDifferentNames (n : Nat) (S : St) (a1 : Int32) (r : Unit) (S2 : St) (hf : f_X4_demandDifferentNames n S a1 = some (r, S2)) : Keeps (wr_X4_demandDifferentNames) S S2 := by
  have hk : Keeps (wr_X4_demandDifferentNames) S S := Keeps.rf
  unfold f_X4_demandDifferentNames at hf
  rcases (Decidable.em (a1 < 0)) with b_1 | b_1
  · have hf := if_t b_1 hf
    exact (rt_inv hf).2 ▸ hk
  · have hf := if_f b_1 hf
    rcases (Decidable.em ((10 : Int32) ≤ a1)) with b_2 | b_2
    · have hf := if_t b_2 hf
      exact (rt_inv hf).2 ▸ hk
    · have hf := if_f b_2 hf
      obtain ⟨g_3, hf⟩ := gd_inv hf
      obtain ⟨g_4, hf⟩ := gd_inv hf
      obtain ⟨r_5, S_6, hc_7, hf⟩ := bo_inv hf
      have hk := hk.trans ((fr_X6_demandDifferent n _ _ _ _ _ hc_7).mono (by intro c h; unfold wr_X6_demandDifferent at h; unfold wr_X4_demandDifferentNames; omega))
      exact (rt_inv hf).2 ▸ hk
def wr_X6_greatest : Nat → Prop := fun c => False
theorem fr_X6_greatest (n : Nat) (S : St) (r : Int64) (S2 : St) (hf : f_X6_greatest n S = some (r, S2)) : Keeps (wr_X6_greatest) S S2 := by
  have hk : Keeps (wr_X6_greatest) S S := Keeps.rf
  unfold f_X6_greatest at hf
  obtain ⟨r_1, S_2, hc_3, hf⟩ := bo_inv hf
  have hk := hk.trans ((fr_X1_between n _ _ _ _ _ _ hc_3).mono (fun _ h => False.elim h))
  exact (rt_inv hf).2 ▸ hk
def wr_X6_demandsMore (q1 : Nat) : Nat → Prop := fun c => c = q1 + 25
theorem fr_X6_demandsMore (n : Nat) (S : St) (q1 : Nat) (r : Int32) (S2 : St) (hf : f_X6_demandsMore n S q1 = some (r, S2)) : Keeps (wr_X6_demandsMore q1) S S2 := by
  have hk : Keeps (wr_X6_demandsMore q1) S S := Keeps.rf
  unfold f_X6_demandsMore at hf
  rcases (Decidable.em ((S.1 23 7) = 0)).symm with b_1 | b_1
  · have hf := if_f b_1 hf
    obtain ⟨r_2, S_3, hc_4, hf⟩ := bo_inv hf
    have hk := hk.trans ((fr_X6_greatest n _ _ _ hc_4).mono (fun _ h => False.elim h))
    rcases (Decidable.em ((lg_cmp r_2 (1000000000000000 : Int64)) = 0)) with b_5 | b_5
    · have hf := if_t b_5 hf
      exact (rt_inv hf).2 ▸ hk
    · have hf := if_f b_5 hf
      obtain ⟨r_6, S_7, hc_8, hf⟩ := bo_inv hf
      have hk := hk.trans ((fr_X6_greatest n _ _ _ hc_8).mono (fun _ h => False.elim h))
      obtain ⟨r_9, S_10, hc_11, hf⟩ := bo_inv hf
      have hk := hk.trans ((fr_X1_bound n _ _ _ _ _ _ _ hc_11).mono (by intro c h; unfold wr_X1_bound at h; unfold wr_X6_demandsMore; omega))
      rcases (Decidable.em (r_9 = 0)) with b_12 | b_12
      · have hf := if_t b_12 hf
        exact (rt_inv hf).2 ▸ hk
      · have hf := if_f b_12 hf
        exact (rt_inv hf).2 ▸ hk
  · have hf := if_t b_1 hf
    exact (rt_inv hf).2 ▸ hk
def wr_X6_takeForcedOptions (q1 : Nat) : Nat → Prop := fun c => c = q1 + 25
theorem fr_X6_takeForcedOptions (n : Nat) (S : St) (q1 : Nat) (r : Int32) (S2 : St) (hf : f_X6_takeForcedOptions n S q1 = some (r, S2)) : Keeps (wr_X6_takeForcedOptions q1) S S2 := by
  have hk : Keeps (wr_X6_takeForcedOptions q1) S S := Keeps.rf
  obtain ⟨S0, hS0⟩ : ∃ S0, S0 = S := ⟨S, rfl⟩
  have hk : Keeps (wr_X6_takeForcedOptions q1) S0 S := by rw [hS0]; exact hk
  suffices hh : Keeps (wr_X6_takeForcedOptions q1) S0 S2 by rw [hS0] at hh; exact hh
  have j103 : ∀ (k4 : St → Int32 → Int32 → Option (Int32 × St)) (hk4 : ∀ (S : St) (x2 : Int32) (x3 : Int32), k4 S x2 x3 = some (r, S2) → Keeps (wr_X6_takeForcedOptions q1) S0 S → Keeps (wr_X6_takeForcedOptions q1) S0 S2), ∀ (S : St) (x2 : Int32) (x3 : Int32), f_X6_takeForcedOptions_103 n q1 k4 S x2 x3 = some (r, S2) → Keeps (wr_X6_takeForcedOptions q1) S0 S → Keeps (wr_X6_takeForcedOptions q1) S0 S2 := by
    intro k4 hk4 S x2 x3 hf hk
    unfold f_X6_takeForcedOptions_103 at hf
    obtain ⟨x3_1, ex3_1, hf⟩ := bd_inv hf
    exact hk4 S x2 x3_1 hf hk
  have j91 : ∀ (x3 : Int32) (x4 : Int32) (x5 : Int32) (k4 : St → Int32 → Int32 → Option (Int32 × St)) (hk4 : ∀ (S : St) (x2 : Int32) (x3 : Int32), k4 S x2 x3 = some (r, S2) → Keeps (wr_X6_takeForcedOptions q1) S0 S → Keeps (wr_X6_takeForcedOptions q1) S0 S2) (k19 : St → Int32 → Int32 → Option (Int32 × St)) (hk19 : ∀ (S : St) (x2 : Int32) (x4 : Int32), k19 S x2 x4 = some (r, S2) → Keeps (wr_X6_takeForcedOptions q1) S0 S → Keeps (wr_X6_takeForcedOptions q1) S0 S2) (k58 : St → Int32 → Int32 → Option (Int32 × St)) (hk58 : ∀ (S : St) (x2 : Int32) (x6 : Int32), k58 S x2 x6 = some (r, S2) → Keeps (wr_X6_takeForcedOptions q1) S0 S → Keeps (wr_X6_takeForcedOptions q1) S0 S2), ∀ (S : St) (x2 : Int32) (x6 : Int32), f_X6_takeForcedOptions_91 n q1 x3 x4 x5 k4 k19 k58 S x2 x6 = some (r, S2) → Keeps (wr_X6_takeForcedOptions q1) S0 S → Keeps (wr_X6_takeForcedOptions q1) S0 S2 := by
    intro x3 x4 x5 k4 hk4 k19 hk19 k58 hk58 S x2 x6 hf hk
    unfold f_X6_takeForcedOptions_91 at hf
    obtain ⟨x6_2, ex6_2, hf⟩ := bd_inv hf
    exact hk58 S x2 x6_2 hf hk
  have b58 : ∀ (x3 : Int32) (x4 : Int32) (x5 : Int32) (k4 : St → Int32 → Int32 → Option (Int32 × St)) (hk4 : ∀ (S : St) (x2 : Int32) (x3 : Int32), k4 S x2 x3 = some (r, S2) → Keeps (wr_X6_takeForcedOptions q1) S0 S → Keeps (wr_X6_takeForcedOptions q1) S0 S2) (k19 : St → Int32 → Int32 → Option (Int32 × St)) (hk19 : ∀ (S : St) (x2 : Int32) (x4 : Int32), k19 S x2 x4 = some (r, S2) → Keeps (wr_X6_takeForcedOptions q1) S0 S → Keeps (wr_X6_takeForcedOptions q1) S0 S2) (k58 : St → Int32 → Int32 → Option (Int32 × St)) (hk58 : ∀ (S : St) (x2 : Int32) (x6 : Int32), k58 S x2 x6 = some (r, S2) → Keeps (wr_X6_takeForcedOptions q1) S0 S → Keeps (wr_X6_takeForcedOptions q1) S0 S2), ∀ (S : St) (x2 : Int32) (x6 : Int32), f_X6_takeForcedOptions_58 n q1 x3 x4 x5 k4 k19 k58 S x2 x6 = some (r, S2) → Keeps (wr_X6_takeForcedOptions q1) S0 S → Keeps (wr_X6_takeForcedOptions q1) S0 S2 := by
    intro x3 x4 x5 k4 hk4 k19 hk19 k58 hk58 S x2 x6 hf hk
    unfold f_X6_takeForcedOptions_58 at hf
    rcases (Decidable.em ((5 : Int32) ≤ x6)) with b_3 | b_3
    · have hf := if_t b_3 hf
      obtain ⟨x4_4, ex4_4, hf⟩ := bd_inv hf
      exact hk19 S x2 x4_4 hf hk
    · have hf := if_f b_3 hf
      rcases (Decidable.em (x5 = ((1 : Int32) <<< (x6 &&& 31)))).symm with b_5 | b_5
      · have hf := if_f b_5 hf
        exact j91 x3 x4 x5 k4 hk4 k19 hk19 k58 hk58 S x2 x6 hf hk
      · have hf := if_t b_5 hf
        obtain ⟨g_6, hf⟩ := gd_inv hf
        obtain ⟨r_7, S_8, hc_9, hf⟩ := bo_inv hf
        have hk := hk.trans ((fr_X0_take n _ _ _ _ _ _ hc_9).mono (by intro c h; unfold wr_X0_take at h; unfold wr_X6_takeForcedOptions; omega))
        rcases (Decidable.em (r_7 = 0)) with b_10 | b_10
        · have hf := if_t b_10 hf
          exact j91 x3 x4 x5 k4 hk4 k19 hk19 k58 hk58 S_8 x2 x6 hf hk
        · have hf := if_f b_10 hf
          obtain ⟨x2_11, ex2_11, hf⟩ := bd_inv hf
          exact j91 x3 x4 x5 k4 hk4 k19 hk19 k58 hk58 S_8 x2_11 x6 hf hk
  have j58 : ∀ (x3 : Int32) (x4 : Int32) (x5 : Int32) (k4 : St → Int32 → Int32 → Option (Int32 × St)) (hk4 : ∀ (S : St) (x2 : Int32) (x3 : Int32), k4 S x2 x3 = some (r, S2) → Keeps (wr_X6_takeForcedOptions q1) S0 S → Keeps (wr_X6_takeForcedOptions q1) S0 S2) (k19 : St → Int32 → Int32 → Option (Int32 × St)) (hk19 : ∀ (S : St) (x2 : Int32) (x4 : Int32), k19 S x2 x4 = some (r, S2) → Keeps (wr_X6_takeForcedOptions q1) S0 S → Keeps (wr_X6_takeForcedOptions q1) S0 S2) (d : Nat), ∀ (S : St) (x2 : Int32) (x6 : Int32), fixF (fun _ _ _ => none) (f_X6_takeForcedOptions_58 n q1 x3 x4 x5 k4 k19) d S x2 x6 = some (r, S2) → Keeps (wr_X6_takeForcedOptions q1) S0 S → Keeps (wr_X6_takeForcedOptions q1) S0 S2 := by
    intro x3 x4 x5 k4 hk4 k19 hk19 d
    induction d with
    | zero => intro S x2 x6 hf hk; cases hf
    | succ d ih => exact b58 x3 x4 x5 k4 hk4 k19 hk19 (fixF (fun _ _ _ => none) (f_X6_takeForcedOptions_58 n q1 x3 x4 x5 k4 k19) d) ih
  have b19 : ∀ (x3 : Int32) (k4 : St → Int32 → Int32 → Option (Int32 × St)) (hk4 : ∀ (S : St) (x2 : Int32) (x3 : Int32), k4 S x2 x3 = some (r, S2) → Keeps (wr_X6_takeForcedOptions q1) S0 S → Keeps (wr_X6_takeForcedOptions q1) S0 S2) (k19 : St → Int32 → Int32 → Option (Int32 × St)) (hk19 : ∀ (S : St) (x2 : Int32) (x4 : Int32), k19 S x2 x4 = some (r, S2) → Keeps (wr_X6_takeForcedOptions q1) S0 S → Keeps (wr_X6_takeForcedOptions q1) S0 S2), ∀ (S : St) (x2 : Int32) (x4 : Int32), f_X6_takeForcedOptions_19 n q1 x3 k4 k19 S x2 x4 = some (r, S2) → Keeps (wr_X6_takeForcedOptions q1) S0 S → Keeps (wr_X6_takeForcedOptions q1) S0 S2 := by
    intro x3 k4 hk4 k19 hk19 S x2 x4 hf hk
    unfold f_X6_takeForcedOptions_19 at hf
    rcases (Decidable.em ((S.1 23 3) ≤ x4)) with b_12 | b_12
    · have hf := if_t b_12 hf
      exact j103  k4 hk4 S x2 x3 hf hk
    · have hf := if_f b_12 hf
      rcases (Decidable.em ((22 : Int32) ≤ x4)) with b_13 | b_13
      · have hf := if_t b_13 hf
        exact j103  k4 hk4 S x2 x3 hf hk
      · have hf := if_f b_13 hf
        obtain ⟨g_14, hf⟩ := gd_inv hf
        obtain ⟨r_15, S_16, hc_17, hf⟩ := bo_inv hf
        have hk := hk.trans ((fr_X0_openOptions n _ _ _ _ _ hc_17).mono (fun _ h => False.elim h))
        obtain ⟨x5_18, ex5_18, hf⟩ := bd_inv hf
        rcases (Decidable.em (x5_18 = 0)).symm with b_19 | b_19
        · have hf := if_f b_19 hf
          obtain ⟨x6_20, ex6_20, hf⟩ := bd_inv hf
          exact j58 x3 x4 x5_18 k4 hk4 k19 hk19 n S_16 x2 x6_20 hf hk
        · have hf := if_t b_19 hf
          exact (rt_inv hf).2 ▸ hk
  have j19 : ∀ (x3 : Int32) (k4 : St → Int32 → Int32 → Option (Int32 × St)) (hk4 : ∀ (S : St) (x2 : Int32) (x3 : Int32), k4 S x2 x3 = some (r, S2) → Keeps (wr_X6_takeForcedOptions q1) S0 S → Keeps (wr_X6_takeForcedOptions q1) S0 S2) (d : Nat), ∀ (S : St) (x2 : Int32) (x4 : Int32), fixF (fun _ _ _ => none) (f_X6_takeForcedOptions_19 n q1 x3 k4) d S x2 x4 = some (r, S2) → Keeps (wr_X6_takeForcedOptions q1) S0 S → Keeps (wr_X6_takeForcedOptions q1) S0 S2 := by
    intro x3 k4 hk4 d
    induction d with
    | zero => intro S x2 x4 hf hk; cases hf
    | succ d ih => exact b19 x3 k4 hk4 (fixF (fun _ _ _ => none) (f_X6_takeForcedOptions_19 n q1 x3 k4) d) ih
  have b4 : ∀ (k4 : St → Int32 → Int32 → Option (Int32 × St)) (hk4 : ∀ (S : St) (x2 : Int32) (x3 : Int32), k4 S x2 x3 = some (r, S2) → Keeps (wr_X6_takeForcedOptions q1) S0 S → Keeps (wr_X6_takeForcedOptions q1) S0 S2), ∀ (S : St) (x2 : Int32) (x3 : Int32), f_X6_takeForcedOptions_4 n q1 k4 S x2 x3 = some (r, S2) → Keeps (wr_X6_takeForcedOptions q1) S0 S → Keeps (wr_X6_takeForcedOptions q1) S0 S2 := by
    intro k4 hk4 S x2 x3 hf hk
    unfold f_X6_takeForcedOptions_4 at hf
    rcases (Decidable.em ((22 : Int32) < x3)) with b_21 | b_21
    · have hf := if_t b_21 hf
      exact (rt_inv hf).2 ▸ hk
    · have hf := if_f b_21 hf
      rcases (Decidable.em (x2 = 0)) with b_22 | b_22
      · have hf := if_t b_22 hf
        exact (rt_inv hf).2 ▸ hk
      · have hf := if_f b_22 hf
        obtain ⟨x2_23, ex2_23, hf⟩ := bd_inv hf
        obtain ⟨x4_24, ex4_24, hf⟩ := bd_inv hf
        exact j19 x3 k4 hk4 n S x2_23 x4_24 hf hk
  have j4 : ∀ (d : Nat), ∀ (S : St) (x2 : Int32) (x3 : Int32), fixF (fun _ _ _ => none) (f_X6_takeForcedOptions_4 n q1) d S x2 x3 = some (r, S2) → Keeps (wr_X6_takeForcedOptions q1) S0 S → Keeps (wr_X6_takeForcedOptions q1) S0 S2 := by
    intro   d
    induction d with
    | zero => intro S x2 x3 hf hk; cases hf
    | succ d ih => exact b4   (fixF (fun _ _ _ => none) (f_X6_takeForcedOptions_4 n q1) d) ih
  unfold f_X6_takeForcedOptions at hf
  obtain ⟨x2_25, ex2_25, hf⟩ := bd_inv hf
  obtain ⟨x3_26, ex3_26, hf⟩ := bd_inv hf
  exact j4   n S x2_25 x3_26 hf hk
def wr_J6_bitCount_0f7a4 : Nat → Prop := fun c => False
theorem fr_J6_bitCount_0f7a4 (n : Nat) (S : St) (a0 : Int32) (r : Int32) (S2 : St) (hf : f_J6_bitCount_0f7a4 n S a0 = some (r, S2)) : Keeps (wr_J6_bitCount_0f7a4) S S2 := by
  have hk : Keeps (wr_J6_bitCount_0f7a4) S S := Keeps.rf
  unfold f_J6_bitCount_0f7a4 at hf
  obtain ⟨x0_1, ex0_1, hf⟩ := bd_inv hf
  obtain ⟨x0_2, ex0_2, hf⟩ := bd_inv hf
  obtain ⟨x0_3, ex0_3, hf⟩ := bd_inv hf
  obtain ⟨x0_4, ex0_4, hf⟩ := bd_inv hf
  obtain ⟨x0_5, ex0_5, hf⟩ := bd_inv hf
  exact (rt_inv hf).2 ▸ hk
def wr_X6_narrowestClause (q1 : Nat) : Nat → Prop := fun c => False
theorem fr_X6_narrowestClause (n : Nat) (S : St) (q1 : Nat) (r : Int32) (S2 : St) (hf : f_X6_narrowestClause n S q1 = some (r, S2)) : Keeps (wr_X6_narrowestClause q1) S S2 := by
  have hk : Keeps (wr_X6_narrowestClause q1) S S := Keeps.rf
  obtain ⟨S0, hS0⟩ : ∃ S0, S0 = S := ⟨S, rfl⟩
  have hk : Keeps (wr_X6_narrowestClause q1) S0 S := by rw [hS0]; exact hk
  suffices hh : Keeps (wr_X6_narrowestClause q1) S0 S2 by rw [hS0] at hh; exact hh
  have j61 : ∀ (k8 : St → Int32 → Int32 → Int32 → Option (Int32 × St)) (hk8 : ∀ (S : St) (x2 : Int32) (x3 : Int32) (x4 : Int32), k8 S x2 x3 x4 = some (r, S2) → Keeps (wr_X6_narrowestClause q1) S0 S → Keeps (wr_X6_narrowestClause q1) S0 S2), ∀ (S : St) (x2 : Int32) (x3 : Int32) (x4 : Int32), f_X6_narrowestClause_61 n q1 k8 S x2 x3 x4 = some (r, S2) → Keeps (wr_X6_narrowestClause q1) S0 S → Keeps (wr_X6_narrowestClause q1) S0 S2 := by
    intro k8 hk8 S x2 x3 x4 hf hk
    unfold f_X6_narrowestClause_61 at hf
    obtain ⟨x4_1, ex4_1, hf⟩ := bd_inv hf
    exact hk8 S x2 x3 x4_1 hf hk
  have b8 : ∀ (k8 : St → Int32 → Int32 → Int32 → Option (Int32 × St)) (hk8 : ∀ (S : St) (x2 : Int32) (x3 : Int32) (x4 : Int32), k8 S x2 x3 x4 = some (r, S2) → Keeps (wr_X6_narrowestClause q1) S0 S → Keeps (wr_X6_narrowestClause q1) S0 S2), ∀ (S : St) (x2 : Int32) (x3 : Int32) (x4 : Int32), f_X6_narrowestClause_8 n q1 k8 S x2 x3 x4 = some (r, S2) → Keeps (wr_X6_narrowestClause q1) S0 S → Keeps (wr_X6_narrowestClause q1) S0 S2 := by
    intro k8 hk8 S x2 x3 x4 hf hk
    unfold f_X6_narrowestClause_8 at hf
    rcases (Decidable.em ((S.1 23 3) ≤ x4)) with b_2 | b_2
    · have hf := if_t b_2 hf
      exact (rt_inv hf).2 ▸ hk
    · have hf := if_f b_2 hf
      rcases (Decidable.em ((22 : Int32) ≤ x4)) with b_3 | b_3
      · have hf := if_t b_3 hf
        exact (rt_inv hf).2 ▸ hk
      · have hf := if_f b_3 hf
        obtain ⟨g_4, hf⟩ := gd_inv hf
        obtain ⟨r_5, S_6, hc_7, hf⟩ := bo_inv hf
        have hk := hk.trans ((fr_X0_openOptions n _ _ _ _ _ hc_7).mono (fun _ h => False.elim h))
        obtain ⟨x5_8, ex5_8, hf⟩ := bd_inv hf
        rcases (Decidable.em (x5_8 = (-1 : Int32))) with b_9 | b_9
        · have hf := if_t b_9 hf
          exact j61  k8 hk8 S_6 x2 x3 x4 hf hk
        · have hf := if_f b_9 hf
          obtain ⟨r_10, S_11, hc_12, hf⟩ := bo_inv hf
          have hk := hk.trans ((fr_J6_bitCount_0f7a4 n _ _ _ _ hc_12).mono (fun _ h => False.elim h))
          rcases (Decidable.em (x3 ≤ r_10)) with b_13 | b_13
          · have hf := if_t b_13 hf
            exact j61  k8 hk8 S_11 x2 x3 x4 hf hk
          · have hf := if_f b_13 hf
            obtain ⟨r_14, S_15, hc_16, hf⟩ := bo_inv hf
            have hk := hk.trans ((fr_J6_bitCount_0f7a4 n _ _ _ _ hc_16).mono (fun _ h => False.elim h))
            obtain ⟨x3_17, ex3_17, hf⟩ := bd_inv hf
            obtain ⟨x2_18, ex2_18, hf⟩ := bd_inv hf
            exact j61  k8 hk8 S_15 x2_18 x3_17 x4 hf hk
  have j8 : ∀ (d : Nat), ∀ (S : St) (x2 : Int32) (x3 : Int32) (x4 : Int32), fixF (fun _ _ _ _ => none) (f_X6_narrowestClause_8 n q1) d S x2 x3 x4 = some (r, S2) → Keeps (wr_X6_narrowestClause q1) S0 S → Keeps (wr_X6_narrowestClause q1) S0 S2 := by
    intro   d
    induction d with
    | zero => intro S x2 x3 x4 hf hk; cases hf
    | succ d ih => exact b8   (fixF (fun _ _ _ _ => none) (f_X6_narrowestClause_8 n q1) d) ih
  unfold f_X6_narrowestClause at hf
  obtain ⟨x2_19, ex2_19, hf⟩ := bd_inv hf
  obtain ⟨x3_20, ex3_20, hf⟩ := bd_inv hf
  obtain ⟨x4_21, ex4_21, hf⟩ := bd_inv hf
  exact j8   n S x2_19 x3_20 x4_21 hf hk
def wr_X6_search : Nat → Prop := fun c => 97 ≤ c ∨ c = 120 ∨ c = 23
theorem fr_X6_search (n d : Nat) : ∀ (S : St) (a1 : Int32) (r : Unit) (S2 : St), fixF (fun _ _ => none) (f_X6_search n) d S a1 = some (r, S2) → Keeps (wr_X6_search) S S2 := by
  induction d with
  | zero => intro S a1 r S2 hf; cases hf
  | succ d ih =>
  intro S a1 r S2 hf
  generalize hkr : fixF (fun _ _ => none) (f_X6_search n) d = kr at ih
  have hf : f_X6_search n kr S a1 = some (r, S2) := by rw [← hkr]; exact hf
  have hk : Keeps (wr_X6_search) S S := Keeps.rf
  obtain ⟨S0, hS0⟩ : ∃ S0, S0 = S := ⟨S, rfl⟩
  have hk : Keeps (wr_X6_search) S0 S := by rw [hS0]; exact hk
  suffices hh : Keeps (wr_X6_search) S0 S2 by rw [hS0] at hh; exact hh
  have j146 : ∀ (x1 : Int32) (q2 : Nat) (x3 : Int32) (x4 : Int32) (k80 : St → Int32 → Option (Unit × St)) (hk80 : ∀ (S : St) (x5 : Int32), k80 S x5 = some (r, S2) → Keeps wr_X6_search S0 S → Keeps wr_X6_search S0 S2), ∀ (S : St) (x5 : Int32), f_X6_search_146 n kr x1 q2 x3 x4 k80 S x5 = some (r, S2) → Keeps wr_X6_search S0 S → Keeps wr_X6_search S0 S2 := by
    intro x1 q2 x3 x4 k80 hk80 S x5 hf hk
    unfold f_X6_search_146 at hf
    obtain ⟨x5_1, ex5_1, hf⟩ := bd_inv hf
    exact hk80 S x5_1 hf hk
  have b80 : ∀ (x1 : Int32) (q2 : Nat) (x3 : Int32) (x4 : Int32) (k80 : St → Int32 → Option (Unit × St)) (hk80 : ∀ (S : St) (x5 : Int32), k80 S x5 = some (r, S2) → Keeps wr_X6_search S0 S → Keeps wr_X6_search S0 S2), ∀ (S : St) (x5 : Int32), f_X6_search_80 n kr x1 q2 x3 x4 k80 S x5 = some (r, S2) → Keeps wr_X6_search S0 S → Keeps wr_X6_search S0 S2 := by
    intro x1 q2 x3 x4 k80 hk80 S x5 hf hk
    unfold f_X6_search_80 at hf
    rcases (Decidable.em ((5 : Int32) ≤ x5)) with b_2 | b_2
    · have hf := if_t b_2 hf
      exact (rt_inv hf).2 ▸ hk
    · have hf := if_f b_2 hf
      rcases (Decidable.em ((23 : Int32) ≤ (x1 + (1 : Int32)))) with b_3 | b_3
      · have hf := if_t b_3 hf
        exact (rt_inv hf).2 ▸ hk
      · have hf := if_f b_3 hf
        rcases (Decidable.em (((x4 >>> (x5 &&& 31)) &&& (1 : Int32)) = (1 : Int32))).symm with b_4 | b_4
        · have hf := if_f b_4 hf
          exact j146 x1 q2 x3 x4 k80 hk80 S x5 hf hk
        · have hf := if_t b_4 hf
          obtain ⟨g_5, hf⟩ := gd_inv hf
          obtain ⟨r_6, S_7, hc_8, hf⟩ := bo_inv hf
          have hk := hk.trans ((fr_X1_copyFrom n _ _ _ _ _ hc_8).mono (by intro c h; unfold wr_X1_copyFrom at h; unfold wr_X6_search; omega))
          obtain ⟨g_9, hf⟩ := gd_inv hf
          obtain ⟨g_10, hf⟩ := gd_inv hf
          obtain ⟨r_11, S_12, hc_13, hf⟩ := bo_inv hf
          have hk := hk.trans ((fr_X0_take n _ _ _ _ _ _ hc_13).mono (by intro c h; unfold wr_X0_take at h; unfold wr_X6_search; omega))
          rcases (Decidable.em (r_11 = 0)) with b_14 | b_14
          · have hf := if_t b_14 hf
            exact j146 x1 q2 x3 x4 k80 hk80 S_12 x5 hf hk
          · have hf := if_f b_14 hf
            obtain ⟨r_15, S_16, hc_17, hf⟩ := bo_inv hf
            have hk := hk.trans (ih _ _ _ _ hc_17)
            exact j146 x1 q2 x3 x4 k80 hk80 S_16 x5 hf hk
  have j80 : ∀ (x1 : Int32) (q2 : Nat) (x3 : Int32) (x4 : Int32) (d : Nat), ∀ (S : St) (x5 : Int32), fixF (fun _ _ => none) (f_X6_search_80 n kr x1 q2 x3 x4) d S x5 = some (r, S2) → Keeps wr_X6_search S0 S → Keeps wr_X6_search S0 S2 := by
    intro x1 q2 x3 x4  d
    induction d with
    | zero => intro S x5 hf hk; cases hf
    | succ d ih => exact b80 x1 q2 x3 x4  (fixF (fun _ _ => none) (f_X6_search_80 n kr x1 q2 x3 x4) d) ih
  have j51 : ∀ (S : St) (q2 : Nat), f_X6_search_51 n kr S q2 = some (r, S2) → Keeps wr_X6_search S0 S → Keeps wr_X6_search S0 S2 := by
    intro S q2 hf hk
    unfold f_X6_search_51 at hf
    obtain ⟨r_18, S_19, hc_20, hf⟩ := bo_inv hf
    have hk := hk.trans ((fr_X1_copyFrom n _ _ _ _ _ hc_20).mono (by intro c h; unfold wr_X1_copyFrom at h; unfold wr_X6_search; omega))
    obtain ⟨S_21, eS_21, hf⟩ := bd_inv hf
    have hk := hk.trans (kpI eS_21 (by unfold wr_X6_search; omega))
    exact (rt_inv hf).2 ▸ hk
  unfold f_X6_search at hf
  rcases (Decidable.em (a1 < 0)) with b_22 | b_22
  · have hf := if_t b_22 hf
    exact (rt_inv hf).2 ▸ hk
  · have hf := if_f b_22 hf
    rcases (Decidable.em (a1 < (23 : Int32))) with b_23 | b_23
    · have hf := if_t b_23 hf
      obtain ⟨g_24, hf⟩ := gd_inv hf
      obtain ⟨q2_25, eq2_25, hf⟩ := bd_inv hf
      obtain ⟨r_26, S_27, hc_28, hf⟩ := bo_inv hf
      have hk := hk.trans ((fr_X6_demandsMore n _ _ _ _ hc_28).mono (by intro c h; unfold wr_X6_demandsMore at h; unfold wr_X6_search; omega))
      rcases (Decidable.em (r_26 = 0)) with b_29 | b_29
      · have hf := if_t b_29 hf
        exact (rt_inv hf).2 ▸ hk
      · have hf := if_f b_29 hf
        obtain ⟨r_30, S_31, hc_32, hf⟩ := bo_inv hf
        have hk := hk.trans ((fr_X6_takeForcedOptions n _ _ _ _ hc_32).mono (by intro c h; unfold wr_X6_takeForcedOptions at h; unfold wr_X6_search; omega))
        rcases (Decidable.em (r_30 = 0)).symm with b_33 | b_33
        · have hf := if_f b_33 hf
          obtain ⟨r_34, S_35, hc_36, hf⟩ := bo_inv hf
          have hk := hk.trans ((fr_X6_narrowestClause n _ _ _ _ hc_36).mono (fun _ h => False.elim h))
          obtain ⟨x3_37, ex3_37, hf⟩ := bd_inv hf
          rcases (Decidable.em (x3_37 < 0)) with b_38 | b_38
          · have hf := if_t b_38 hf
            exact j51   S_35 q2_25 hf hk
          · have hf := if_f b_38 hf
            rcases (Decidable.em (x3_37 < (22 : Int32))) with b_39 | b_39
            · have hf := if_t b_39 hf
              obtain ⟨g_40, hf⟩ := gd_inv hf
              obtain ⟨r_41, S_42, hc_43, hf⟩ := bo_inv hf
              have hk := hk.trans ((fr_X0_openOptions n _ _ _ _ _ hc_43).mono (fun _ h => False.elim h))
              obtain ⟨x4_44, ex4_44, hf⟩ := bd_inv hf
              obtain ⟨x5_45, ex5_45, hf⟩ := bd_inv hf
              exact j80 a1 q2_25 x3_37 x4_44  n S_42 x5_45 hf hk
            · have hf := if_f b_39 hf
              exact j51   S_35 q2_25 hf hk
        · have hf := if_t b_33 hf
          exact (rt_inv hf).2 ▸ hk
    · have hf := if_f b_23 hf
      exact (rt_inv hf).2 ▸ hk
def wr_X6_hasSolution : Nat → Prop := fun c => 97 ≤ c ∨ c = 120 ∨ c = 23
theorem fr_X6_hasSolution (n : Nat) (S : St) (r : Int32) (S2 : St) (hf : f_X6_hasSolution n S = some (r, S2)) : Keeps (wr_X6_hasSolution) S S2 := by
  have hk : Keeps (wr_X6_hasSolution) S S := Keeps.rf
  unfold f_X6_hasSolution at hf
  rcases (Decidable.em ((S.1 23 6) = 0)).symm with b_1 | b_1
  · have hf := if_f b_1 hf
    obtain ⟨g_2, hf⟩ := gd_inv hf
    exact (rt_inv hf).2 ▸ hk
  · have hf := if_t b_1 hf
    obtain ⟨r_3, S_4, hc_5, hf⟩ := bo_inv hf
    have hk := hk.trans ((fr_X6_search n 24 _ _ _ _ hc_5).mono (by intro c h; unfold wr_X6_search at h; unfold wr_X6_hasSolution; omega))
    obtain ⟨g_6, hf⟩ := gd_inv hf
    exact (rt_inv hf).2 ▸ hk
def wr_X6_foundEqual : Nat → Prop := fun c => False
theorem fr_X6_foundEqual (n : Nat) (S : St) (a1 : Int32) (a2 : Int32) (r : Int32) (S2 : St) (hf : f_X6_foundEqual n S a1 a2 = some (r, S2)) : Keeps (wr_X6_foundEqual) S S2 := by
  have hk : Keeps (wr_X6_foundEqual) S S := Keeps.rf
  unfold f_X6_foundEqual at hf
  obtain ⟨r_1, S_2, hc_3, hf⟩ := bo_inv hf
  have hk := hk.trans ((fr_X1_areEqual n _ _ _ _ _ _ hc_3).mono (fun _ h => False.elim h))
  obtain ⟨g_4, hf⟩ := gd_inv hf
  exact (rt_inv hf).2 ▸ hk
def wr_X4_pairsTiedWith : Nat → Prop := fun c => 50 ≤ c ∨ 97 ≤ c ∨ c = 120 ∨ c = 23
theorem fr_X4_pairsTiedWith (n : Nat) (S : St) (a1 : Int32) (a2 : Int32) (r : Int32) (S2 : St) (hf : f_X4_pairsTiedWith n S a1 a2 = some (r, S2)) : Keeps (wr_X4_pairsTiedWith) S S2 := by
  have hk : Keeps (wr_X4_pairsTiedWith) S S := Keeps.rf
  obtain ⟨S0, hS0⟩ : ∃ S0, S0 = S := ⟨S, rfl⟩
  have hk : Keeps (wr_X4_pairsTiedWith) S0 S := by rw [hS0]; exact hk
  suffices hh : Keeps (wr_X4_pairsTiedWith) S0 S2 by rw [hS0] at hh; exact hh
  have j66 : ∀ (k30 : St → Int32 → Int32 → Option (Int32 × St)) (hk30 : ∀ (S : St) (x3 : Int32) (x4 : Int32), k30 S x3 x4 = some (r, S2) → Keeps wr_X4_pairsTiedWith S0 S → Keeps wr_X4_pairsTiedWith S0 S2), ∀ (S : St) (x3 : Int32) (x4 : Int32), f_X4_pairsTiedWith_66 n k30 S x3 x4 = some (r, S2) → Keeps wr_X4_pairsTiedWith S0 S → Keeps wr_X4_pairsTiedWith S0 S2 := by
    intro k30 hk30 S x3 x4 hf hk
    unfold f_X4_pairsTiedWith_66 at hf
    obtain ⟨x4_1, ex4_1, hf⟩ := bd_inv hf
    exact hk30 S x3 x4_1 hf hk
  have b30 : ∀ (k30 : St → Int32 → Int32 → Option (Int32 × St)) (hk30 : ∀ (S : St) (x3 : Int32) (x4 : Int32), k30 S x3 x4 = some (r, S2) → Keeps wr_X4_pairsTiedWith S0 S → Keeps wr_X4_pairsTiedWith S0 S2), ∀ (S : St) (x3 : Int32) (x4 : Int32), f_X4_pairsTiedWith_30 n k30 S x3 x4 = some (r, S2) → Keeps wr_X4_pairsTiedWith S0 S → Keeps wr_X4_pairsTiedWith S0 S2 := by
    intro k30 hk30 S x3 x4 hf hk
    unfold f_X4_pairsTiedWith_30 at hf
    rcases (Decidable.em ((10 : Int32) ≤ x4)) with b_2 | b_2
    · have hf := if_t b_2 hf
      exact (rt_inv hf).2 ▸ hk
    · have hf := if_f b_2 hf
      obtain ⟨g_3, hf⟩ := gd_inv hf
      obtain ⟨g_4, hf⟩ := gd_inv hf
      obtain ⟨r_5, S_6, hc_7, hf⟩ := bo_inv hf
      have hk := hk.trans ((fr_X6_foundEqual n _ _ _ _ _ hc_7).mono (fun _ h => False.elim h))
      rcases (Decidable.em (r_5 = 0)) with b_8 | b_8
      · have hf := if_t b_8 hf
        exact j66  k30 hk30 S_6 x3 x4 hf hk
      · have hf := if_f b_8 hf
        obtain ⟨x3_9, ex3_9, hf⟩ := bd_inv hf
        exact j66  k30 hk30 S_6 x3_9 x4 hf hk
  have j30 : ∀ (d : Nat), ∀ (S : St) (x3 : Int32) (x4 : Int32), fixF (fun _ _ _ => none) (f_X4_pairsTiedWith_30 n) d S x3 x4 = some (r, S2) → Keeps wr_X4_pairsTiedWith S0 S → Keeps wr_X4_pairsTiedWith S0 S2 := by
    intro   d
    induction d with
    | zero => intro S x3 x4 hf hk; cases hf
    | succ d ih => exact b30   (fixF (fun _ _ _ => none) (f_X4_pairsTiedWith_30 n) d) ih
  unfold f_X4_pairsTiedWith at hf
  obtain ⟨r_10, S_11, hc_12, hf⟩ := bo_inv hf
  have hk := hk.trans ((fr_X6_load n _ _ _ _ hc_12).mono (by intro c h; unfold wr_X6_load at h; unfold wr_X4_pairsTiedWith; omega))
  obtain ⟨r_13, S_14, hc_15, hf⟩ := bo_inv hf
  have hk := hk.trans ((fr_X4_demandDifferentNames n _ _ _ _ hc_15).mono (by intro c h; unfold wr_X4_demandDifferentNames at h; unfold wr_X4_pairsTiedWith; omega))
  obtain ⟨r_16, S_17, hc_18, hf⟩ := bo_inv hf
  have hk := hk.trans ((fr_X6_hasSolution n _ _ _ hc_18).mono (by intro c h; unfold wr_X6_hasSolution at h; unfold wr_X4_pairsTiedWith; omega))
  rcases (Decidable.em (r_16 = 0)).symm with b_19 | b_19
  · have hf := if_f b_19 hf
    obtain ⟨x3_20, ex3_20, hf⟩ := bd_inv hf
    obtain ⟨x4_21, ex4_21, hf⟩ := bd_inv hf
    exact j30   n S_17 x3_20 x4_21 hf hk
  · have hf := if_t b_19 hf
    exact (rt_inv hf).2 ▸ hk
def wr_X4_areTied : Nat → Prop := fun c => False
theorem fr_X4_areTied (n : Nat) (S : St) (a1 : Int32) (a2 : Int32) (r : Int32) (S2 : St) (hf : f_X4_areTied n S a1 a2 = some (r, S2)) : Keeps (wr_X4_areTied) S S2 := by
  have hk : Keeps (wr_X4_areTied) S S := Keeps.rf
  unfold f_X4_areTied at hf
  obtain ⟨g_1, hf⟩ := gd_inv hf
  rcases (Decidable.em ((S.1 27 (a1).toNatClampNeg) = (-1 : Int32))) with b_2 | b_2
  · have hf := if_t b_2 hf
    exact (rt_inv hf).2 ▸ hk
  · have hf := if_f b_2 hf
    obtain ⟨g_3, hf⟩ := gd_inv hf
    rcases (Decidable.em ((S.1 27 (a2).toNatClampNeg) = (-1 : Int32))).symm with b_4 | b_4
    · have hf := if_f b_4 hf
      obtain ⟨g_5, hf⟩ := gd_inv hf
      rcases (Decidable.em ((((S.1 27 (a1).toNatClampNeg) >>> (a2 &&& 31)) &&& (1 : Int32)) = (1 : Int32))).symm with b_6 | b_6
      · have hf := if_f b_6 hf
        exact (rt_inv hf).2 ▸ hk
      · have hf := if_t b_6 hf
        obtain ⟨g_7, hf⟩ := gd_inv hf
        rcases (Decidable.em ((((S.1 27 (a2).toNatClampNeg) >>> (a1 &&& 31)) &&& (1 : Int32)) = (1 : Int32))).symm with b_8 | b_8
        · have hf := if_f b_8 hf
          exact (rt_inv hf).2 ▸ hk
        · have hf := if_t b_8 hf
          exact (rt_inv hf).2 ▸ hk
    · have hf := if_t b_4 hf
      exact (rt_inv hf).2 ▸ hk
def wr_X4_oneIsEqual : Nat → Prop := fun c => 50 ≤ c ∨ 97 ≤ c ∨ c = 120 ∨ c = 23
theorem fr_X4_oneIsEqual (n : Nat) (S : St) (a1 : Int32) (a2 : Int32) (a3 : Int32) (r : Int32) (S2 : St) (hf : f_X4_oneIsEqual n S a1 a2 a3 = some (r, S2)) : Keeps (wr_X4_oneIsEqual) S S2 := by
  have hk : Keeps (wr_X4_oneIsEqual) S S := Keeps.rf
  unfold f_X4_oneIsEqual at hf
  obtain ⟨r_1, S_2, hc_3, hf⟩ := bo_inv hf
  have hk := hk.trans ((fr_X6_load n _ _ _ _ hc_3).mono (by intro c h; unfold wr_X6_load at h; unfold wr_X4_oneIsEqual; omega))
  obtain ⟨r_4, S_5, hc_6, hf⟩ := bo_inv hf
  have hk := hk.trans ((fr_X4_demandDifferentNames n _ _ _ _ hc_6).mono (by intro c h; unfold wr_X4_demandDifferentNames at h; unfold wr_X4_oneIsEqual; omega))
  obtain ⟨r_7, S_8, hc_9, hf⟩ := bo_inv hf
  have hk := hk.trans ((fr_X4_demandDifferentNames n _ _ _ _ hc_9).mono (by intro c h; unfold wr_X4_demandDifferentNames at h; unfold wr_X4_oneIsEqual; omega))
  obtain ⟨r_10, S_11, hc_12, hf⟩ := bo_inv hf
  have hk := hk.trans ((fr_X6_hasSolution n _ _ _ hc_12).mono (by intro c h; unfold wr_X6_hasSolution at h; unfold wr_X4_oneIsEqual; omega))
  rcases (Decidable.em (r_10 = 0)).symm with b_13 | b_13
  · have hf := if_f b_13 hf
    exact (rt_inv hf).2 ▸ hk
  · have hf := if_t b_13 hf
    exact (rt_inv hf).2 ▸ hk
def wr_X4_asAnswerOf : Nat → Prop := fun c => False
theorem fr_X4_asAnswerOf (n : Nat) (S : St) (a0 : Int32) (r : Int32) (S2 : St) (hf : f_X4_asAnswerOf n S a0 = some (r, S2)) : Keeps (wr_X4_asAnswerOf) S S2 := by
  have hk : Keeps (wr_X4_asAnswerOf) S S := Keeps.rf
  unfold f_X4_asAnswerOf at hf
  rcases (Decidable.em (a0 < 0)) with b_1 | b_1
  · have hf := if_t b_1 hf
    exact (rt_inv hf).2 ▸ hk
  · have hf := if_f b_1 hf
    rcases (Decidable.em ((10 : Int32) ≤ a0)) with b_2 | b_2
    · have hf := if_t b_2 hf
      exact (rt_inv hf).2 ▸ hk
    · have hf := if_f b_2 hf
      obtain ⟨g_3, hf⟩ := gd_inv hf
      obtain ⟨g_4, hf⟩ := gd_inv hf
      exact (rt_inv hf).2 ▸ hk
def wr_X4_find : Nat → Prop := fun c => 50 ≤ c ∨ 97 ≤ c ∨ c = 120 ∨ c = 23 ∨ c = 26 ∨ c = 27
theorem fr_X4_find (n : Nat) (S : St) (a1 : Int32) (r : Unit) (S2 : St) (hf : f_X4_find n S a1 = some (r, S2)) : Keeps (wr_X4_find) S S2 := by
  have hk : Keeps (wr_X4_find) S S := Keeps.rf
  obtain ⟨S0, hS0⟩ : ∃ S0, S0 = S := ⟨S, rfl⟩
  have hk : Keeps (wr_X4_find) S0 S := by rw [hS0]; exact hk
  suffices hh : Keeps (wr_X4_find) S0 S2 by rw [hS0] at hh; exact hh
  have j115 : ∀ (x1 : Int32) (k40 : St → Int32 → Option (Unit × St)) (hk40 : ∀ (S : St) (x2 : Int32), k40 S x2 = some (r, S2) → Keeps wr_X4_find S0 S → Keeps wr_X4_find S0 S2), ∀ (S : St) (x2 : Int32), f_X4_find_115 n x1 k40 S x2 = some (r, S2) → Keeps wr_X4_find S0 S → Keeps wr_X4_find S0 S2 := by
    intro x1 k40 hk40 S x2 hf hk
    unfold f_X4_find_115 at hf
    obtain ⟨x2_1, ex2_1, hf⟩ := bd_inv hf
    exact hk40 S x2_1 hf hk
  have j109 : ∀ (x1 : Int32) (x2 : Int32) (k40 : St → Int32 → Option (Unit × St)) (hk40 : ∀ (S : St) (x2 : Int32), k40 S x2 = some (r, S2) → Keeps wr_X4_find S0 S → Keeps wr_X4_find S0 S2) (k59 : St → Int32 → Option (Unit × St)) (hk59 : ∀ (S : St) (x3 : Int32), k59 S x3 = some (r, S2) → Keeps wr_X4_find S0 S → Keeps wr_X4_find S0 S2), ∀ (S : St) (x3 : Int32), f_X4_find_109 n x1 x2 k40 k59 S x3 = some (r, S2) → Keeps wr_X4_find S0 S → Keeps wr_X4_find S0 S2 := by
    intro x1 x2 k40 hk40 k59 hk59 S x3 hf hk
    unfold f_X4_find_109 at hf
    obtain ⟨x3_2, ex3_2, hf⟩ := bd_inv hf
    exact hk59 S x3_2 hf hk
  have b59 : ∀ (x1 : Int32) (x2 : Int32) (k40 : St → Int32 → Option (Unit × St)) (hk40 : ∀ (S : St) (x2 : Int32), k40 S x2 = some (r, S2) → Keeps wr_X4_find S0 S → Keeps wr_X4_find S0 S2) (k59 : St → Int32 → Option (Unit × St)) (hk59 : ∀ (S : St) (x3 : Int32), k59 S x3 = some (r, S2) → Keeps wr_X4_find S0 S → Keeps wr_X4_find S0 S2), ∀ (S : St) (x3 : Int32), f_X4_find_59 n x1 x2 k40 k59 S x3 = some (r, S2) → Keeps wr_X4_find S0 S → Keeps wr_X4_find S0 S2 := by
    intro x1 x2 k40 hk40 k59 hk59 S x3 hf hk
    unfold f_X4_find_59 at hf
    rcases (Decidable.em ((10 : Int32) ≤ x3)) with b_3 | b_3
    · have hf := if_t b_3 hf
      exact j115 x1 k40 hk40 S x2 hf hk
    · have hf := if_f b_3 hf
      rcases (Decidable.em ((S.1 26 2) = (-2000000001 : Int32))).symm with b_4 | b_4
      · have hf := if_f b_4 hf
        exact j115 x1 k40 hk40 S x2 hf hk
      · have hf := if_t b_4 hf
        obtain ⟨r_5, S_6, hc_7, hf⟩ := bo_inv hf
        have hk := hk.trans ((fr_X4_areTied n _ _ _ _ _ hc_7).mono (fun _ h => False.elim h))
        rcases (Decidable.em (r_5 = 0)) with b_8 | b_8
        · have hf := if_t b_8 hf
          exact j109 x1 x2 k40 hk40 k59 hk59 S_6 x3 hf hk
        · have hf := if_f b_8 hf
          obtain ⟨r_9, S_10, hc_11, hf⟩ := bo_inv hf
          have hk := hk.trans ((fr_X4_oneIsEqual n _ _ _ _ _ _ hc_11).mono (by intro c h; unfold wr_X4_oneIsEqual at h; unfold wr_X4_find; omega))
          rcases (Decidable.em (r_9 = 0)) with b_12 | b_12
          · have hf := if_t b_12 hf
            exact j109 x1 x2 k40 hk40 k59 hk59 S_10 x3 hf hk
          · have hf := if_f b_12 hf
            obtain ⟨r_13, S_14, hc_15, hf⟩ := bo_inv hf
            have hk := hk.trans ((fr_X4_asAnswerOf n _ _ _ _ hc_15).mono (fun _ h => False.elim h))
            obtain ⟨S_16, eS_16, hf⟩ := bd_inv hf
            have hk := hk.trans (kpI eS_16 (by unfold wr_X4_find; omega))
            obtain ⟨r_17, S_18, hc_19, hf⟩ := bo_inv hf
            have hk := hk.trans ((fr_X4_asAnswerOf n _ _ _ _ hc_19).mono (fun _ h => False.elim h))
            obtain ⟨S_20, eS_20, hf⟩ := bd_inv hf
            have hk := hk.trans (kpI eS_20 (by unfold wr_X4_find; omega))
            exact j109 x1 x2 k40 hk40 k59 hk59 S_20 x3 hf hk
  have j59 : ∀ (x1 : Int32) (x2 : Int32) (k40 : St → Int32 → Option (Unit × St)) (hk40 : ∀ (S : St) (x2 : Int32), k40 S x2 = some (r, S2) → Keeps wr_X4_find S0 S → Keeps wr_X4_find S0 S2) (d : Nat), ∀ (S : St) (x3 : Int32), fixF (fun _ _ => none) (f_X4_find_59 n x1 x2 k40) d S x3 = some (r, S2) → Keeps wr_X4_find S0 S → Keeps wr_X4_find S0 S2 := by
    intro x1 x2 k40 hk40 d
    induction d with
    | zero => intro S x3 hf hk; cases hf
    | succ d ih => exact b59 x1 x2 k40 hk40 (fixF (fun _ _ => none) (f_X4_find_59 n x1 x2 k40) d) ih
  have b40 : ∀ (x1 : Int32) (k40 : St → Int32 → Option (Unit × St)) (hk40 : ∀ (S : St) (x2 : Int32), k40 S x2 = some (r, S2) → Keeps wr_X4_find S0 S → Keeps wr_X4_find S0 S2), ∀ (S : St) (x2 : Int32), f_X4_find_40 n x1 k40 S x2 = some (r, S2) → Keeps wr_X4_find S0 S → Keeps wr_X4_find S0 S2 := by
    intro x1 k40 hk40 S x2 hf hk
    unfold f_X4_find_40 at hf
    rcases (Decidable.em ((10 : Int32) ≤ x2)) with b_21 | b_21
    · have hf := if_t b_21 hf
      exact (rt_inv hf).2 ▸ hk
    · have hf := if_f b_21 hf
      rcases (Decidable.em ((S.1 26 2) = (-2000000001 : Int32))).symm with b_22 | b_22
      · have hf := if_f b_22 hf
        exact (rt_inv hf).2 ▸ hk
      · have hf := if_t b_22 hf
        obtain ⟨x3_23, ex3_23, hf⟩ := bd_inv hf
        exact j59 x1 x2 k40 hk40 n S x3_23 hf hk
  have j40 : ∀ (x1 : Int32) (d : Nat), ∀ (S : St) (x2 : Int32), fixF (fun _ _ => none) (f_X4_find_40 n x1) d S x2 = some (r, S2) → Keeps wr_X4_find S0 S → Keeps wr_X4_find S0 S2 := by
    intro x1  d
    induction d with
    | zero => intro S x2 hf hk; cases hf
    | succ d ih => exact b40 x1  (fixF (fun _ _ => none) (f_X4_find_40 n x1) d) ih
  have b14 : ∀ (x1 : Int32) (k14 : St → Int32 → Option (Unit × St)) (hk14 : ∀ (S : St) (x2 : Int32), k14 S x2 = some (r, S2) → Keeps wr_X4_find S0 S → Keeps wr_X4_find S0 S2), ∀ (S : St) (x2 : Int32), f_X4_find_14 n x1 k14 S x2 = some (r, S2) → Keeps wr_X4_find S0 S → Keeps wr_X4_find S0 S2 := by
    intro x1 k14 hk14 S x2 hf hk
    unfold f_X4_find_14 at hf
    rcases (Decidable.em ((10 : Int32) ≤ x2)) with b_24 | b_24
    · have hf := if_t b_24 hf
      obtain ⟨x2_25, ex2_25, hf⟩ := bd_inv hf
      exact j40 x1  n S x2_25 hf hk
    · have hf := if_f b_24 hf
      obtain ⟨r_26, S_27, hc_28, hf⟩ := bo_inv hf
      have hk := hk.trans ((fr_X4_pairsTiedWith n _ _ _ _ _ hc_28).mono (by intro c h; unfold wr_X4_pairsTiedWith at h; unfold wr_X4_find; omega))
      obtain ⟨g_29, hf⟩ := gd_inv hf
      obtain ⟨S_30, eS_30, hf⟩ := bd_inv hf
      have hk := hk.trans (kpI eS_30 (by unfold wr_X4_find; omega))
      obtain ⟨x2_31, ex2_31, hf⟩ := bd_inv hf
      exact hk14 S_30 x2_31 hf hk
  have j14 : ∀ (x1 : Int32) (d : Nat), ∀ (S : St) (x2 : Int32), fixF (fun _ _ => none) (f_X4_find_14 n x1) d S x2 = some (r, S2) → Keeps wr_X4_find S0 S → Keeps wr_X4_find S0 S2 := by
    intro x1  d
    induction d with
    | zero => intro S x2 hf hk; cases hf
    | succ d ih => exact b14 x1  (fixF (fun _ _ => none) (f_X4_find_14 n x1) d) ih
  unfold f_X4_find at hf
  obtain ⟨S_32, eS_32, hf⟩ := bd_inv hf
  have hk := hk.trans (kpI eS_32 (by unfold wr_X4_find; omega))
  obtain ⟨S_33, eS_33, hf⟩ := bd_inv hf
  have hk := hk.trans (kpI eS_33 (by unfold wr_X4_find; omega))
  obtain ⟨x2_34, ex2_34, hf⟩ := bd_inv hf
  exact j14 a1  n S_33 x2_34 hf hk
def wr_X5_write : Nat → Prop := fun c => c = 2 ∨ c = 4
theorem fr_X5_write (n : Nat) (S : St) (a1 : Int32) (r : Int32) (S2 : St) (hf : f_X5_write n S a1 = some (r, S2)) : Keeps (wr_X5_write) S S2 := by
  have hk : Keeps (wr_X5_write) S S := Keeps.rf
  unfold f_X5_write at hf
  rcases (Decidable.em ((S.1 2 4) < 0)) with b_1 | b_1
  · have hf := if_t b_1 hf
    exact (rt_inv hf).2 ▸ hk
  · have hf := if_f b_1 hf
    rcases (Decidable.em ((S.1 2 4) < (40 : Int32))) with b_2 | b_2
    · have hf := if_t b_2 hf
      obtain ⟨g_3, hf⟩ := gd_inv hf
      obtain ⟨S_4, eS_4, hf⟩ := bd_inv hf
      have hk := hk.trans (kpI eS_4 (by unfold wr_X5_write; omega))
      obtain ⟨S_5, eS_5, hf⟩ := bd_inv hf
      have hk := hk.trans (kpI eS_5 (by unfold wr_X5_write; omega))
      exact (rt_inv hf).2 ▸ hk
    · have hf := if_f b_2 hf
      exact (rt_inv hf).2 ▸ hk
def wr_X5_beginsTerm : Nat → Prop := fun c => c = 2 ∨ c = 3 ∨ c = 4
theorem fr_X5_beginsTerm (n : Nat) (S : St) (a1 : Int32) (r : Int32) (S2 : St) (hf : f_X5_beginsTerm n S a1 = some (r, S2)) : Keeps (wr_X5_beginsTerm) S S2 := by
  have hk : Keeps (wr_X5_beginsTerm) S S := Keeps.rf
  obtain ⟨S0, hS0⟩ : ∃ S0, S0 = S := ⟨S, rfl⟩
  have hk : Keeps (wr_X5_beginsTerm) S0 S := by rw [hS0]; exact hk
  suffices hh : Keeps (wr_X5_beginsTerm) S0 S2 by rw [hS0] at hh; exact hh
  have j75 : ∀ (S : St) (t1 : Int32) (t2 : Int32), f_X5_beginsTerm_75 n S t1 t2 = some (r, S2) → Keeps wr_X5_beginsTerm S0 S → Keeps wr_X5_beginsTerm S0 S2 := by
    intro S t1 t2 hf hk
    unfold f_X5_beginsTerm_75 at hf
    obtain ⟨g_1, hf⟩ := gd_inv hf
    obtain ⟨S_2, eS_2, hf⟩ := bd_inv hf
    have hk := hk.trans (kpI eS_2 (by unfold wr_X5_beginsTerm; omega))
    obtain ⟨S_3, eS_3, hf⟩ := bd_inv hf
    have hk := hk.trans (kpI eS_3 (by unfold wr_X5_beginsTerm; omega))
    obtain ⟨S_4, eS_4, hf⟩ := bd_inv hf
    have hk := hk.trans (kpI eS_4 (by unfold wr_X5_beginsTerm; omega))
    exact (rt_inv hf).2 ▸ hk
  have j38 : ∀ (S : St) (x1 : Int32), f_X5_beginsTerm_38 n S x1 = some (r, S2) → Keeps wr_X5_beginsTerm S0 S → Keeps wr_X5_beginsTerm S0 S2 := by
    intro S x1 hf hk
    unfold f_X5_beginsTerm_38 at hf
    rcases (Decidable.em ((S.1 2 2) < 0)) with b_5 | b_5
    · have hf := if_t b_5 hf
      exact (rt_inv hf).2 ▸ hk
    · have hf := if_f b_5 hf
      rcases (Decidable.em ((S.1 2 2) < (40 : Int32))) with b_6 | b_6
      · have hf := if_t b_6 hf
        rcases (Decidable.em (x1 = (102 : Int32))).symm with b_7 | b_7
        · have hf := if_f b_7 hf
          exact j75   S ((S.1 2 2)) ((1 : Int32)) hf hk
        · have hf := if_t b_7 hf
          exact j75   S ((S.1 2 2)) ((0 : Int32)) hf hk
      · have hf := if_f b_6 hf
        exact (rt_inv hf).2 ▸ hk
  have j26 : ∀ (S : St) (x1 : Int32), f_X5_beginsTerm_26 n S x1 = some (r, S2) → Keeps wr_X5_beginsTerm S0 S → Keeps wr_X5_beginsTerm S0 S2 := by
    intro S x1 hf hk
    unfold f_X5_beginsTerm_26 at hf
    rcases (Decidable.em (x1 = (102 : Int32))) with b_8 | b_8
    · have hf := if_t b_8 hf
      exact j38   S x1 hf hk
    · have hf := if_f b_8 hf
      rcases (Decidable.em (x1 = (103 : Int32))).symm with b_9 | b_9
      · have hf := if_f b_9 hf
        exact (rt_inv hf).2 ▸ hk
      · have hf := if_t b_9 hf
        exact j38   S x1 hf hk
  unfold f_X5_beginsTerm at hf
  rcases (Decidable.em (a1 < (97 : Int32))) with b_10 | b_10
  · have hf := if_t b_10 hf
    exact j26   S a1 hf hk
  · have hf := if_f b_10 hf
    rcases (Decidable.em ((101 : Int32) < a1)) with b_11 | b_11
    · have hf := if_t b_11 hf
      exact j26   S a1 hf hk
    · have hf := if_f b_11 hf
      obtain ⟨S_12, eS_12, hf⟩ := bd_inv hf
      have hk := hk.trans (kpI eS_12 (by unfold wr_X5_beginsTerm; omega))
      obtain ⟨r_13, S_14, hc_15, hf⟩ := bo_inv hf
      have hk := hk.trans ((fr_X5_write n _ _ _ _ hc_15).mono (by intro c h; unfold wr_X5_write at h; unfold wr_X5_beginsTerm; omega))
      obtain ⟨g_16, hf⟩ := gd_inv hf
      exact (rt_inv hf).2 ▸ hk
def wr_X5_goesOnInBrackets : Nat → Prop := fun c => c = 2 ∨ c = 3 ∨ c = 4
theorem fr_X5_goesOnInBrackets (n : Nat) (S : St) (a1 : Int32) (r : Int32) (S2 : St) (hf : f_X5_goesOnInBrackets n S a1 = some (r, S2)) : Keeps (wr_X5_goesOnInBrackets) S S2 := by
  have hk : Keeps (wr_X5_goesOnInBrackets) S S := Keeps.rf
  obtain ⟨S0, hS0⟩ : ∃ S0, S0 = S := ⟨S, rfl⟩
  have hk : Keeps (wr_X5_goesOnInBrackets) S0 S := by rw [hS0]; exact hk
  suffices hh : Keeps (wr_X5_goesOnInBrackets) S0 S2 by rw [hS0] at hh; exact hh
  have j92 : ∀ (S : St) (t1 : Int32), f_X5_goesOnInBrackets_92 n S t1 = some (r, S2) → Keeps wr_X5_goesOnInBrackets S0 S → Keeps wr_X5_goesOnInBrackets S0 S2 := by
    intro S t1 hf hk
    unfold f_X5_goesOnInBrackets_92 at hf
    obtain ⟨r_1, S_2, hc_3, hf⟩ := bo_inv hf
    have hk := hk.trans ((fr_X5_write n _ _ _ _ hc_3).mono (by intro c h; unfold wr_X5_write at h; unfold wr_X5_goesOnInBrackets; omega))
    rcases (Decidable.em (r_1 = 0)) with b_4 | b_4
    · have hf := if_t b_4 hf
      exact (rt_inv hf).2 ▸ hk
    · have hf := if_f b_4 hf
      exact (rt_inv hf).2 ▸ hk
  unfold f_X5_goesOnInBrackets at hf
  rcases (Decidable.em ((S.1 2 2) < (1 : Int32))) with b_5 | b_5
  · have hf := if_t b_5 hf
    exact (rt_inv hf).2 ▸ hk
  · have hf := if_f b_5 hf
    rcases (Decidable.em ((S.1 2 2) ≤ (40 : Int32))) with b_6 | b_6
    · have hf := if_t b_6 hf
      obtain ⟨g_7, hf⟩ := gd_inv hf
      obtain ⟨x2_8, ex2_8, hf⟩ := bd_inv hf
      rcases (Decidable.em (x2_8 = (1 : Int32))).symm with b_9 | b_9
      · have hf := if_f b_9 hf
        obtain ⟨S_10, eS_10, hf⟩ := bd_inv hf
        have hk := hk.trans (kpI eS_10 (by unfold wr_X5_goesOnInBrackets; omega))
        rcases (Decidable.em (a1 = (41 : Int32))).symm with b_11 | b_11
        · have hf := if_f b_11 hf
          exact (rt_inv hf).2 ▸ hk
        · have hf := if_t b_11 hf
          rcases (Decidable.em (x2_8 = 0)).symm with b_12 | b_12
          · have hf := if_f b_12 hf
            exact j92   S_10 ((6 : Int32)) hf hk
          · have hf := if_t b_12 hf
            exact j92   S_10 ((5 : Int32)) hf hk
      · have hf := if_t b_9 hf
        obtain ⟨g_13, hf⟩ := gd_inv hf
        obtain ⟨S_14, eS_14, hf⟩ := bd_inv hf
        have hk := hk.trans (kpI eS_14 (by unfold wr_X5_goesOnInBrackets; omega))
        obtain ⟨S_15, eS_15, hf⟩ := bd_inv hf
        have hk := hk.trans (kpI eS_15 (by unfold wr_X5_goesOnInBrackets; omega))
        rcases (Decidable.em (a1 = (44 : Int32))).symm with b_16 | b_16
        · have hf := if_f b_16 hf
          exact (rt_inv hf).2 ▸ hk
        · have hf := if_t b_16 hf
          exact (rt_inv hf).2 ▸ hk
    · have hf := if_f b_6 hf
      exact (rt_inv hf).2 ▸ hk
def wr_X5_kindOfSign : Nat → Prop := fun c => False
theorem fr_X5_kindOfSign (n : Nat) (S : St) (a0 : Int32) (r : Int32) (S2 : St) (hf : f_X5_kindOfSign n S a0 = some (r, S2)) : Keeps (wr_X5_kindOfSign) S S2 := by
  have hk : Keeps (wr_X5_kindOfSign) S S := Keeps.rf
  unfold f_X5_kindOfSign at hf
  rcases (Decidable.em (a0 = (61 : Int32))).symm with b_1 | b_1
  · have hf := if_f b_1 hf
    rcases (Decidable.em (a0 = (35 : Int32))).symm with b_2 | b_2
    · have hf := if_f b_2 hf
      rcases (Decidable.em (a0 = (60 : Int32))).symm with b_3 | b_3
      · have hf := if_f b_3 hf
        exact (rt_inv hf).2 ▸ hk
      · have hf := if_t b_3 hf
        exact (rt_inv hf).2 ▸ hk
    · have hf := if_t b_2 hf
      exact (rt_inv hf).2 ▸ hk
  · have hf := if_t b_1 hf
    exact (rt_inv hf).2 ▸ hk
def wr_X5_goesOnOutside : Nat → Prop := fun c => c = 2
theorem fr_X5_goesOnOutside (n : Nat) (S : St) (a1 : Int32) (r : Int32) (S2 : St) (hf : f_X5_goesOnOutside n S a1 = some (r, S2)) : Keeps (wr_X5_goesOnOutside) S S2 := by
  have hk : Keeps (wr_X5_goesOnOutside) S S := Keeps.rf
  obtain ⟨S0, hS0⟩ : ∃ S0, S0 = S := ⟨S, rfl⟩
  have hk : Keeps (wr_X5_goesOnOutside) S0 S := by rw [hS0]; exact hk
  suffices hh : Keeps (wr_X5_goesOnOutside) S0 S2 by rw [hS0] at hh; exact hh
  have j75 : ∀ (S : St), f_X5_goesOnOutside_75 n S = some (r, S2) → Keeps wr_X5_goesOnOutside S0 S → Keeps wr_X5_goesOnOutside S0 S2 := by
    intro S hf hk
    unfold f_X5_goesOnOutside_75 at hf
    exact (rt_inv hf).2 ▸ hk
  have j47 : ∀ (S : St) (x1 : Int32) (t1 : Int32), f_X5_goesOnOutside_47 n S x1 t1 = some (r, S2) → Keeps wr_X5_goesOnOutside S0 S → Keeps wr_X5_goesOnOutside S0 S2 := by
    intro S x1 t1 hf hk
    unfold f_X5_goesOnOutside_47 at hf
    obtain ⟨g_2, hf⟩ := gd_inv hf
    obtain ⟨S_1, eS_1, hf⟩ := bd_inv hf
    have hk := hk.trans (kpI eS_1 (by unfold wr_X5_goesOnOutside; omega))
    obtain ⟨S_3, eS_3, hf⟩ := bd_inv hf
    have hk := hk.trans (kpI eS_3 (by unfold wr_X5_goesOnOutside; omega))
    rcases (Decidable.em ((S_3.1 2 5) = (2 : Int32))).symm with b_4 | b_4
    · have hf := if_f b_4 hf
      exact (rt_inv hf).2 ▸ hk
    · have hf := if_t b_4 hf
      rcases (Decidable.em (x1 = (43 : Int32))) with b_5 | b_5
      · have hf := if_t b_5 hf
        exact j75   S_3  hf hk
      · have hf := if_f b_5 hf
        rcases (Decidable.em (x1 = (45 : Int32))).symm with b_6 | b_6
        · have hf := if_f b_6 hf
          exact (rt_inv hf).2 ▸ hk
        · have hf := if_t b_6 hf
          exact j75   S_3  hf hk
  unfold f_X5_goesOnOutside at hf
  rcases (Decidable.em ((S.1 2 5) = (-1 : Int32))).symm with b_7 | b_7
  · have hf := if_f b_7 hf
    rcases (Decidable.em (a1 = (45 : Int32))).symm with b_8 | b_8
    · have hf := if_f b_8 hf
      exact j47   S a1 ((0 : Int32)) hf hk
    · have hf := if_t b_8 hf
      exact j47   S a1 ((1 : Int32)) hf hk
  · have hf := if_t b_7 hf
    obtain ⟨r_9, S_10, hc_11, hf⟩ := bo_inv hf
    have hk := hk.trans ((fr_X5_kindOfSign n _ _ _ _ hc_11).mono (fun _ h => False.elim h))
    obtain ⟨S_12, eS_12, hf⟩ := bd_inv hf
    have hk := hk.trans (kpI eS_12 (by unfold wr_X5_goesOnOutside; omega))
    obtain ⟨S_13, eS_13, hf⟩ := bd_inv hf
    have hk := hk.trans (kpI eS_13 (by unfold wr_X5_goesOnOutside; omega))
    rcases (Decidable.em ((S_13.1 2 5) = (-1 : Int32))) with b_14 | b_14
    · have hf := if_t b_14 hf
      exact (rt_inv hf).2 ▸ hk
    · have hf := if_f b_14 hf
      exact (rt_inv hf).2 ▸ hk
def wr_X5_goesOnInNumber : Nat → Prop := fun c => c = 2
theorem fr_X5_goesOnInNumber (n : Nat) (S : St) (a1 : Int32) (r : Int32) (S2 : St) (hf : f_X5_goesOnInNumber n S a1 = some (r, S2)) : Keeps (wr_X5_goesOnInNumber) S S2 := by
  have hk : Keeps (wr_X5_goesOnInNumber) S S := Keeps.rf
  obtain ⟨S0, hS0⟩ : ∃ S0, S0 = S := ⟨S, rfl⟩
  have hk : Keeps (wr_X5_goesOnInNumber) S0 S := by rw [hS0]; exact hk
  suffices hh : Keeps (wr_X5_goesOnInNumber) S0 S2 by rw [hS0] at hh; exact hh
  have j15 : ∀ (S : St) (x1 : Int32) (t0 : Int32), f_X5_goesOnInNumber_15 n S x1 t0 = some (r, S2) → Keeps wr_X5_goesOnInNumber S0 S → Keeps wr_X5_goesOnInNumber S0 S2 := by
    intro S x1 t0 hf hk
    unfold f_X5_goesOnInNumber_15 at hf
    obtain ⟨x2_1, ex2_1, hf⟩ := bd_inv hf
    rcases (Decidable.em (x1 < x2_1)) with b_2 | b_2
    · have hf := if_t b_2 hf
      exact (rt_inv hf).2 ▸ hk
    · have hf := if_f b_2 hf
      rcases (Decidable.em (x1 ≤ (57 : Int32))) with b_3 | b_3
      · have hf := if_t b_3 hf
        obtain ⟨S_4, eS_4, hf⟩ := bd_inv hf
        have hk := hk.trans (kpI eS_4 (by unfold wr_X5_goesOnInNumber; omega))
        obtain ⟨S_5, eS_5, hf⟩ := bd_inv hf
        have hk := hk.trans (kpI eS_5 (by unfold wr_X5_goesOnInNumber; omega))
        rcases (Decidable.em ((999999 : Int32) < (S_5.1 2 7))) with b_6 | b_6
        · have hf := if_t b_6 hf
          exact (rt_inv hf).2 ▸ hk
        · have hf := if_f b_6 hf
          exact (rt_inv hf).2 ▸ hk
      · have hf := if_f b_3 hf
        exact (rt_inv hf).2 ▸ hk
  unfold f_X5_goesOnInNumber at hf
  rcases (Decidable.em ((S.1 2 0) = (3 : Int32))).symm with b_7 | b_7
  · have hf := if_f b_7 hf
    exact j15   S a1 ((48 : Int32)) hf hk
  · have hf := if_t b_7 hf
    exact j15   S a1 ((49 : Int32)) hf hk
def wr_X5_goesOnWith : Nat → Prop := fun c => c = 2 ∨ c = 3 ∨ c = 4
theorem fr_X5_goesOnWith (n : Nat) (S : St) (a1 : Int32) (r : Int32) (S2 : St) (hf : f_X5_goesOnWith n S a1 = some (r, S2)) : Keeps (wr_X5_goesOnWith) S S2 := by
  have hk : Keeps (wr_X5_goesOnWith) S S := Keeps.rf
  unfold f_X5_goesOnWith at hf
  by_cases b_1 : (S.1 2 0) = (0 : Int32)
  · have hf := if_t b_1 hf
    obtain ⟨r_2, S_3, hc_4, hf⟩ := bo_inv hf
    have hk := hk.trans ((fr_X5_beginsTerm n _ _ _ _ hc_4).mono (by intro c h; unfold wr_X5_beginsTerm at h; unfold wr_X5_goesOnWith; omega))
    obtain ⟨g_5, hf⟩ := gd_inv hf
    exact (rt_inv hf).2 ▸ hk
  · have hf := if_f b_1 hf
    by_cases b_6 : (S.1 2 0) = (1 : Int32)
    · have hf := if_t b_6 hf
      obtain ⟨S_7, eS_7, hf⟩ := bd_inv hf
      have hk := hk.trans (kpI eS_7 (by unfold wr_X5_goesOnWith; omega))
      rcases (Decidable.em (a1 = (40 : Int32))).symm with b_8 | b_8
      · have hf := if_f b_8 hf
        exact (rt_inv hf).2 ▸ hk
      · have hf := if_t b_8 hf
        exact (rt_inv hf).2 ▸ hk
    · have hf := if_f b_6 hf
      by_cases b_9 : (S.1 2 0) = (2 : Int32)
      · have hf := if_t b_9 hf
        rcases (Decidable.em ((S.1 2 2) ≤ 0)) with b_10 | b_10
        · have hf := if_t b_10 hf
          obtain ⟨r_11, S_12, hc_13, hf⟩ := bo_inv hf
          have hk := hk.trans ((fr_X5_goesOnOutside n _ _ _ _ hc_13).mono (by intro c h; unfold wr_X5_goesOnOutside at h; unfold wr_X5_goesOnWith; omega))
          obtain ⟨g_14, hf⟩ := gd_inv hf
          exact (rt_inv hf).2 ▸ hk
        · have hf := if_f b_10 hf
          obtain ⟨r_15, S_16, hc_17, hf⟩ := bo_inv hf
          have hk := hk.trans ((fr_X5_goesOnInBrackets n _ _ _ _ hc_17).mono (by intro c h; unfold wr_X5_goesOnInBrackets at h; unfold wr_X5_goesOnWith; omega))
          obtain ⟨g_18, hf⟩ := gd_inv hf
          exact (rt_inv hf).2 ▸ hk
      · have hf := if_f b_9 hf
        obtain ⟨r_19, S_20, hc_21, hf⟩ := bo_inv hf
        have hk := hk.trans ((fr_X5_goesOnInNumber n _ _ _ _ hc_21).mono (by intro c h; unfold wr_X5_goesOnInNumber at h; unfold wr_X5_goesOnWith; omega))
        obtain ⟨g_22, hf⟩ := gd_inv hf
        exact (rt_inv hf).2 ▸ hk
def wr_X5_firstFault : Nat → Prop := fun c => c = 2 ∨ c = 3 ∨ c = 4
theorem fr_X5_firstFault (n : Nat) (S : St) (a2 : Int32) (r : Int32) (S2 : St) (hf : f_X5_firstFault n S a2 = some (r, S2)) : Keeps (wr_X5_firstFault) S S2 := by
  have hk : Keeps (wr_X5_firstFault) S S := Keeps.rf
  obtain ⟨S0, hS0⟩ : ∃ S0, S0 = S := ⟨S, rfl⟩
  have hk : Keeps (wr_X5_firstFault) S0 S := by rw [hS0]; exact hk
  suffices hh : Keeps (wr_X5_firstFault) S0 S2 by rw [hS0] at hh; exact hh
  have b32 : ∀ (x2 : Int32) (k32 : St → Int32 → Option (Int32 × St)) (hk32 : ∀ (S : St) (x3 : Int32), k32 S x3 = some (r, S2) → Keeps wr_X5_firstFault S0 S → Keeps wr_X5_firstFault S0 S2), ∀ (S : St) (x3 : Int32), f_X5_firstFault_32 n x2 k32 S x3 = some (r, S2) → Keeps wr_X5_firstFault S0 S → Keeps wr_X5_firstFault S0 S2 := by
    intro x2 k32 hk32 S x3 hf hk
    unfold f_X5_firstFault_32 at hf
    rcases (Decidable.em (x2 ≤ x3)) with b_1 | b_1
    · have hf := if_t b_1 hf
      exact (rt_inv hf).2 ▸ hk
    · have hf := if_f b_1 hf
      rcases (Decidable.em ((Int32.ofNat 40) ≤ x3)) with b_2 | b_2
      · have hf := if_t b_2 hf
        exact (rt_inv hf).2 ▸ hk
      · have hf := if_f b_2 hf
        obtain ⟨g_3, hf⟩ := gd_inv hf
        obtain ⟨r_4, S_5, hc_6, hf⟩ := bo_inv hf
        have hk := hk.trans ((fr_X5_goesOnWith n _ _ _ _ hc_6).mono (by intro c h; unfold wr_X5_goesOnWith at h; unfold wr_X5_firstFault; omega))
        rcases (Decidable.em (r_4 = 0)).symm with b_7 | b_7
        · have hf := if_f b_7 hf
          obtain ⟨x3_8, ex3_8, hf⟩ := bd_inv hf
          exact hk32 S_5 x3_8 hf hk
        · have hf := if_t b_7 hf
          exact (rt_inv hf).2 ▸ hk
  have j32 : ∀ (x2 : Int32) (d : Nat), ∀ (S : St) (x3 : Int32), fixF (fun _ _ => none) (f_X5_firstFault_32 n x2) d S x3 = some (r, S2) → Keeps wr_X5_firstFault S0 S → Keeps wr_X5_firstFault S0 S2 := by
    intro x2  d
    induction d with
    | zero => intro S x3 hf hk; cases hf
    | succ d ih => exact b32 x2  (fixF (fun _ _ => none) (f_X5_firstFault_32 n x2) d) ih
  unfold f_X5_firstFault at hf
  obtain ⟨S_9, eS_9, hf⟩ := bd_inv hf
  have hk := hk.trans (kpI eS_9 (by unfold wr_X5_firstFault; omega))
  obtain ⟨S_10, eS_10, hf⟩ := bd_inv hf
  have hk := hk.trans (kpI eS_10 (by unfold wr_X5_firstFault; omega))
  obtain ⟨S_11, eS_11, hf⟩ := bd_inv hf
  have hk := hk.trans (kpI eS_11 (by unfold wr_X5_firstFault; omega))
  obtain ⟨S_12, eS_12, hf⟩ := bd_inv hf
  have hk := hk.trans (kpI eS_12 (by unfold wr_X5_firstFault; omega))
  obtain ⟨S_13, eS_13, hf⟩ := bd_inv hf
  have hk := hk.trans (kpI eS_13 (by unfold wr_X5_firstFault; omega))
  obtain ⟨S_14, eS_14, hf⟩ := bd_inv hf
  have hk := hk.trans (kpI eS_14 (by unfold wr_X5_firstFault; omega))
  obtain ⟨x3_15, ex3_15, hf⟩ := bd_inv hf
  exact j32 a2  n S_14 x3_15 hf hk
