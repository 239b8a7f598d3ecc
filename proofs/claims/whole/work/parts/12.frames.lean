def wr_X5_isComplete : Nat → Prop := fun c => False
theorem fr_X5_isComplete (n : Nat) (S : St) (r : Int32) (S2 : St) (hf : f_X5_isComplete n S = some (r, S2)) : Keeps (wr_X5_isComplete) S S2 := by
  have hk : Keeps (wr_X5_isComplete) S S := Keeps.rf
  obtain ⟨S0, hS0⟩ : ∃ S0, S0 = S := ⟨S, rfl⟩
  have hk : Keeps (wr_X5_isComplete) S0 S := by rw [hS0]; exact hk
  suffices hh : Keeps (wr_X5_isComplete) S0 S2 by rw [hS0] at hh; exact hh
  have j41 : ∀ (S : St), f_X5_isComplete_41 n S = some (r, S2) → Keeps wr_X5_isComplete S0 S → Keeps wr_X5_isComplete S0 S2 := by
    intro S hf hk
    unfold f_X5_isComplete_41 at hf
    exact (rt_inv hf).2 ▸ hk
  have j28 : ∀ (S : St) (t0 : Int32), f_X5_isComplete_28 n S t0 = some (r, S2) → Keeps wr_X5_isComplete S0 S → Keeps wr_X5_isComplete S0 S2 := by
    intro S t0 hf hk
    unfold f_X5_isComplete_28 at hf
    obtain ⟨x1_1, ex1_1, hf⟩ := bd_inv hf
    rcases (Decidable.em (x1_1 = 0)).symm with b_2 | b_2
    · have hf := if_f b_2 hf
      exact j41   S  hf hk
    · have hf := if_t b_2 hf
      rcases (Decidable.em ((S.1 2 0) = (4 : Int32))).symm with b_3 | b_3
      · have hf := if_f b_3 hf
        exact (rt_inv hf).2 ▸ hk
      · have hf := if_t b_3 hf
        exact j41   S  hf hk
  have j27 : ∀ (S : St), f_X5_isComplete_27 n S = some (r, S2) → Keeps wr_X5_isComplete S0 S → Keeps wr_X5_isComplete S0 S2 := by
    intro S hf hk
    unfold f_X5_isComplete_27 at hf
    exact j28   S ((0 : Int32)) hf hk
  unfold f_X5_isComplete at hf
  rcases (Decidable.em ((S.1 2 0) = (2 : Int32))).symm with b_4 | b_4
  · have hf := if_f b_4 hf
    exact j27   S  hf hk
  · have hf := if_t b_4 hf
    rcases (Decidable.em ((S.1 2 2) = 0)).symm with b_5 | b_5
    · have hf := if_f b_5 hf
      exact j27   S  hf hk
    · have hf := if_t b_5 hf
      rcases (Decidable.em ((S.1 2 5) = (-1 : Int32))) with b_6 | b_6
      · have hf := if_t b_6 hf
        exact j27   S  hf hk
      · have hf := if_f b_6 hf
        exact j28   S ((1 : Int32)) hf hk
def wr_X5_kind : Nat → Prop := fun c => False
theorem fr_X5_kind (n : Nat) (S : St) (r : Int32) (S2 : St) (hf : f_X5_kind n S = some (r, S2)) : Keeps (wr_X5_kind) S S2 := by
  have hk : Keeps (wr_X5_kind) S S := Keeps.rf
  unfold f_X5_kind at hf
  exact (rt_inv hf).2 ▸ hk
def wr_X5_number : Nat → Prop := fun c => False
theorem fr_X5_number (n : Nat) (S : St) (r : Int32) (S2 : St) (hf : f_X5_number n S = some (r, S2)) : Keeps (wr_X5_number) S S2 := by
  have hk : Keeps (wr_X5_number) S S := Keeps.rf
  unfold f_X5_number at hf
  rcases (Decidable.em ((S.1 2 6) = 0)) with b_1 | b_1
  · have hf := if_t b_1 hf
    exact (rt_inv hf).2 ▸ hk
  · have hf := if_f b_1 hf
    exact (rt_inv hf).2 ▸ hk
def wr_X5_left : Nat → Prop := fun c => False
theorem fr_X5_left (n : Nat) (S : St) (r : Int32) (S2 : St) (hf : f_X5_left n S = some (r, S2)) : Keeps (wr_X5_left) S S2 := by
  have hk : Keeps (wr_X5_left) S S := Keeps.rf
  unfold f_X5_left at hf
  rcases (Decidable.em ((S.1 2 9) = (2 : Int32))).symm with b_1 | b_1
  · have hf := if_f b_1 hf
    exact (rt_inv hf).2 ▸ hk
  · have hf := if_t b_1 hf
    obtain ⟨g_2, hf⟩ := gd_inv hf
    exact (rt_inv hf).2 ▸ hk
def wr_X5_right : Nat → Prop := fun c => False
theorem fr_X5_right (n : Nat) (S : St) (r : Int32) (S2 : St) (hf : f_X5_right n S = some (r, S2)) : Keeps (wr_X5_right) S S2 := by
  have hk : Keeps (wr_X5_right) S S := Keeps.rf
  unfold f_X5_right at hf
  rcases (Decidable.em ((S.1 2 9) = (2 : Int32))).symm with b_1 | b_1
  · have hf := if_f b_1 hf
    exact (rt_inv hf).2 ▸ hk
  · have hf := if_t b_1 hf
    obtain ⟨g_2, hf⟩ := gd_inv hf
    exact (rt_inv hf).2 ▸ hk
def wr_X5_takeBuilt : Nat → Prop := fun c => c = 2
theorem fr_X5_takeBuilt (n : Nat) (S : St) (r : Int32) (S2 : St) (hf : f_X5_takeBuilt n S = some (r, S2)) : Keeps (wr_X5_takeBuilt) S S2 := by
  have hk : Keeps (wr_X5_takeBuilt) S S := Keeps.rf
  unfold f_X5_takeBuilt at hf
  rcases (Decidable.em ((S.1 2 9) < (1 : Int32))) with b_1 | b_1
  · have hf := if_t b_1 hf
    exact (rt_inv hf).2 ▸ hk
  · have hf := if_f b_1 hf
    rcases (Decidable.em ((S.1 2 9) ≤ (40 : Int32))) with b_2 | b_2
    · have hf := if_t b_2 hf
      obtain ⟨S_3, eS_3, hf⟩ := bd_inv hf
      have hk := hk.trans (kpI eS_3 (by unfold wr_X5_takeBuilt; omega))
      obtain ⟨g_4, hf⟩ := gd_inv hf
      exact (rt_inv hf).2 ▸ hk
    · have hf := if_f b_2 hf
      exact (rt_inv hf).2 ▸ hk
def wr_X7_lengthOf (q : Nat) : Nat → Prop := fun c => False
theorem fr_X7_lengthOf (n : Nat) (q : Nat) (S : St) (a1 : Int32) (r : Int32) (S2 : St) (hf : f_X7_lengthOf n q S a1 = some (r, S2)) : Keeps (wr_X7_lengthOf q) S S2 := by
  have hk : Keeps (wr_X7_lengthOf q) S S := Keeps.rf
  unfold f_X7_lengthOf at hf
  obtain ⟨r_1, S_2, hc_3, hf⟩ := bo_inv hf
  have hk := hk.trans ((fr_X7_has n _ _ _ _ _ hc_3).mono (fun _ h => False.elim h))
  rcases (Decidable.em (r_1 = 0)) with b_4 | b_4
  · have hf := if_t b_4 hf
    exact (rt_inv hf).2 ▸ hk
  · have hf := if_f b_4 hf
    obtain ⟨g_5, hf⟩ := gd_inv hf
    exact (rt_inv hf).2 ▸ hk
def wr_X7_numberFor (q : Nat) : Nat → Prop := fun c => c = q ∨ c = q + 1 ∨ c = q + 2 ∨ c = q + 3 ∨ c = q + 4
theorem fr_X7_numberFor (n : Nat) (q : Nat) (S : St) (a1 : Int32) (a2 : Int32) (a3 : Int32) (r : Int32) (S2 : St) (hf : f_X7_numberFor n q S a1 a2 a3 = some (r, S2)) : Keeps (wr_X7_numberFor q) S S2 := by
  have hk : Keeps (wr_X7_numberFor q) S S := Keeps.rf
  obtain ⟨S0, hS0⟩ : ∃ S0, S0 = S := ⟨S, rfl⟩
  have hk : Keeps (wr_X7_numberFor q) S0 S := by rw [hS0]; exact hk
  suffices hh : Keeps (wr_X7_numberFor q) S0 S2 by rw [hS0] at hh; exact hh
  have j147 : ∀ (S : St) (t1 : Int32) (t2 : Int32), f_X7_numberFor_147 n q S t1 t2 = some (r, S2) → Keeps (wr_X7_numberFor q) S0 S → Keeps (wr_X7_numberFor q) S0 S2 := by
    intro S t1 t2 hf hk
    unfold f_X7_numberFor_147 at hf
    obtain ⟨g_1, hf⟩ := gd_inv hf
    obtain ⟨S_2, eS_2, hf⟩ := bd_inv hf
    have hk := hk.trans (kpI eS_2 (by unfold wr_X7_numberFor; omega))
    obtain ⟨S_3, eS_3, hf⟩ := bd_inv hf
    have hk := hk.trans (kpI eS_3 (by unfold wr_X7_numberFor; omega))
    exact (rt_inv hf).2 ▸ hk
  have j61 : ∀ (S : St) (x1 : Int32) (x2 : Int32) (x3 : Int32), f_X7_numberFor_61 n q S x1 x2 x3 = some (r, S2) → Keeps (wr_X7_numberFor q) S0 S → Keeps (wr_X7_numberFor q) S0 S2 := by
    intro S x1 x2 x3 hf hk
    unfold f_X7_numberFor_61 at hf
    rcases (Decidable.em ((S.1 q 4) < (5 : Int32))) with b_4 | b_4
    · have hf := if_t b_4 hf
      exact (rt_inv hf).2 ▸ hk
    · have hf := if_f b_4 hf
      rcases (Decidable.em ((S.1 q 4) < (10 : Int32))) with b_5 | b_5
      · have hf := if_t b_5 hf
        obtain ⟨g_6, hf⟩ := gd_inv hf
        obtain ⟨S_7, eS_7, hf⟩ := bd_inv hf
        have hk := hk.trans (kpI eS_7 (by unfold wr_X7_numberFor; omega))
        obtain ⟨g_8, hf⟩ := gd_inv hf
        obtain ⟨S_9, eS_9, hf⟩ := bd_inv hf
        have hk := hk.trans (kpI eS_9 (by unfold wr_X7_numberFor; omega))
        obtain ⟨g_10, hf⟩ := gd_inv hf
        obtain ⟨S_11, eS_11, hf⟩ := bd_inv hf
        have hk := hk.trans (kpI eS_11 (by unfold wr_X7_numberFor; omega))
        rcases (Decidable.em (x1 = (1 : Int32))).symm with b_12 | b_12
        · have hf := if_f b_12 hf
          obtain ⟨r_13, S_14, hc_15, hf⟩ := bo_inv hf
          have hk := hk.trans ((fr_X7_lengthOf n _ _ _ _ _ hc_15).mono (fun _ h => False.elim h))
          obtain ⟨r_16, S_17, hc_18, hf⟩ := bo_inv hf
          have hk := hk.trans ((fr_X7_lengthOf n _ _ _ _ _ hc_18).mono (fun _ h => False.elim h))
          exact j147   S_17 ((S_11.1 q 4)) (((r_13 + r_16) + (4 : Int32))) hf hk
        · have hf := if_t b_12 hf
          obtain ⟨r_19, S_20, hc_21, hf⟩ := bo_inv hf
          have hk := hk.trans ((fr_X7_lengthOf n _ _ _ _ _ hc_21).mono (fun _ h => False.elim h))
          exact j147   S_20 ((S_11.1 q 4)) ((r_19 + (3 : Int32))) hf hk
      · have hf := if_f b_5 hf
        exact (rt_inv hf).2 ▸ hk
  have j55 : ∀ (x1 : Int32) (x2 : Int32) (x3 : Int32) (k3 : St → Int32 → Option (Int32 × St)) (hk3 : ∀ (S : St) (x4 : Int32), k3 S x4 = some (r, S2) → Keeps (wr_X7_numberFor q) S0 S → Keeps (wr_X7_numberFor q) S0 S2), ∀ (S : St) (x4 : Int32), f_X7_numberFor_55 n q x1 x2 x3 k3 S x4 = some (r, S2) → Keeps (wr_X7_numberFor q) S0 S → Keeps (wr_X7_numberFor q) S0 S2 := by
    intro x1 x2 x3 k3 hk3 S x4 hf hk
    unfold f_X7_numberFor_55 at hf
    obtain ⟨x4_22, ex4_22, hf⟩ := bd_inv hf
    exact hk3 S x4_22 hf hk
  have b3 : ∀ (x1 : Int32) (x2 : Int32) (x3 : Int32) (k3 : St → Int32 → Option (Int32 × St)) (hk3 : ∀ (S : St) (x4 : Int32), k3 S x4 = some (r, S2) → Keeps (wr_X7_numberFor q) S0 S → Keeps (wr_X7_numberFor q) S0 S2), ∀ (S : St) (x4 : Int32), f_X7_numberFor_3 n q x1 x2 x3 k3 S x4 = some (r, S2) → Keeps (wr_X7_numberFor q) S0 S → Keeps (wr_X7_numberFor q) S0 S2 := by
    intro x1 x2 x3 k3 hk3 S x4 hf hk
    unfold f_X7_numberFor_3 at hf
    rcases (Decidable.em ((S.1 q 4) ≤ x4)) with b_23 | b_23
    · have hf := if_t b_23 hf
      exact j61   S x1 x2 x3 hf hk
    · have hf := if_f b_23 hf
      rcases (Decidable.em ((10 : Int32) ≤ x4)) with b_24 | b_24
      · have hf := if_t b_24 hf
        exact j61   S x1 x2 x3 hf hk
      · have hf := if_f b_24 hf
        obtain ⟨g_25, hf⟩ := gd_inv hf
        rcases (Decidable.em ((S.1 (q + 1) (x4).toNatClampNeg) = x1)).symm with b_26 | b_26
        · have hf := if_f b_26 hf
          exact j55 x1 x2 x3 k3 hk3 S x4 hf hk
        · have hf := if_t b_26 hf
          obtain ⟨g_27, hf⟩ := gd_inv hf
          rcases (Decidable.em ((S.1 (q + 2) (x4).toNatClampNeg) = x2)).symm with b_28 | b_28
          · have hf := if_f b_28 hf
            exact j55 x1 x2 x3 k3 hk3 S x4 hf hk
          · have hf := if_t b_28 hf
            obtain ⟨g_29, hf⟩ := gd_inv hf
            rcases (Decidable.em ((S.1 (q + 3) (x4).toNatClampNeg) = x3)).symm with b_30 | b_30
            · have hf := if_f b_30 hf
              exact j55 x1 x2 x3 k3 hk3 S x4 hf hk
            · have hf := if_t b_30 hf
              exact (rt_inv hf).2 ▸ hk
  have j3 : ∀ (x1 : Int32) (x2 : Int32) (x3 : Int32) (d : Nat), ∀ (S : St) (x4 : Int32), fixF (fun _ _ => none) (f_X7_numberFor_3 n q x1 x2 x3) d S x4 = some (r, S2) → Keeps (wr_X7_numberFor q) S0 S → Keeps (wr_X7_numberFor q) S0 S2 := by
    intro x1 x2 x3  d
    induction d with
    | zero => intro S x4 hf hk; cases hf
    | succ d ih => exact b3 x1 x2 x3  (fixF (fun _ _ => none) (f_X7_numberFor_3 n q x1 x2 x3) d) ih
  unfold f_X7_numberFor at hf
  obtain ⟨x4_31, ex4_31, hf⟩ := bd_inv hf
  exact j3 a1 a2 a3  n S x4_31 hf hk
def wr_X5_buildIn (q1 : Nat) : Nat → Prop := fun c => c = 2 ∨ c = 5 ∨ c = q1 ∨ c = q1 + 1 ∨ c = q1 + 2 ∨ c = q1 + 3 ∨ c = q1 + 4
theorem fr_X5_buildIn (n : Nat) (S : St) (q1 : Nat) (r : Int32) (S2 : St) (hf : f_X5_buildIn n S q1 = some (r, S2)) : Keeps (wr_X5_buildIn q1) S S2 := by
  have hk : Keeps (wr_X5_buildIn q1) S S := Keeps.rf
  obtain ⟨S0, hS0⟩ : ∃ S0, S0 = S := ⟨S, rfl⟩
  have hk : Keeps (wr_X5_buildIn q1) S0 S := by rw [hS0]; exact hk
  suffices hh : Keeps (wr_X5_buildIn q1) S0 S2 by rw [hS0] at hh; exact hh
  have j122 : ∀ (S : St), f_X5_buildIn_122 n q1 S = some (r, S2) → Keeps (wr_X5_buildIn q1) S0 S → Keeps (wr_X5_buildIn q1) S0 S2 := by
    intro S hf hk
    unfold f_X5_buildIn_122 at hf
    rcases (Decidable.em ((S.1 2 9) = (2 : Int32))).symm with b_1 | b_1
    · have hf := if_f b_1 hf
      exact (rt_inv hf).2 ▸ hk
    · have hf := if_t b_1 hf
      exact (rt_inv hf).2 ▸ hk
  have j72 : ∀ (k7 : St → Int32 → Option (Int32 × St)) (hk7 : ∀ (S : St) (x2 : Int32), k7 S x2 = some (r, S2) → Keeps (wr_X5_buildIn q1) S0 S → Keeps (wr_X5_buildIn q1) S0 S2), ∀ (S : St) (x2 : Int32) (x3 : Int32), f_X5_buildIn_72 n q1 k7 S x2 x3 = some (r, S2) → Keeps (wr_X5_buildIn q1) S0 S → Keeps (wr_X5_buildIn q1) S0 S2 := by
    intro k7 hk7 S x2 x3 hf hk
    unfold f_X5_buildIn_72 at hf
    rcases (Decidable.em (x3 = (-2000000001 : Int32))) with b_2 | b_2
    · have hf := if_t b_2 hf
      exact (rt_inv hf).2 ▸ hk
    · have hf := if_f b_2 hf
      rcases (Decidable.em ((S.1 2 9) < 0)) with b_3 | b_3
      · have hf := if_t b_3 hf
        exact (rt_inv hf).2 ▸ hk
      · have hf := if_f b_3 hf
        rcases (Decidable.em ((S.1 2 9) < (40 : Int32))) with b_4 | b_4
        · have hf := if_t b_4 hf
          obtain ⟨g_5, hf⟩ := gd_inv hf
          obtain ⟨S_6, eS_6, hf⟩ := bd_inv hf
          have hk := hk.trans (kpI eS_6 (by unfold wr_X5_buildIn; omega))
          obtain ⟨S_7, eS_7, hf⟩ := bd_inv hf
          have hk := hk.trans (kpI eS_7 (by unfold wr_X5_buildIn; omega))
          obtain ⟨x2_8, ex2_8, hf⟩ := bd_inv hf
          exact hk7 S_7 x2_8 hf hk
        · have hf := if_f b_4 hf
          exact (rt_inv hf).2 ▸ hk
  have b7 : ∀ (k7 : St → Int32 → Option (Int32 × St)) (hk7 : ∀ (S : St) (x2 : Int32), k7 S x2 = some (r, S2) → Keeps (wr_X5_buildIn q1) S0 S → Keeps (wr_X5_buildIn q1) S0 S2), ∀ (S : St) (x2 : Int32), f_X5_buildIn_7 n q1 k7 S x2 = some (r, S2) → Keeps (wr_X5_buildIn q1) S0 S → Keeps (wr_X5_buildIn q1) S0 S2 := by
    intro k7 hk7 S x2 hf hk
    unfold f_X5_buildIn_7 at hf
    rcases (Decidable.em ((S.1 2 4) ≤ x2)) with b_9 | b_9
    · have hf := if_t b_9 hf
      exact j122   S  hf hk
    · have hf := if_f b_9 hf
      rcases (Decidable.em ((40 : Int32) ≤ x2)) with b_10 | b_10
      · have hf := if_t b_10 hf
        exact j122   S  hf hk
      · have hf := if_f b_10 hf
        obtain ⟨g_11, hf⟩ := gd_inv hf
        obtain ⟨x3_12, ex3_12, hf⟩ := bd_inv hf
        rcases (Decidable.em (x3_12 = (5 : Int32))).symm with b_13 | b_13
        · have hf := if_f b_13 hf
          rcases (Decidable.em (x3_12 = (6 : Int32))).symm with b_14 | b_14
          · have hf := if_f b_14 hf
            exact j72  k7 hk7 S x2 x3_12 hf hk
          · have hf := if_t b_14 hf
            obtain ⟨r_15, S_16, hc_17, hf⟩ := bo_inv hf
            have hk := hk.trans ((fr_X5_takeBuilt n _ _ _ hc_17).mono (by intro c h; unfold wr_X5_takeBuilt at h; unfold wr_X5_buildIn; omega))
            obtain ⟨x4_18, ex4_18, hf⟩ := bd_inv hf
            obtain ⟨r_19, S_20, hc_21, hf⟩ := bo_inv hf
            have hk := hk.trans ((fr_X5_takeBuilt n _ _ _ hc_21).mono (by intro c h; unfold wr_X5_takeBuilt at h; unfold wr_X5_buildIn; omega))
            obtain ⟨r_22, S_23, hc_24, hf⟩ := bo_inv hf
            have hk := hk.trans ((fr_X7_numberFor n _ _ _ _ _ _ _ hc_24).mono (by intro c h; unfold wr_X7_numberFor at h; unfold wr_X5_buildIn; omega))
            obtain ⟨x3_25, ex3_25, hf⟩ := bd_inv hf
            exact j72  k7 hk7 S_23 x2 x3_25 hf hk
        · have hf := if_t b_13 hf
          obtain ⟨r_26, S_27, hc_28, hf⟩ := bo_inv hf
          have hk := hk.trans ((fr_X5_takeBuilt n _ _ _ hc_28).mono (by intro c h; unfold wr_X5_takeBuilt at h; unfold wr_X5_buildIn; omega))
          obtain ⟨r_29, S_30, hc_31, hf⟩ := bo_inv hf
          have hk := hk.trans ((fr_X7_numberFor n _ _ _ _ _ _ _ hc_31).mono (by intro c h; unfold wr_X7_numberFor at h; unfold wr_X5_buildIn; omega))
          obtain ⟨x3_32, ex3_32, hf⟩ := bd_inv hf
          exact j72  k7 hk7 S_30 x2 x3_32 hf hk
  have j7 : ∀ (d : Nat), ∀ (S : St) (x2 : Int32), fixF (fun _ _ => none) (f_X5_buildIn_7 n q1) d S x2 = some (r, S2) → Keeps (wr_X5_buildIn q1) S0 S → Keeps (wr_X5_buildIn q1) S0 S2 := by
    intro   d
    induction d with
    | zero => intro S x2 hf hk; cases hf
    | succ d ih => exact b7   (fixF (fun _ _ => none) (f_X5_buildIn_7 n q1) d) ih
  unfold f_X5_buildIn at hf
  obtain ⟨S_33, eS_33, hf⟩ := bd_inv hf
  have hk := hk.trans (kpI eS_33 (by unfold wr_X5_buildIn; omega))
  obtain ⟨x2_34, ex2_34, hf⟩ := bd_inv hf
  exact j7   n S_33 x2_34 hf hk
def wr_X7_shrinkTo (q : Nat) : Nat → Prop := fun c => c = q
theorem fr_X7_shrinkTo (n : Nat) (q : Nat) (S : St) (a1 : Int32) (r : Unit) (S2 : St) (hf : f_X7_shrinkTo n q S a1 = some (r, S2)) : Keeps (wr_X7_shrinkTo q) S S2 := by
  have hk : Keeps (wr_X7_shrinkTo q) S S := Keeps.rf
  unfold f_X7_shrinkTo at hf
  rcases (Decidable.em (a1 < (5 : Int32))) with b_1 | b_1
  · have hf := if_t b_1 hf
    exact (rt_inv hf).2 ▸ hk
  · have hf := if_f b_1 hf
    rcases (Decidable.em ((S.1 q 4) ≤ a1)) with b_2 | b_2
    · have hf := if_t b_2 hf
      exact (rt_inv hf).2 ▸ hk
    · have hf := if_f b_2 hf
      obtain ⟨S_3, eS_3, hf⟩ := bd_inv hf
      have hk := hk.trans (kpI eS_3 (by unfold wr_X7_shrinkTo; omega))
      exact (rt_inv hf).2 ▸ hk
def wr_X7_copyFrom (q : Nat) (q1 : Nat) : Nat → Prop := fun c => c = q ∨ c = q + 1 ∨ c = q + 2 ∨ c = q + 3 ∨ c = q + 4
theorem fr_X7_copyFrom (n : Nat) (q : Nat) (S : St) (q1 : Nat) (r : Unit) (S2 : St) (hf : f_X7_copyFrom n q S q1 = some (r, S2)) : Keeps (wr_X7_copyFrom q q1) S S2 := by
  have hk : Keeps (wr_X7_copyFrom q q1) S S := Keeps.rf
  obtain ⟨S0, hS0⟩ : ∃ S0, S0 = S := ⟨S, rfl⟩
  have hk : Keeps (wr_X7_copyFrom q q1) S0 S := by rw [hS0]; exact hk
  suffices hh : Keeps (wr_X7_copyFrom q q1) S0 S2 by rw [hS0] at hh; exact hh
  have b2 : ∀ (k2 : St → Int32 → Option (Unit × St)) (hk2 : ∀ (S : St) (x2 : Int32), k2 S x2 = some (r, S2) → Keeps (wr_X7_copyFrom q q1) S0 S → Keeps (wr_X7_copyFrom q q1) S0 S2), ∀ (S : St) (x2 : Int32), f_X7_copyFrom_2 n q q1 k2 S x2 = some (r, S2) → Keeps (wr_X7_copyFrom q q1) S0 S → Keeps (wr_X7_copyFrom q q1) S0 S2 := by
    intro k2 hk2 S x2 hf hk
    unfold f_X7_copyFrom_2 at hf
    rcases (Decidable.em ((10 : Int32) ≤ x2)) with b_1 | b_1
    · have hf := if_t b_1 hf
      obtain ⟨S_2, eS_2, hf⟩ := bd_inv hf
      have hk := hk.trans (kpI eS_2 (by unfold wr_X7_copyFrom; omega))
      exact (rt_inv hf).2 ▸ hk
    · have hf := if_f b_1 hf
      obtain ⟨g_3, hf⟩ := gd_inv hf
      obtain ⟨g_4, hf⟩ := gd_inv hf
      obtain ⟨S_5, eS_5, hf⟩ := bd_inv hf
      have hk := hk.trans (kpI eS_5 (by unfold wr_X7_copyFrom; omega))
      obtain ⟨g_6, hf⟩ := gd_inv hf
      obtain ⟨g_7, hf⟩ := gd_inv hf
      obtain ⟨S_8, eS_8, hf⟩ := bd_inv hf
      have hk := hk.trans (kpI eS_8 (by unfold wr_X7_copyFrom; omega))
      obtain ⟨g_9, hf⟩ := gd_inv hf
      obtain ⟨g_10, hf⟩ := gd_inv hf
      obtain ⟨S_11, eS_11, hf⟩ := bd_inv hf
      have hk := hk.trans (kpI eS_11 (by unfold wr_X7_copyFrom; omega))
      obtain ⟨g_12, hf⟩ := gd_inv hf
      obtain ⟨g_13, hf⟩ := gd_inv hf
      obtain ⟨S_14, eS_14, hf⟩ := bd_inv hf
      have hk := hk.trans (kpI eS_14 (by unfold wr_X7_copyFrom; omega))
      obtain ⟨x2_15, ex2_15, hf⟩ := bd_inv hf
      exact hk2 S_14 x2_15 hf hk
  have j2 : ∀ (d : Nat), ∀ (S : St) (x2 : Int32), fixF (fun _ _ => none) (f_X7_copyFrom_2 n q q1) d S x2 = some (r, S2) → Keeps (wr_X7_copyFrom q q1) S0 S → Keeps (wr_X7_copyFrom q q1) S0 S2 := by
    intro   d
    induction d with
    | zero => intro S x2 hf hk; cases hf
    | succ d ih => exact b2   (fixF (fun _ _ => none) (f_X7_copyFrom_2 n q q1) d) ih
  unfold f_X7_copyFrom at hf
  obtain ⟨x2_16, ex2_16, hf⟩ := bd_inv hf
  exact j2   n S x2_16 hf hk
def wr_X8_letter : Nat → Prop := fun c => c = 0 ∨ c = 1
theorem fr_X8_letter (n : Nat) (S : St) (a1 : Int32) (r : Int32) (S2 : St) (hf : f_X8_letter n S a1 = some (r, S2)) : Keeps (wr_X8_letter) S S2 := by
  have hk : Keeps (wr_X8_letter) S S := Keeps.rf
  unfold f_X8_letter at hf
  rcases (Decidable.em (a1 < (32 : Int32))) with b_1 | b_1
  · have hf := if_t b_1 hf
    exact (rt_inv hf).2 ▸ hk
  · have hf := if_f b_1 hf
    rcases (Decidable.em (a1 ≤ (126 : Int32))) with b_2 | b_2
    · have hf := if_t b_2 hf
      rcases (Decidable.em ((S.1 0 1) < 0)) with b_3 | b_3
      · have hf := if_t b_3 hf
        exact (rt_inv hf).2 ▸ hk
      · have hf := if_f b_3 hf
        rcases (Decidable.em ((S.1 0 1) < (40 : Int32))) with b_4 | b_4
        · have hf := if_t b_4 hf
          obtain ⟨g_5, hf⟩ := gd_inv hf
          obtain ⟨S_6, eS_6, hf⟩ := bd_inv hf
          have hk := hk.trans (kpI eS_6 (by unfold wr_X8_letter; omega))
          obtain ⟨S_7, eS_7, hf⟩ := bd_inv hf
          have hk := hk.trans (kpI eS_7 (by unfold wr_X8_letter; omega))
          exact (rt_inv hf).2 ▸ hk
        · have hf := if_f b_4 hf
          exact (rt_inv hf).2 ▸ hk
    · have hf := if_f b_2 hf
      exact (rt_inv hf).2 ▸ hk
def wr_X8_blank : Nat → Prop := fun c => c = 0
theorem fr_X8_blank (n : Nat) (S : St) (r : Int32) (S2 : St) (hf : f_X8_blank n S = some (r, S2)) : Keeps (wr_X8_blank) S S2 := by
  have hk : Keeps (wr_X8_blank) S S := Keeps.rf
  unfold f_X8_blank at hf
  obtain ⟨x1_1, ex1_1, hf⟩ := bd_inv hf
  obtain ⟨S_2, eS_2, hf⟩ := bd_inv hf
  have hk := hk.trans (kpI eS_2 (by unfold wr_X8_blank; omega))
  exact (rt_inv hf).2 ▸ hk
def wr_X8_fault : Nat → Prop := fun c => c = 2 ∨ c = 3 ∨ c = 4
theorem fr_X8_fault (n : Nat) (S : St) (r : Int32) (S2 : St) (hf : f_X8_fault n S = some (r, S2)) : Keeps (wr_X8_fault) S S2 := by
  have hk : Keeps (wr_X8_fault) S S := Keeps.rf
  unfold f_X8_fault at hf
  obtain ⟨r_1, S_2, hc_3, hf⟩ := bo_inv hf
  have hk := hk.trans ((fr_X5_firstFault n _ _ _ _ hc_3).mono (by intro c h; unfold wr_X5_firstFault at h; unfold wr_X8_fault; omega))
  exact (rt_inv hf).2 ▸ hk
def wr_X8_forgetResults : Nat → Prop := fun c => c = 0
theorem fr_X8_forgetResults (n : Nat) (S : St) (r : Unit) (S2 : St) (hf : f_X8_forgetResults n S = some (r, S2)) : Keeps (wr_X8_forgetResults) S S2 := by
  have hk : Keeps (wr_X8_forgetResults) S S := Keeps.rf
  unfold f_X8_forgetResults at hf
  obtain ⟨S_1, eS_1, hf⟩ := bd_inv hf
  have hk := hk.trans (kpI eS_1 (by unfold wr_X8_forgetResults; omega))
  obtain ⟨S_2, eS_2, hf⟩ := bd_inv hf
  have hk := hk.trans (kpI eS_2 (by unfold wr_X8_forgetResults; omega))
  obtain ⟨S_3, eS_3, hf⟩ := bd_inv hf
  have hk := hk.trans (kpI eS_3 (by unfold wr_X8_forgetResults; omega))
  exact (rt_inv hf).2 ▸ hk
def wr_X8_add : Nat → Prop := fun c => c = 0 ∨ c = 10 ∨ c = 16 ∨ c = 17 ∨ c = 18 ∨ c = 19 ∨ c = 2 ∨ c = 20 ∨ c = 3 ∨ c = 4 ∨ c = 5 ∨ c = 6 ∨ c = 7 ∨ c = 8 ∨ c = 9
theorem fr_X8_add (n : Nat) (S : St) (r : Int32) (S2 : St) (hf : f_X8_add n S = some (r, S2)) : Keeps (wr_X8_add) S S2 := by
  have hk : Keeps (wr_X8_add) S S := Keeps.rf
  unfold f_X8_add at hf
  obtain ⟨r_1, S_2, hc_3, hf⟩ := bo_inv hf
  have hk := hk.trans ((fr_X5_firstFault n _ _ _ _ hc_3).mono (by intro c h; unfold wr_X5_firstFault at h; unfold wr_X8_add; omega))
  rcases (Decidable.em (r_1 < (S_2.1 0 1))) with b_4 | b_4
  · have hf := if_t b_4 hf
    exact (rt_inv hf).2 ▸ hk
  · have hf := if_f b_4 hf
    obtain ⟨r_5, S_6, hc_7, hf⟩ := bo_inv hf
    have hk := hk.trans ((fr_X5_isComplete n _ _ _ hc_7).mono (fun _ h => False.elim h))
    rcases (Decidable.em (r_5 = 0)).symm with b_8 | b_8
    · have hf := if_f b_8 hf
      obtain ⟨r_9, S_10, hc_11, hf⟩ := bo_inv hf
      have hk := hk.trans ((fr_X3_size n _ _ _ hc_11).mono (fun _ h => False.elim h))
      rcases (Decidable.em (r_9 < (10 : Int32))) with b_12 | b_12
      · have hf := if_t b_12 hf
        obtain ⟨r_13, S_14, hc_15, hf⟩ := bo_inv hf
        have hk := hk.trans ((fr_X7_size n _ _ _ _ hc_15).mono (fun _ h => False.elim h))
        obtain ⟨x1_16, ex1_16, hf⟩ := bd_inv hf
        obtain ⟨r_17, S_18, hc_19, hf⟩ := bo_inv hf
        have hk := hk.trans ((fr_X5_buildIn n _ _ _ _ hc_19).mono (by intro c h; unfold wr_X5_buildIn at h; unfold wr_X8_add; omega))
        rcases (Decidable.em (r_17 = 0)).symm with b_20 | b_20
        · have hf := if_f b_20 hf
          obtain ⟨r_21, S_22, hc_23, hf⟩ := bo_inv hf
          have hk := hk.trans ((fr_X5_kind n _ _ _ hc_23).mono (fun _ h => False.elim h))
          obtain ⟨r_24, S_25, hc_26, hf⟩ := bo_inv hf
          have hk := hk.trans ((fr_X5_left n _ _ _ hc_26).mono (fun _ h => False.elim h))
          obtain ⟨r_27, S_28, hc_29, hf⟩ := bo_inv hf
          have hk := hk.trans ((fr_X5_right n _ _ _ hc_29).mono (fun _ h => False.elim h))
          obtain ⟨r_30, S_31, hc_32, hf⟩ := bo_inv hf
          have hk := hk.trans ((fr_X5_number n _ _ _ hc_32).mono (fun _ h => False.elim h))
          obtain ⟨r_33, S_34, hc_35, hf⟩ := bo_inv hf
          have hk := hk.trans ((fr_X3_append n _ _ _ _ _ _ _ hc_35).mono (by intro c h; unfold wr_X3_append at h; unfold wr_X8_add; omega))
          obtain ⟨S_36, eS_36, hf⟩ := bd_inv hf
          have hk := hk.trans (kpI eS_36 (by unfold wr_X8_add; omega))
          obtain ⟨S_37, eS_37, hf⟩ := bd_inv hf
          have hk := hk.trans (kpI eS_37 (by unfold wr_X8_add; omega))
          obtain ⟨r_38, S_39, hc_40, hf⟩ := bo_inv hf
          have hk := hk.trans ((fr_X8_forgetResults n _ _ _ hc_40).mono (by intro c h; unfold wr_X8_forgetResults at h; unfold wr_X8_add; omega))
          obtain ⟨r_41, S_42, hc_43, hf⟩ := bo_inv hf
          have hk := hk.trans ((fr_X3_size n _ _ _ hc_43).mono (fun _ h => False.elim h))
          exact (rt_inv hf).2 ▸ hk
        · have hf := if_t b_20 hf
          obtain ⟨r_44, S_45, hc_46, hf⟩ := bo_inv hf
          have hk := hk.trans ((fr_X7_shrinkTo n _ _ _ _ _ hc_46).mono (by intro c h; unfold wr_X7_shrinkTo at h; unfold wr_X8_add; omega))
          exact (rt_inv hf).2 ▸ hk
      · have hf := if_f b_12 hf
        exact (rt_inv hf).2 ▸ hk
    · have hf := if_t b_8 hf
      exact (rt_inv hf).2 ▸ hk
def wr_X8_numberAnew : Nat → Prop := fun c => c = 10 ∨ c = 6 ∨ c = 7 ∨ c = 8 ∨ c = 9
theorem fr_X8_numberAnew (n d : Nat) : ∀ (S : St) (a1 : Int32) (a2 : Int32) (r : Int32) (S2 : St), fixF (fun _ _ _ => none) (f_X8_numberAnew n) d S a1 a2 = some (r, S2) → Keeps (wr_X8_numberAnew) S S2 := by
  induction d with
  | zero => intro S a1 a2 r S2 hf; cases hf
  | succ d ih =>
  intro S a1 a2 r S2 hf
  generalize hkr : fixF (fun _ _ _ => none) (f_X8_numberAnew n) d = kr at ih
  have hf : f_X8_numberAnew n kr S a1 a2 = some (r, S2) := by rw [← hkr]; exact hf
  have hk : Keeps (wr_X8_numberAnew) S S := Keeps.rf
  obtain ⟨S0, hS0⟩ : ∃ S0, S0 = S := ⟨S, rfl⟩
  have hk : Keeps (wr_X8_numberAnew) S0 S := by rw [hS0]; exact hk
  suffices hh : Keeps (wr_X8_numberAnew) S0 S2 by rw [hS0] at hh; exact hh
  have j63 : ∀ (S : St) (x1 : Int32) (x3 : Int32) (x4 : Int32), f_X8_numberAnew_63 n kr S x1 x3 x4 = some (r, S2) → Keeps wr_X8_numberAnew S0 S → Keeps wr_X8_numberAnew S0 S2 := by
    intro S x1 x3 x4 hf hk
    unfold f_X8_numberAnew_63 at hf
    obtain ⟨r_1, S_2, hc_3, hf⟩ := bo_inv hf
    have hk := hk.trans ((fr_X7_kindOf n _ _ _ _ _ hc_3).mono (fun _ h => False.elim h))
    obtain ⟨r_4, S_5, hc_6, hf⟩ := bo_inv hf
    have hk := hk.trans ((fr_X7_numberFor n _ _ _ _ _ _ _ hc_6).mono (by intro c h; unfold wr_X7_numberFor at h; unfold wr_X8_numberAnew; omega))
    exact (rt_inv hf).2 ▸ hk
  unfold f_X8_numberAnew at hf
  rcases (Decidable.em (a1 < (5 : Int32))) with b_7 | b_7
  · have hf := if_t b_7 hf
    exact (rt_inv hf).2 ▸ hk
  · have hf := if_f b_7 hf
    rcases (Decidable.em (a2 ≤ (10 : Int32))) with b_8 | b_8
    · have hf := if_t b_8 hf
      obtain ⟨r_9, S_10, hc_11, hf⟩ := bo_inv hf
      have hk := hk.trans ((fr_X7_firstOf n _ _ _ _ _ hc_11).mono (fun _ h => False.elim h))
      obtain ⟨r_12, S_13, hc_14, hf⟩ := bo_inv hf
      have hk := hk.trans (ih _ _ _ _ _ hc_14)
      obtain ⟨x3_15, ex3_15, hf⟩ := bd_inv hf
      obtain ⟨x4_16, ex4_16, hf⟩ := bd_inv hf
      obtain ⟨r_17, S_18, hc_19, hf⟩ := bo_inv hf
      have hk := hk.trans ((fr_X7_kindOf n _ _ _ _ _ hc_19).mono (fun _ h => False.elim h))
      rcases (Decidable.em (r_17 = (2 : Int32))).symm with b_20 | b_20
      · have hf := if_f b_20 hf
        exact j63   S_18 a1 x3_15 x4_16 hf hk
      · have hf := if_t b_20 hf
        obtain ⟨r_21, S_22, hc_23, hf⟩ := bo_inv hf
        have hk := hk.trans ((fr_X7_secondOf n _ _ _ _ _ hc_23).mono (fun _ h => False.elim h))
        obtain ⟨r_24, S_25, hc_26, hf⟩ := bo_inv hf
        have hk := hk.trans (ih _ _ _ _ _ hc_26)
        obtain ⟨x4_27, ex4_27, hf⟩ := bd_inv hf
        exact j63   S_25 a1 x3_15 x4_27 hf hk
    · have hf := if_f b_8 hf
      exact (rt_inv hf).2 ▸ hk
def wr_X8_numberTermsAnew : Nat → Prop := fun c => c = 10 ∨ c = 11 ∨ c = 12 ∨ c = 13 ∨ c = 14 ∨ c = 15 ∨ c = 18 ∨ c = 19 ∨ c = 6 ∨ c = 7 ∨ c = 8 ∨ c = 9
theorem fr_X8_numberTermsAnew (n : Nat) (S : St) (r : Unit) (S2 : St) (hf : f_X8_numberTermsAnew n S = some (r, S2)) : Keeps (wr_X8_numberTermsAnew) S S2 := by
  have hk : Keeps (wr_X8_numberTermsAnew) S S := Keeps.rf
  obtain ⟨S0, hS0⟩ : ∃ S0, S0 = S := ⟨S, rfl⟩
  have hk : Keeps (wr_X8_numberTermsAnew) S0 S := by rw [hS0]; exact hk
  suffices hh : Keeps (wr_X8_numberTermsAnew) S0 S2 by rw [hS0] at hh; exact hh
  have b21 : ∀ (k21 : St → Int32 → Option (Unit × St)) (hk21 : ∀ (S : St) (x1 : Int32), k21 S x1 = some (r, S2) → Keeps wr_X8_numberTermsAnew S0 S → Keeps wr_X8_numberTermsAnew S0 S2), ∀ (S : St) (x1 : Int32), f_X8_numberTermsAnew_21 n k21 S x1 = some (r, S2) → Keeps wr_X8_numberTermsAnew S0 S → Keeps wr_X8_numberTermsAnew S0 S2 := by
    intro k21 hk21 S x1 hf hk
    unfold f_X8_numberTermsAnew_21 at hf
    obtain ⟨r_1, S_2, hc_3, hf⟩ := bo_inv hf
    have hk := hk.trans ((fr_X3_size n _ _ _ hc_3).mono (fun _ h => False.elim h))
    rcases (Decidable.em (r_1 ≤ x1)) with b_4 | b_4
    · have hf := if_t b_4 hf
      exact (rt_inv hf).2 ▸ hk
    · have hf := if_f b_4 hf
      obtain ⟨r_5, S_6, hc_7, hf⟩ := bo_inv hf
      have hk := hk.trans ((fr_X3_leftOf n _ _ _ _ hc_7).mono (fun _ h => False.elim h))
      obtain ⟨r_8, S_9, hc_10, hf⟩ := bo_inv hf
      have hk := hk.trans ((fr_X8_numberAnew n 13 _ _ _ _ _ hc_10).mono (by intro c h; unfold wr_X8_numberAnew at h; unfold wr_X8_numberTermsAnew; omega))
      obtain ⟨x2_11, ex2_11, hf⟩ := bd_inv hf
      obtain ⟨r_12, S_13, hc_14, hf⟩ := bo_inv hf
      have hk := hk.trans ((fr_X3_rightOf n _ _ _ _ hc_14).mono (fun _ h => False.elim h))
      obtain ⟨r_15, S_16, hc_17, hf⟩ := bo_inv hf
      have hk := hk.trans ((fr_X8_numberAnew n 13 _ _ _ _ _ hc_17).mono (by intro c h; unfold wr_X8_numberAnew at h; unfold wr_X8_numberTermsAnew; omega))
      obtain ⟨x3_18, ex3_18, hf⟩ := bd_inv hf
      obtain ⟨r_19, S_20, hc_21, hf⟩ := bo_inv hf
      have hk := hk.trans ((fr_X3_setTerms n _ _ _ _ _ _ hc_21).mono (by intro c h; unfold wr_X3_setTerms at h; unfold wr_X8_numberTermsAnew; omega))
      obtain ⟨x1_22, ex1_22, hf⟩ := bd_inv hf
      exact hk21 S_20 x1_22 hf hk
  have j21 : ∀ (d : Nat), ∀ (S : St) (x1 : Int32), fixF (fun _ _ => none) (f_X8_numberTermsAnew_21 n) d S x1 = some (r, S2) → Keeps wr_X8_numberTermsAnew S0 S → Keeps wr_X8_numberTermsAnew S0 S2 := by
    intro   d
    induction d with
    | zero => intro S x1 hf hk; cases hf
    | succ d ih => exact b21   (fixF (fun _ _ => none) (f_X8_numberTermsAnew_21 n) d) ih
  unfold f_X8_numberTermsAnew at hf
  obtain ⟨r_23, S_24, hc_25, hf⟩ := bo_inv hf
  have hk := hk.trans ((fr_X7_copyFrom n _ _ _ _ _ hc_25).mono (by intro c h; unfold wr_X7_copyFrom at h; unfold wr_X8_numberTermsAnew; omega))
  obtain ⟨r_26, S_27, hc_28, hf⟩ := bo_inv hf
  have hk := hk.trans ((fr_X7_shrinkTo n _ _ _ _ _ hc_28).mono (by intro c h; unfold wr_X7_shrinkTo at h; unfold wr_X8_numberTermsAnew; omega))
  obtain ⟨x1_29, ex1_29, hf⟩ := bd_inv hf
  exact j21   n S_27 x1_29 hf hk
def wr_X8_drop : Nat → Prop := fun c => c = 0 ∨ c = 10 ∨ c = 11 ∨ c = 12 ∨ c = 13 ∨ c = 14 ∨ c = 15 ∨ c = 16 ∨ c = 17 ∨ c = 18 ∨ c = 19 ∨ c = 20 ∨ c = 6 ∨ c = 7 ∨ c = 8 ∨ c = 9
theorem fr_X8_drop (n : Nat) (S : St) (a1 : Int32) (r : Int32) (S2 : St) (hf : f_X8_drop n S a1 = some (r, S2)) : Keeps (wr_X8_drop) S S2 := by
  have hk : Keeps (wr_X8_drop) S S := Keeps.rf
  unfold f_X8_drop at hf
  obtain ⟨r_1, S_2, hc_3, hf⟩ := bo_inv hf
  have hk := hk.trans ((fr_X3_has n _ _ _ _ hc_3).mono (fun _ h => False.elim h))
  rcases (Decidable.em (r_1 = 0)).symm with b_4 | b_4
  · have hf := if_f b_4 hf
    obtain ⟨r_5, S_6, hc_7, hf⟩ := bo_inv hf
    have hk := hk.trans ((fr_X3_removeAt n _ _ _ _ hc_7).mono (by intro c h; unfold wr_X3_removeAt at h; unfold wr_X8_drop; omega))
    obtain ⟨r_8, S_9, hc_10, hf⟩ := bo_inv hf
    have hk := hk.trans ((fr_X8_numberTermsAnew n _ _ _ hc_10).mono (by intro c h; unfold wr_X8_numberTermsAnew at h; unfold wr_X8_drop; omega))
    obtain ⟨S_11, eS_11, hf⟩ := bd_inv hf
    have hk := hk.trans (kpI eS_11 (by unfold wr_X8_drop; omega))
    obtain ⟨r_12, S_13, hc_14, hf⟩ := bo_inv hf
    have hk := hk.trans ((fr_X8_forgetResults n _ _ _ hc_14).mono (by intro c h; unfold wr_X8_forgetResults at h; unfold wr_X8_drop; omega))
    obtain ⟨r_15, S_16, hc_17, hf⟩ := bo_inv hf
    have hk := hk.trans ((fr_X3_size n _ _ _ hc_17).mono (fun _ h => False.elim h))
    exact (rt_inv hf).2 ▸ hk
  · have hf := if_t b_4 hf
    exact (rt_inv hf).2 ▸ hk
def wr_X8_isGreat : Nat → Prop := fun c => False
theorem fr_X8_isGreat (n : Nat) (S : St) (a0 : Int64) (r : Int32) (S2 : St) (hf : f_X8_isGreat n S a0 = some (r, S2)) : Keeps (wr_X8_isGreat) S S2 := by
  have hk : Keeps (wr_X8_isGreat) S S := Keeps.rf
  obtain ⟨S0, hS0⟩ : ∃ S0, S0 = S := ⟨S, rfl⟩
  have hk : Keeps (wr_X8_isGreat) S0 S := by rw [hS0]; exact hk
  suffices hh : Keeps (wr_X8_isGreat) S0 S2 by rw [hS0] at hh; exact hh
  have j16 : ∀ (S : St), f_X8_isGreat_16 n S = some (r, S2) → Keeps wr_X8_isGreat S0 S → Keeps wr_X8_isGreat S0 S2 := by
    intro S hf hk
    unfold f_X8_isGreat_16 at hf
    exact (rt_inv hf).2 ▸ hk
  unfold f_X8_isGreat at hf
  rcases (Decidable.em (0 < (lg_cmp a0 (2000000000 : Int64)))) with b_1 | b_1
  · have hf := if_t b_1 hf
    exact j16   S  hf hk
  · have hf := if_f b_1 hf
    rcases (Decidable.em (0 ≤ (lg_cmp a0 (-2000000000 : Int64)))) with b_2 | b_2
    · have hf := if_t b_2 hf
      exact (rt_inv hf).2 ▸ hk
    · have hf := if_f b_2 hf
      exact j16   S  hf hk
def wr_X8_scale : Nat → Prop := fun c => c = 0 ∨ c = 20
theorem fr_X8_scale (n : Nat) (S : St) (a1 : Int32) (r : Int32) (S2 : St) (hf : f_X8_scale n S a1 = some (r, S2)) : Keeps (wr_X8_scale) S S2 := by
  have hk : Keeps (wr_X8_scale) S S := Keeps.rf
  obtain ⟨S0, hS0⟩ : ∃ S0, S0 = S := ⟨S, rfl⟩
  have hk : Keeps (wr_X8_scale) S0 S := by rw [hS0]; exact hk
  suffices hh : Keeps (wr_X8_scale) S0 S2 by rw [hS0] at hh; exact hh
  have j110 : ∀ (x1 : Int32) (k61 : St → Int32 → Int32 → Option (Int32 × St)) (hk61 : ∀ (S : St) (x2 : Int32) (x3 : Int32), k61 S x2 x3 = some (r, S2) → Keeps wr_X8_scale S0 S → Keeps wr_X8_scale S0 S2), ∀ (S : St) (x2 : Int32) (x3 : Int32), f_X8_scale_110 n x1 k61 S x2 x3 = some (r, S2) → Keeps wr_X8_scale S0 S → Keeps wr_X8_scale S0 S2 := by
    intro x1 k61 hk61 S x2 x3 hf hk
    unfold f_X8_scale_110 at hf
    obtain ⟨x3_1, ex3_1, hf⟩ := bd_inv hf
    exact hk61 S x2 x3_1 hf hk
  have b61 : ∀ (x1 : Int32) (k61 : St → Int32 → Int32 → Option (Int32 × St)) (hk61 : ∀ (S : St) (x2 : Int32) (x3 : Int32), k61 S x2 x3 = some (r, S2) → Keeps wr_X8_scale S0 S → Keeps wr_X8_scale S0 S2), ∀ (S : St) (x2 : Int32) (x3 : Int32), f_X8_scale_61 n x1 k61 S x2 x3 = some (r, S2) → Keeps wr_X8_scale S0 S → Keeps wr_X8_scale S0 S2 := by
    intro x1 k61 hk61 S x2 x3 hf hk
    unfold f_X8_scale_61 at hf
    obtain ⟨r_2, S_3, hc_4, hf⟩ := bo_inv hf
    have hk := hk.trans ((fr_X3_size n _ _ _ hc_4).mono (fun _ h => False.elim h))
    rcases (Decidable.em (r_2 ≤ x3)) with b_5 | b_5
    · have hf := if_t b_5 hf
      obtain ⟨r_6, S_7, hc_8, hf⟩ := bo_inv hf
      have hk := hk.trans ((fr_X8_forgetResults n _ _ _ hc_8).mono (by intro c h; unfold wr_X8_forgetResults at h; unfold wr_X8_scale; omega))
      exact (rt_inv hf).2 ▸ hk
    · have hf := if_f b_5 hf
      obtain ⟨r_9, S_10, hc_11, hf⟩ := bo_inv hf
      have hk := hk.trans ((fr_X3_numberOf n _ _ _ _ hc_11).mono (fun _ h => False.elim h))
      obtain ⟨x4_12, ex4_12, hf⟩ := bd_inv hf
      obtain ⟨r_13, S_14, hc_15, hf⟩ := bo_inv hf
      have hk := hk.trans ((fr_X3_numberOf n _ _ _ _ hc_15).mono (fun _ h => False.elim h))
      rcases (Decidable.em (x4_12 = r_13)) with b_16 | b_16
      · have hf := if_t b_16 hf
        exact j110 x1 k61 hk61 S_14 x2 x3 hf hk
      · have hf := if_f b_16 hf
        obtain ⟨r_17, S_18, hc_19, hf⟩ := bo_inv hf
        have hk := hk.trans ((fr_X3_setNumber n _ _ _ _ _ hc_19).mono (by intro c h; unfold wr_X3_setNumber at h; unfold wr_X8_scale; omega))
        obtain ⟨x2_20, ex2_20, hf⟩ := bd_inv hf
        exact j110 x1 k61 hk61 S_18 x2_20 x3 hf hk
  have j61 : ∀ (x1 : Int32) (d : Nat), ∀ (S : St) (x2 : Int32) (x3 : Int32), fixF (fun _ _ _ => none) (f_X8_scale_61 n x1) d S x2 x3 = some (r, S2) → Keeps wr_X8_scale S0 S → Keeps wr_X8_scale S0 S2 := by
    intro x1  d
    induction d with
    | zero => intro S x2 x3 hf hk; cases hf
    | succ d ih => exact b61 x1  (fixF (fun _ _ _ => none) (f_X8_scale_61 n x1) d) ih
  have b19 : ∀ (x1 : Int32) (k19 : St → Int32 → Option (Int32 × St)) (hk19 : ∀ (S : St) (x2 : Int32), k19 S x2 = some (r, S2) → Keeps wr_X8_scale S0 S → Keeps wr_X8_scale S0 S2), ∀ (S : St) (x2 : Int32), f_X8_scale_19 n x1 k19 S x2 = some (r, S2) → Keeps wr_X8_scale S0 S → Keeps wr_X8_scale S0 S2 := by
    intro x1 k19 hk19 S x2 hf hk
    unfold f_X8_scale_19 at hf
    obtain ⟨r_21, S_22, hc_23, hf⟩ := bo_inv hf
    have hk := hk.trans ((fr_X3_size n _ _ _ hc_23).mono (fun _ h => False.elim h))
    rcases (Decidable.em (r_21 ≤ x2)) with b_24 | b_24
    · have hf := if_t b_24 hf
      obtain ⟨x2_25, ex2_25, hf⟩ := bd_inv hf
      obtain ⟨x3_26, ex3_26, hf⟩ := bd_inv hf
      exact j61 x1  n S_22 x2_25 x3_26 hf hk
    · have hf := if_f b_24 hf
      obtain ⟨r_27, S_28, hc_29, hf⟩ := bo_inv hf
      have hk := hk.trans ((fr_X3_numberOf n _ _ _ _ hc_29).mono (fun _ h => False.elim h))
      obtain ⟨r_30, S_31, hc_32, hf⟩ := bo_inv hf
      have hk := hk.trans ((fr_X8_isGreat n _ _ _ _ hc_32).mono (fun _ h => False.elim h))
      rcases (Decidable.em (r_30 = 0)) with b_33 | b_33
      · have hf := if_t b_33 hf
        obtain ⟨x2_34, ex2_34, hf⟩ := bd_inv hf
        exact hk19 S_31 x2_34 hf hk
      · have hf := if_f b_33 hf
        exact (rt_inv hf).2 ▸ hk
  have j19 : ∀ (x1 : Int32) (d : Nat), ∀ (S : St) (x2 : Int32), fixF (fun _ _ => none) (f_X8_scale_19 n x1) d S x2 = some (r, S2) → Keeps wr_X8_scale S0 S → Keeps wr_X8_scale S0 S2 := by
    intro x1  d
    induction d with
    | zero => intro S x2 hf hk; cases hf
    | succ d ih => exact b19 x1  (fixF (fun _ _ => none) (f_X8_scale_19 n x1) d) ih
  unfold f_X8_scale at hf
  rcases (Decidable.em (a1 < (-1000 : Int32))) with b_35 | b_35
  · have hf := if_t b_35 hf
    exact (rt_inv hf).2 ▸ hk
  · have hf := if_f b_35 hf
    rcases (Decidable.em (a1 ≤ (1000 : Int32))) with b_36 | b_36
    · have hf := if_t b_36 hf
      obtain ⟨x2_37, ex2_37, hf⟩ := bd_inv hf
      exact j19 a1  n S x2_37 hf hk
    · have hf := if_f b_36 hf
      exact (rt_inv hf).2 ▸ hk
def wr_X8_literal : Nat → Prop := fun c => False
theorem fr_X8_literal (n : Nat) (S : St) (a1 : Int32) (a2 : Int32) (r : Int32) (S2 : St) (hf : f_X8_literal n S a1 a2 = some (r, S2)) : Keeps (wr_X8_literal) S S2 := by
  have hk : Keeps (wr_X8_literal) S S := Keeps.rf
  unfold f_X8_literal at hf
  obtain ⟨r_1, S_2, hc_3, hf⟩ := bo_inv hf
  have hk := hk.trans ((fr_X3_has n _ _ _ _ hc_3).mono (fun _ h => False.elim h))
  rcases (Decidable.em (r_1 = 0)).symm with b_4 | b_4
  · have hf := if_f b_4 hf
    by_cases b_5 : a2 = (0 : Int32)
    · have hf := if_t b_5 hf
      obtain ⟨r_6, S_7, hc_8, hf⟩ := bo_inv hf
      have hk := hk.trans ((fr_X3_kindOf n _ _ _ _ hc_8).mono (fun _ h => False.elim h))
      exact (rt_inv hf).2 ▸ hk
    · have hf := if_f b_5 hf
      by_cases b_9 : a2 = (1 : Int32)
      · have hf := if_t b_9 hf
        obtain ⟨r_10, S_11, hc_12, hf⟩ := bo_inv hf
        have hk := hk.trans ((fr_X3_leftOf n _ _ _ _ hc_12).mono (fun _ h => False.elim h))
        exact (rt_inv hf).2 ▸ hk
      · have hf := if_f b_9 hf
        by_cases b_13 : a2 = (2 : Int32)
        · have hf := if_t b_13 hf
          obtain ⟨r_14, S_15, hc_16, hf⟩ := bo_inv hf
          have hk := hk.trans ((fr_X3_rightOf n _ _ _ _ hc_16).mono (fun _ h => False.elim h))
          exact (rt_inv hf).2 ▸ hk
        · have hf := if_f b_13 hf
          by_cases b_17 : a2 = (3 : Int32)
          · have hf := if_t b_17 hf
            obtain ⟨r_18, S_19, hc_20, hf⟩ := bo_inv hf
            have hk := hk.trans ((fr_X3_numberOf n _ _ _ _ hc_20).mono (fun _ h => False.elim h))
            exact (rt_inv hf).2 ▸ hk
          · have hf := if_f b_17 hf
            exact (rt_inv hf).2 ▸ hk
  · have hf := if_t b_4 hf
    exact (rt_inv hf).2 ▸ hk
def wr_X8_ensureExchanged : Nat → Prop := fun c => c = 0 ∨ c = 121 ∨ c = 21 ∨ c = 22
theorem fr_X8_ensureExchanged (n : Nat) (S : St) (r : Unit) (S2 : St) (hf : f_X8_ensureExchanged n S = some (r, S2)) : Keeps (wr_X8_ensureExchanged) S S2 := by
  have hk : Keeps (wr_X8_ensureExchanged) S S := Keeps.rf
  unfold f_X8_ensureExchanged at hf
  rcases (Decidable.em ((S.1 0 12) = 0)).symm with b_1 | b_1
  · have hf := if_f b_1 hf
    exact (rt_inv hf).2 ▸ hk
  · have hf := if_t b_1 hf
    obtain ⟨r_2, S_3, hc_4, hf⟩ := bo_inv hf
    have hk := hk.trans ((fr_X2_run n _ _ _ hc_4).mono (by intro c h; unfold wr_X2_run at h; unfold wr_X8_ensureExchanged; omega))
    obtain ⟨S_5, eS_5, hf⟩ := bd_inv hf
    have hk := hk.trans (kpI eS_5 (by unfold wr_X8_ensureExchanged; omega))
    exact (rt_inv hf).2 ▸ hk
def wr_X8_term : Nat → Prop := fun c => c = 0 ∨ c = 121 ∨ c = 21 ∨ c = 22
theorem fr_X8_term (n : Nat) (S : St) (a1 : Int32) (a2 : Int32) (r : Int32) (S2 : St) (hf : f_X8_term n S a1 a2 = some (r, S2)) : Keeps (wr_X8_term) S S2 := by
  have hk : Keeps (wr_X8_term) S S := Keeps.rf
  unfold f_X8_term at hf
  obtain ⟨r_1, S_2, hc_3, hf⟩ := bo_inv hf
  have hk := hk.trans ((fr_X7_has n _ _ _ _ _ hc_3).mono (fun _ h => False.elim h))
  rcases (Decidable.em (r_1 = 0)).symm with b_4 | b_4
  · have hf := if_f b_4 hf
    by_cases b_5 : a2 = (0 : Int32)
    · have hf := if_t b_5 hf
      obtain ⟨r_6, S_7, hc_8, hf⟩ := bo_inv hf
      have hk := hk.trans ((fr_X7_kindOf n _ _ _ _ _ hc_8).mono (fun _ h => False.elim h))
      exact (rt_inv hf).2 ▸ hk
    · have hf := if_f b_5 hf
      by_cases b_9 : a2 = (1 : Int32)
      · have hf := if_t b_9 hf
        obtain ⟨r_10, S_11, hc_12, hf⟩ := bo_inv hf
        have hk := hk.trans ((fr_X7_firstOf n _ _ _ _ _ hc_12).mono (fun _ h => False.elim h))
        exact (rt_inv hf).2 ▸ hk
      · have hf := if_f b_9 hf
        by_cases b_13 : a2 = (2 : Int32)
        · have hf := if_t b_13 hf
          obtain ⟨r_14, S_15, hc_16, hf⟩ := bo_inv hf
          have hk := hk.trans ((fr_X7_secondOf n _ _ _ _ _ hc_16).mono (fun _ h => False.elim h))
          exact (rt_inv hf).2 ▸ hk
        · have hf := if_f b_13 hf
          by_cases b_17 : a2 = (3 : Int32)
          · have hf := if_t b_17 hf
            obtain ⟨r_18, S_19, hc_20, hf⟩ := bo_inv hf
            have hk := hk.trans ((fr_X7_lengthOf n _ _ _ _ _ hc_20).mono (fun _ h => False.elim h))
            exact (rt_inv hf).2 ▸ hk
          · have hf := if_f b_17 hf
            by_cases b_21 : a2 = (4 : Int32)
            · have hf := if_t b_21 hf
              obtain ⟨r_22, S_23, hc_24, hf⟩ := bo_inv hf
              have hk := hk.trans ((fr_X8_ensureExchanged n _ _ _ hc_24).mono (by intro c h; unfold wr_X8_ensureExchanged at h; unfold wr_X8_term; omega))
              obtain ⟨r_25, S_26, hc_27, hf⟩ := bo_inv hf
              have hk := hk.trans ((fr_X2_smallestSame n _ _ _ _ hc_27).mono (fun _ h => False.elim h))
              exact (rt_inv hf).2 ▸ hk
            · have hf := if_f b_21 hf
              by_cases b_28 : a2 = (5 : Int32)
              · have hf := if_t b_28 hf
                obtain ⟨r_29, S_30, hc_31, hf⟩ := bo_inv hf
                have hk := hk.trans ((fr_X3_howManyHave n _ _ _ _ hc_31).mono (fun _ h => False.elim h))
                exact (rt_inv hf).2 ▸ hk
              · have hf := if_f b_28 hf
                exact (rt_inv hf).2 ▸ hk
  · have hf := if_t b_4 hf
    exact (rt_inv hf).2 ▸ hk
def wr_X8_exchange : Nat → Prop := fun c => c = 0 ∨ c = 121 ∨ c = 21 ∨ c = 22
theorem fr_X8_exchange (n : Nat) (S : St) (a1 : Int32) (r : Int32) (S2 : St) (hf : f_X8_exchange n S a1 = some (r, S2)) : Keeps (wr_X8_exchange) S S2 := by
  have hk : Keeps (wr_X8_exchange) S S := Keeps.rf
  unfold f_X8_exchange at hf
  rcases (Decidable.em (a1 < 0)) with b_1 | b_1
  · have hf := if_t b_1 hf
    exact (rt_inv hf).2 ▸ hk
  · have hf := if_f b_1 hf
    rcases (Decidable.em (a1 ≤ (2 : Int32))) with b_2 | b_2
    · have hf := if_t b_2 hf
      obtain ⟨r_3, S_4, hc_5, hf⟩ := bo_inv hf
      have hk := hk.trans ((fr_X8_ensureExchanged n _ _ _ hc_5).mono (by intro c h; unfold wr_X8_ensureExchanged at h; unfold wr_X8_exchange; omega))
      by_cases b_6 : a1 = (0 : Int32)
      · have hf := if_t b_6 hf
        obtain ⟨r_7, S_8, hc_9, hf⟩ := bo_inv hf
        have hk := hk.trans ((fr_X2_hasConflict n _ _ _ hc_9).mono (fun _ h => False.elim h))
        rcases (Decidable.em (r_7 = 0)) with b_10 | b_10
        · have hf := if_t b_10 hf
          exact (rt_inv hf).2 ▸ hk
        · have hf := if_f b_10 hf
          exact (rt_inv hf).2 ▸ hk
      · have hf := if_f b_6 hf
        by_cases b_11 : a1 = (1 : Int32)
        · have hf := if_t b_11 hf
          obtain ⟨r_12, S_13, hc_14, hf⟩ := bo_inv hf
          have hk := hk.trans ((fr_X2_rounds n _ _ _ hc_14).mono (fun _ h => False.elim h))
          exact (rt_inv hf).2 ▸ hk
        · have hf := if_f b_11 hf
          obtain ⟨r_15, S_16, hc_17, hf⟩ := bo_inv hf
          have hk := hk.trans ((fr_X2_classes n _ _ _ hc_17).mono (fun _ h => False.elim h))
          exact (rt_inv hf).2 ▸ hk
    · have hf := if_f b_2 hf
      exact (rt_inv hf).2 ▸ hk
def wr_X8_asAnswer : Nat → Prop := fun c => False
theorem fr_X8_asAnswer (n : Nat) (S : St) (a0 : Int64) (r : Int32) (S2 : St) (hf : f_X8_asAnswer n S a0 = some (r, S2)) : Keeps (wr_X8_asAnswer) S S2 := by
  have hk : Keeps (wr_X8_asAnswer) S S := Keeps.rf
  unfold f_X8_asAnswer at hf
  rcases (Decidable.em ((lg_cmp a0 (1000000000000000 : Int64)) = 0)).symm with b_1 | b_1
  · have hf := if_f b_1 hf
    obtain ⟨r_2, S_3, hc_4, hf⟩ := bo_inv hf
    have hk := hk.trans ((fr_X8_isGreat n _ _ _ _ hc_4).mono (fun _ h => False.elim h))
    rcases (Decidable.em (r_2 = 0)) with b_5 | b_5
    · have hf := if_t b_5 hf
      exact (rt_inv hf).2 ▸ hk
    · have hf := if_f b_5 hf
      exact (rt_inv hf).2 ▸ hk
  · have hf := if_t b_1 hf
    exact (rt_inv hf).2 ▸ hk
def wr_X8_far : Nat → Prop := fun c => c = 0 ∨ c = 121 ∨ c = 21 ∨ c = 22
theorem fr_X8_far (n : Nat) (S : St) (a1 : Int32) (a2 : Int32) (r : Int32) (S2 : St) (hf : f_X8_far n S a1 a2 = some (r, S2)) : Keeps (wr_X8_far) S S2 := by
  have hk : Keeps (wr_X8_far) S S := Keeps.rf
  unfold f_X8_far at hf
  obtain ⟨r_1, S_2, hc_3, hf⟩ := bo_inv hf
  have hk := hk.trans ((fr_X7_has n _ _ _ _ _ hc_3).mono (fun _ h => False.elim h))
  rcases (Decidable.em (r_1 = 0)) with b_4 | b_4
  · have hf := if_t b_4 hf
    exact (rt_inv hf).2 ▸ hk
  · have hf := if_f b_4 hf
    obtain ⟨r_5, S_6, hc_7, hf⟩ := bo_inv hf
    have hk := hk.trans ((fr_X7_has n _ _ _ _ _ hc_7).mono (fun _ h => False.elim h))
    rcases (Decidable.em (r_5 = 0)).symm with b_8 | b_8
    · have hf := if_f b_8 hf
      obtain ⟨r_9, S_10, hc_11, hf⟩ := bo_inv hf
      have hk := hk.trans ((fr_X8_ensureExchanged n _ _ _ hc_11).mono (by intro c h; unfold wr_X8_ensureExchanged at h; unfold wr_X8_far; omega))
      obtain ⟨r_12, S_13, hc_14, hf⟩ := bo_inv hf
      have hk := hk.trans ((fr_X2_hasConflict n _ _ _ hc_14).mono (fun _ h => False.elim h))
      rcases (Decidable.em (r_12 = 0)) with b_15 | b_15
      · have hf := if_t b_15 hf
        obtain ⟨r_16, S_17, hc_18, hf⟩ := bo_inv hf
        have hk := hk.trans ((fr_X2_distance n _ _ _ _ _ hc_18).mono (fun _ h => False.elim h))
        obtain ⟨r_19, S_20, hc_21, hf⟩ := bo_inv hf
        have hk := hk.trans ((fr_X8_asAnswer n _ _ _ _ hc_21).mono (fun _ h => False.elim h))
        exact (rt_inv hf).2 ▸ hk
      · have hf := if_f b_15 hf
        exact (rt_inv hf).2 ▸ hk
    · have hf := if_t b_8 hf
      exact (rt_inv hf).2 ▸ hk
def wr_X8_isSolvable : Nat → Prop := fun c => 50 ≤ c ∨ 97 ≤ c ∨ c = 0 ∨ c = 120 ∨ c = 23
theorem fr_X8_isSolvable (n : Nat) (S : St) (r : Int32) (S2 : St) (hf : f_X8_isSolvable n S = some (r, S2)) : Keeps (wr_X8_isSolvable) S S2 := by
  have hk : Keeps (wr_X8_isSolvable) S S := Keeps.rf
  unfold f_X8_isSolvable at hf
  rcases (Decidable.em ((S.1 0 13) = 0)).symm with b_1 | b_1
  · have hf := if_f b_1 hf
    obtain ⟨g_2, hf⟩ := gd_inv hf
    exact (rt_inv hf).2 ▸ hk
  · have hf := if_t b_1 hf
    obtain ⟨r_3, S_4, hc_5, hf⟩ := bo_inv hf
    have hk := hk.trans ((fr_X3_all n _ _ _ hc_5).mono (fun _ h => False.elim h))
    obtain ⟨r_6, S_7, hc_8, hf⟩ := bo_inv hf
    have hk := hk.trans ((fr_X6_load n _ _ _ _ hc_8).mono (by intro c h; unfold wr_X6_load at h; unfold wr_X8_isSolvable; omega))
    obtain ⟨r_9, S_10, hc_11, hf⟩ := bo_inv hf
    have hk := hk.trans ((fr_X6_hasSolution n _ _ _ hc_11).mono (by intro c h; unfold wr_X6_hasSolution at h; unfold wr_X8_isSolvable; omega))
    obtain ⟨g_13, hf⟩ := gd_inv hf
    obtain ⟨S_12, eS_12, hf⟩ := bd_inv hf
    have hk := hk.trans (kpI eS_12 (by unfold wr_X8_isSolvable; omega))
    obtain ⟨S_14, eS_14, hf⟩ := bd_inv hf
    have hk := hk.trans (kpI eS_14 (by unfold wr_X8_isSolvable; omega))
    obtain ⟨g_15, hf⟩ := gd_inv hf
    exact (rt_inv hf).2 ▸ hk
def wr_X8_holds : Nat → Prop := fun c => 50 ≤ c ∨ 97 ≤ c ∨ c = 0 ∨ c = 120 ∨ c = 23
theorem fr_X8_holds (n : Nat) (S : St) (r : Int32) (S2 : St) (hf : f_X8_holds n S = some (r, S2)) : Keeps (wr_X8_holds) S S2 := by
  have hk : Keeps (wr_X8_holds) S S := Keeps.rf
  unfold f_X8_holds at hf
  obtain ⟨r_1, S_2, hc_3, hf⟩ := bo_inv hf
  have hk := hk.trans ((fr_X8_isSolvable n _ _ _ hc_3).mono (by intro c h; unfold wr_X8_isSolvable at h; unfold wr_X8_holds; omega))
  rcases (Decidable.em (r_1 = 0)) with b_4 | b_4
  · have hf := if_t b_4 hf
    exact (rt_inv hf).2 ▸ hk
  · have hf := if_f b_4 hf
    exact (rt_inv hf).2 ▸ hk
def wr_X8_apart : Nat → Prop := fun c => 50 ≤ c ∨ 97 ≤ c ∨ c = 0 ∨ c = 120 ∨ c = 23
theorem fr_X8_apart (n : Nat) (S : St) (a1 : Int32) (a2 : Int32) (r : Int32) (S2 : St) (hf : f_X8_apart n S a1 a2 = some (r, S2)) : Keeps (wr_X8_apart) S S2 := by
  have hk : Keeps (wr_X8_apart) S S := Keeps.rf
  unfold f_X8_apart at hf
  obtain ⟨r_1, S_2, hc_3, hf⟩ := bo_inv hf
  have hk := hk.trans ((fr_X7_has n _ _ _ _ _ hc_3).mono (fun _ h => False.elim h))
  rcases (Decidable.em (r_1 = 0)) with b_4 | b_4
  · have hf := if_t b_4 hf
    exact (rt_inv hf).2 ▸ hk
  · have hf := if_f b_4 hf
    obtain ⟨r_5, S_6, hc_7, hf⟩ := bo_inv hf
    have hk := hk.trans ((fr_X7_has n _ _ _ _ _ hc_7).mono (fun _ h => False.elim h))
    rcases (Decidable.em (r_5 = 0)).symm with b_8 | b_8
    · have hf := if_f b_8 hf
      obtain ⟨r_9, S_10, hc_11, hf⟩ := bo_inv hf
      have hk := hk.trans ((fr_X8_isSolvable n _ _ _ hc_11).mono (by intro c h; unfold wr_X8_isSolvable at h; unfold wr_X8_apart; omega))
      rcases (Decidable.em (r_9 = 0)).symm with b_12 | b_12
      · have hf := if_f b_12 hf
        obtain ⟨r_13, S_14, hc_15, hf⟩ := bo_inv hf
        have hk := hk.trans ((fr_X3_all n _ _ _ hc_15).mono (fun _ h => False.elim h))
        obtain ⟨r_16, S_17, hc_18, hf⟩ := bo_inv hf
        have hk := hk.trans ((fr_X6_load n _ _ _ _ hc_18).mono (by intro c h; unfold wr_X6_load at h; unfold wr_X8_apart; omega))
        obtain ⟨r_19, S_20, hc_21, hf⟩ := bo_inv hf
        have hk := hk.trans ((fr_X6_aimAt n _ _ _ _ _ hc_21).mono (by intro c h; unfold wr_X6_aimAt at h; unfold wr_X8_apart; omega))
        obtain ⟨r_22, S_23, hc_24, hf⟩ := bo_inv hf
        have hk := hk.trans ((fr_X6_hasSolution n _ _ _ hc_24).mono (by intro c h; unfold wr_X6_hasSolution at h; unfold wr_X8_apart; omega))
        rcases (Decidable.em (r_22 = 0)) with b_25 | b_25
        · have hf := if_t b_25 hf
          exact (rt_inv hf).2 ▸ hk
        · have hf := if_f b_25 hf
          obtain ⟨r_26, S_27, hc_28, hf⟩ := bo_inv hf
          have hk := hk.trans ((fr_X6_greatest n _ _ _ hc_28).mono (fun _ h => False.elim h))
          obtain ⟨r_29, S_30, hc_31, hf⟩ := bo_inv hf
          have hk := hk.trans ((fr_X8_asAnswer n _ _ _ _ hc_31).mono (fun _ h => False.elim h))
          exact (rt_inv hf).2 ▸ hk
      · have hf := if_t b_12 hf
        exact (rt_inv hf).2 ▸ hk
    · have hf := if_t b_8 hf
      exact (rt_inv hf).2 ▸ hk
def wr_X8_implied : Nat → Prop := fun c => 50 ≤ c ∨ 97 ≤ c ∨ c = 0 ∨ c = 120 ∨ c = 23
theorem fr_X8_implied (n : Nat) (S : St) (a1 : Int32) (a2 : Int32) (a3 : Int32) (r : Int32) (S2 : St) (hf : f_X8_implied n S a1 a2 a3 = some (r, S2)) : Keeps (wr_X8_implied) S S2 := by
  have hk : Keeps (wr_X8_implied) S S := Keeps.rf
  obtain ⟨S0, hS0⟩ : ∃ S0, S0 = S := ⟨S, rfl⟩
  have hk : Keeps (wr_X8_implied) S0 S := by rw [hS0]; exact hk
  suffices hh : Keeps (wr_X8_implied) S0 S2 by rw [hS0] at hh; exact hh
  have j104 : ∀ (S : St), f_X8_implied_104 n S = some (r, S2) → Keeps wr_X8_implied S0 S → Keeps wr_X8_implied S0 S2 := by
    intro S hf hk
    unfold f_X8_implied_104 at hf
    obtain ⟨r_1, S_2, hc_3, hf⟩ := bo_inv hf
    have hk := hk.trans ((fr_X6_hasSolution n _ _ _ hc_3).mono (by intro c h; unfold wr_X6_hasSolution at h; unfold wr_X8_implied; omega))
    rcases (Decidable.em (r_1 = 0)) with b_4 | b_4
    · have hf := if_t b_4 hf
      exact (rt_inv hf).2 ▸ hk
    · have hf := if_f b_4 hf
      exact (rt_inv hf).2 ▸ hk
  unfold f_X8_implied at hf
  obtain ⟨r_5, S_6, hc_7, hf⟩ := bo_inv hf
  have hk := hk.trans ((fr_X7_has n _ _ _ _ _ hc_7).mono (fun _ h => False.elim h))
  rcases (Decidable.em (r_5 = 0)) with b_8 | b_8
  · have hf := if_t b_8 hf
    exact (rt_inv hf).2 ▸ hk
  · have hf := if_f b_8 hf
    obtain ⟨r_9, S_10, hc_11, hf⟩ := bo_inv hf
    have hk := hk.trans ((fr_X7_has n _ _ _ _ _ hc_11).mono (fun _ h => False.elim h))
    rcases (Decidable.em (r_9 = 0)).symm with b_12 | b_12
    · have hf := if_f b_12 hf
      rcases (Decidable.em (a3 < 0)) with b_13 | b_13
      · have hf := if_t b_13 hf
        exact (rt_inv hf).2 ▸ hk
      · have hf := if_f b_13 hf
        rcases (Decidable.em (a3 ≤ (2 : Int32))) with b_14 | b_14
        · have hf := if_t b_14 hf
          obtain ⟨r_15, S_16, hc_17, hf⟩ := bo_inv hf
          have hk := hk.trans ((fr_X8_isSolvable n _ _ _ hc_17).mono (by intro c h; unfold wr_X8_isSolvable at h; unfold wr_X8_implied; omega))
          rcases (Decidable.em (r_15 = 0)).symm with b_18 | b_18
          · have hf := if_f b_18 hf
            obtain ⟨r_19, S_20, hc_21, hf⟩ := bo_inv hf
            have hk := hk.trans ((fr_X3_all n _ _ _ hc_21).mono (fun _ h => False.elim h))
            obtain ⟨r_22, S_23, hc_24, hf⟩ := bo_inv hf
            have hk := hk.trans ((fr_X6_load n _ _ _ _ hc_24).mono (by intro c h; unfold wr_X6_load at h; unfold wr_X8_implied; omega))
            rcases (Decidable.em (a3 = 0)).symm with b_25 | b_25
            · have hf := if_f b_25 hf
              rcases (Decidable.em (a3 = (1 : Int32))).symm with b_26 | b_26
              · have hf := if_f b_26 hf
                obtain ⟨r_27, S_28, hc_29, hf⟩ := bo_inv hf
                have hk := hk.trans ((fr_X6_demandAtMost n _ _ _ _ _ _ hc_29).mono (by intro c h; unfold wr_X6_demandAtMost at h; unfold wr_X8_implied; omega))
                exact j104   S_28  hf hk
              · have hf := if_t b_26 hf
                obtain ⟨r_30, S_31, hc_32, hf⟩ := bo_inv hf
                have hk := hk.trans ((fr_X6_demandEqual n _ _ _ _ _ hc_32).mono (by intro c h; unfold wr_X6_demandEqual at h; unfold wr_X8_implied; omega))
                exact j104   S_31  hf hk
            · have hf := if_t b_25 hf
              obtain ⟨r_33, S_34, hc_35, hf⟩ := bo_inv hf
              have hk := hk.trans ((fr_X6_demandDifferent n _ _ _ _ _ hc_35).mono (by intro c h; unfold wr_X6_demandDifferent at h; unfold wr_X8_implied; omega))
              exact j104   S_34  hf hk
          · have hf := if_t b_18 hf
            exact (rt_inv hf).2 ▸ hk
        · have hf := if_f b_14 hf
          exact (rt_inv hf).2 ▸ hk
    · have hf := if_t b_12 hf
      exact (rt_inv hf).2 ▸ hk
def wr_X8_why : Nat → Prop := fun c => 50 ≤ c ∨ 97 ≤ c ∨ c = 0 ∨ c = 120 ∨ c = 23
theorem fr_X8_why (n : Nat) (S : St) (r : Int32) (S2 : St) (hf : f_X8_why n S = some (r, S2)) : Keeps (wr_X8_why) S S2 := by
  have hk : Keeps (wr_X8_why) S S := Keeps.rf
  obtain ⟨S0, hS0⟩ : ∃ S0, S0 = S := ⟨S, rfl⟩
  have hk : Keeps (wr_X8_why) S0 S := by rw [hS0]; exact hk
  suffices hh : Keeps (wr_X8_why) S0 S2 by rw [hS0] at hh; exact hh
  have j60 : ∀ (k28 : St → Int32 → Int32 → Option (Int32 × St)) (hk28 : ∀ (S : St) (x1 : Int32) (x2 : Int32), k28 S x1 x2 = some (r, S2) → Keeps wr_X8_why S0 S → Keeps wr_X8_why S0 S2), ∀ (S : St) (x1 : Int32) (x2 : Int32), f_X8_why_60 n k28 S x1 x2 = some (r, S2) → Keeps wr_X8_why S0 S → Keeps wr_X8_why S0 S2 := by
    intro k28 hk28 S x1 x2 hf hk
    unfold f_X8_why_60 at hf
    obtain ⟨x2_1, ex2_1, hf⟩ := bd_inv hf
    exact hk28 S x1 x2_1 hf hk
  have b28 : ∀ (k28 : St → Int32 → Int32 → Option (Int32 × St)) (hk28 : ∀ (S : St) (x1 : Int32) (x2 : Int32), k28 S x1 x2 = some (r, S2) → Keeps wr_X8_why S0 S → Keeps wr_X8_why S0 S2), ∀ (S : St) (x1 : Int32) (x2 : Int32), f_X8_why_28 n k28 S x1 x2 = some (r, S2) → Keeps wr_X8_why S0 S → Keeps wr_X8_why S0 S2 := by
    intro k28 hk28 S x1 x2 hf hk
    unfold f_X8_why_28 at hf
    rcases (Decidable.em (x2 < 0)) with b_2 | b_2
    · have hf := if_t b_2 hf
      exact (rt_inv hf).2 ▸ hk
    · have hf := if_f b_2 hf
      obtain ⟨x3_3, ex3_3, hf⟩ := bd_inv hf
      obtain ⟨r_4, S_5, hc_6, hf⟩ := bo_inv hf
      have hk := hk.trans ((fr_X6_load n _ _ _ _ hc_6).mono (by intro c h; unfold wr_X6_load at h; unfold wr_X8_why; omega))
      obtain ⟨r_7, S_8, hc_9, hf⟩ := bo_inv hf
      have hk := hk.trans ((fr_X6_hasSolution n _ _ _ hc_9).mono (by intro c h; unfold wr_X6_hasSolution at h; unfold wr_X8_why; omega))
      rcases (Decidable.em (r_7 = 0)).symm with b_10 | b_10
      · have hf := if_f b_10 hf
        exact j60  k28 hk28 S_8 x1 x2 hf hk
      · have hf := if_t b_10 hf
        obtain ⟨x1_11, ex1_11, hf⟩ := bd_inv hf
        exact j60  k28 hk28 S_8 x1_11 x2 hf hk
  have j28 : ∀ (d : Nat), ∀ (S : St) (x1 : Int32) (x2 : Int32), fixF (fun _ _ _ => none) (f_X8_why_28 n) d S x1 x2 = some (r, S2) → Keeps wr_X8_why S0 S → Keeps wr_X8_why S0 S2 := by
    intro   d
    induction d with
    | zero => intro S x1 x2 hf hk; cases hf
    | succ d ih => exact b28   (fixF (fun _ _ _ => none) (f_X8_why_28 n) d) ih
  unfold f_X8_why at hf
  obtain ⟨r_12, S_13, hc_14, hf⟩ := bo_inv hf
  have hk := hk.trans ((fr_X8_isSolvable n _ _ _ hc_14).mono (by intro c h; unfold wr_X8_isSolvable at h; unfold wr_X8_why; omega))
  rcases (Decidable.em (r_12 = 0)) with b_15 | b_15
  · have hf := if_t b_15 hf
    obtain ⟨r_16, S_17, hc_18, hf⟩ := bo_inv hf
    have hk := hk.trans ((fr_X3_all n _ _ _ hc_18).mono (fun _ h => False.elim h))
    obtain ⟨x1_19, ex1_19, hf⟩ := bd_inv hf
    obtain ⟨r_20, S_21, hc_22, hf⟩ := bo_inv hf
    have hk := hk.trans ((fr_X3_size n _ _ _ hc_22).mono (fun _ h => False.elim h))
    obtain ⟨x2_23, ex2_23, hf⟩ := bd_inv hf
    exact j28   n S_21 x1_19 x2_23 hf hk
  · have hf := if_f b_15 hf
    exact (rt_inv hf).2 ▸ hk
def wr_X8_either : Nat → Prop := fun c => 50 ≤ c ∨ 97 ≤ c ∨ c = 0 ∨ c = 120 ∨ c = 23 ∨ c = 26 ∨ c = 27
theorem fr_X8_either (n : Nat) (S : St) (a1 : Int32) (r : Int32) (S2 : St) (hf : f_X8_either n S a1 = some (r, S2)) : Keeps (wr_X8_either) S S2 := by
  have hk : Keeps (wr_X8_either) S S := Keeps.rf
  obtain ⟨S0, hS0⟩ : ∃ S0, S0 = S := ⟨S, rfl⟩
  have hk : Keeps (wr_X8_either) S0 S := by rw [hS0]; exact hk
  suffices hh : Keeps (wr_X8_either) S0 S2 by rw [hS0] at hh; exact hh
  have j57 : ∀ (S : St) (x1 : Int32), f_X8_either_57 n S x1 = some (r, S2) → Keeps wr_X8_either S0 S → Keeps wr_X8_either S0 S2 := by
    intro S x1 hf hk
    unfold f_X8_either_57 at hf
    obtain ⟨S_1, eS_1, hf⟩ := bd_inv hf
    have hk := hk.trans (kpI eS_1 (by unfold wr_X8_either; omega))
    rcases (Decidable.em (x1 = 0)).symm with b_2 | b_2
    · have hf := if_f b_2 hf
      obtain ⟨r_3, S_4, hc_5, hf⟩ := bo_inv hf
      have hk := hk.trans ((fr_X4_second n _ _ _ hc_5).mono (fun _ h => False.elim h))
      exact (rt_inv hf).2 ▸ hk
    · have hf := if_t b_2 hf
      obtain ⟨r_6, S_7, hc_8, hf⟩ := bo_inv hf
      have hk := hk.trans ((fr_X4_first n _ _ _ hc_8).mono (fun _ h => False.elim h))
      exact (rt_inv hf).2 ▸ hk
  unfold f_X8_either at hf
  rcases (Decidable.em (a1 < 0)) with b_9 | b_9
  · have hf := if_t b_9 hf
    exact (rt_inv hf).2 ▸ hk
  · have hf := if_f b_9 hf
    rcases (Decidable.em (a1 ≤ (1 : Int32))) with b_10 | b_10
    · have hf := if_t b_10 hf
      rcases (Decidable.em ((12 : Int32) ≤ (S.1 0 11))) with b_11 | b_11
      · have hf := if_t b_11 hf
        exact (rt_inv hf).2 ▸ hk
      · have hf := if_f b_11 hf
        obtain ⟨r_12, S_13, hc_14, hf⟩ := bo_inv hf
        have hk := hk.trans ((fr_X8_isSolvable n _ _ _ hc_14).mono (by intro c h; unfold wr_X8_isSolvable at h; unfold wr_X8_either; omega))
        rcases (Decidable.em (r_12 = 0)).symm with b_15 | b_15
        · have hf := if_f b_15 hf
          rcases (Decidable.em ((S_13.1 0 15) = 0)).symm with b_16 | b_16
          · have hf := if_f b_16 hf
            exact j57   S_13 a1 hf hk
          · have hf := if_t b_16 hf
            obtain ⟨r_17, S_18, hc_19, hf⟩ := bo_inv hf
            have hk := hk.trans ((fr_X3_all n _ _ _ hc_19).mono (fun _ h => False.elim h))
            obtain ⟨r_20, S_21, hc_22, hf⟩ := bo_inv hf
            have hk := hk.trans ((fr_X4_find n _ _ _ _ hc_22).mono (by intro c h; unfold wr_X4_find at h; unfold wr_X8_either; omega))
            obtain ⟨S_23, eS_23, hf⟩ := bd_inv hf
            have hk := hk.trans (kpI eS_23 (by unfold wr_X8_either; omega))
            exact j57   S_23 a1 hf hk
        · have hf := if_t b_15 hf
          exact (rt_inv hf).2 ▸ hk
    · have hf := if_f b_10 hf
      exact (rt_inv hf).2 ▸ hk
def wr_X8_count : Nat → Prop := fun c => False
theorem fr_X8_count (n : Nat) (S : St) (a1 : Int32) (r : Int32) (S2 : St) (hf : f_X8_count n S a1 = some (r, S2)) : Keeps (wr_X8_count) S S2 := by
  have hk : Keeps (wr_X8_count) S S := Keeps.rf
  unfold f_X8_count at hf
  by_cases b_1 : a1 = (0 : Int32)
  · have hf := if_t b_1 hf
    obtain ⟨r_2, S_3, hc_4, hf⟩ := bo_inv hf
    have hk := hk.trans ((fr_X3_size n _ _ _ hc_4).mono (fun _ h => False.elim h))
    exact (rt_inv hf).2 ▸ hk
  · have hf := if_f b_1 hf
    by_cases b_5 : a1 = (1 : Int32)
    · have hf := if_t b_5 hf
      obtain ⟨r_6, S_7, hc_8, hf⟩ := bo_inv hf
      have hk := hk.trans ((fr_X7_size n _ _ _ _ hc_8).mono (fun _ h => False.elim h))
      exact (rt_inv hf).2 ▸ hk
    · have hf := if_f b_5 hf
      by_cases b_9 : a1 = (2 : Int32)
      · have hf := if_t b_9 hf
        exact (rt_inv hf).2 ▸ hk
      · have hf := if_f b_9 hf
        by_cases b_10 : a1 = (3 : Int32)
        · have hf := if_t b_10 hf
          exact (rt_inv hf).2 ▸ hk
        · have hf := if_f b_10 hf
          by_cases b_11 : a1 = (4 : Int32)
          · have hf := if_t b_11 hf
            exact (rt_inv hf).2 ▸ hk
          · have hf := if_f b_11 hf
            by_cases b_12 : a1 = (5 : Int32)
            · have hf := if_t b_12 hf
              exact (rt_inv hf).2 ▸ hk
            · have hf := if_f b_12 hf
              exact (rt_inv hf).2 ▸ hk
def wr_X8_digest : Nat → Prop := fun c => 50 ≤ c ∨ 97 ≤ c ∨ c = 0 ∨ c = 120 ∨ c = 121 ∨ c = 21 ∨ c = 22 ∨ c = 23
theorem fr_X8_digest (n : Nat) (S : St) (r : Int64) (S2 : St) (hf : f_X8_digest n S = some (r, S2)) : Keeps (wr_X8_digest) S S2 := by
  have hk : Keeps (wr_X8_digest) S S := Keeps.rf
  obtain ⟨S0, hS0⟩ : ∃ S0, S0 = S := ⟨S, rfl⟩
  have hk : Keeps (wr_X8_digest) S0 S := by rw [hS0]; exact hk
  suffices hh : Keeps (wr_X8_digest) S0 S2 by rw [hS0] at hh; exact hh
  have b178 : ∀ (k178 : St → Int64 → Int32 → Option (Int64 × St)) (hk178 : ∀ (S : St) (x1 : Int64) (x3 : Int32), k178 S x1 x3 = some (r, S2) → Keeps wr_X8_digest S0 S → Keeps wr_X8_digest S0 S2), ∀ (S : St) (x1 : Int64) (x3 : Int32), f_X8_digest_178 n k178 S x1 x3 = some (r, S2) → Keeps wr_X8_digest S0 S → Keeps wr_X8_digest S0 S2 := by
    intro k178 hk178 S x1 x3 hf hk
    unfold f_X8_digest_178 at hf
    rcases (Decidable.em ((5 : Int32) < x3)) with b_1 | b_1
    · have hf := if_t b_1 hf
      exact (rt_inv hf).2 ▸ hk
    · have hf := if_f b_1 hf
      obtain ⟨r_2, S_3, hc_4, hf⟩ := bo_inv hf
      have hk := hk.trans ((fr_X8_count n _ _ _ _ hc_4).mono (fun _ h => False.elim h))
      obtain ⟨x1_5, ex1_5, hf⟩ := bd_inv hf
      obtain ⟨x3_6, ex3_6, hf⟩ := bd_inv hf
      exact hk178 S_3 x1_5 x3_6 hf hk
  have j178 : ∀ (d : Nat), ∀ (S : St) (x1 : Int64) (x3 : Int32), fixF (fun _ _ _ => none) (f_X8_digest_178 n) d S x1 x3 = some (r, S2) → Keeps wr_X8_digest S0 S → Keeps wr_X8_digest S0 S2 := by
    intro   d
    induction d with
    | zero => intro S x1 x3 hf hk; cases hf
    | succ d ih => exact b178   (fixF (fun _ _ _ => none) (f_X8_digest_178 n) d) ih
  have j176 : ∀ (S : St) (x1 : Int64), f_X8_digest_176 n S x1 = some (r, S2) → Keeps wr_X8_digest S0 S → Keeps wr_X8_digest S0 S2 := by
    intro S x1 hf hk
    unfold f_X8_digest_176 at hf
    obtain ⟨x3_7, ex3_7, hf⟩ := bd_inv hf
    exact j178   n S x1 x3_7 hf hk
  have b142 : ∀ (k142 : St → Int64 → Int32 → Option (Int64 × St)) (hk142 : ∀ (S : St) (x1 : Int64) (x3 : Int32), k142 S x1 x3 = some (r, S2) → Keeps wr_X8_digest S0 S → Keeps wr_X8_digest S0 S2), ∀ (S : St) (x1 : Int64) (x3 : Int32), f_X8_digest_142 n k142 S x1 x3 = some (r, S2) → Keeps wr_X8_digest S0 S → Keeps wr_X8_digest S0 S2 := by
    intro k142 hk142 S x1 x3 hf hk
    unfold f_X8_digest_142 at hf
    rcases (Decidable.em ((S.1 0 1) ≤ x3)) with b_8 | b_8
    · have hf := if_t b_8 hf
      exact j176   S x1 hf hk
    · have hf := if_f b_8 hf
      rcases (Decidable.em ((40 : Int32) ≤ x3)) with b_9 | b_9
      · have hf := if_t b_9 hf
        exact j176   S x1 hf hk
      · have hf := if_f b_9 hf
        obtain ⟨g_10, hf⟩ := gd_inv hf
        obtain ⟨x1_11, ex1_11, hf⟩ := bd_inv hf
        obtain ⟨x3_12, ex3_12, hf⟩ := bd_inv hf
        exact hk142 S x1_11 x3_12 hf hk
  have j142 : ∀ (d : Nat), ∀ (S : St) (x1 : Int64) (x3 : Int32), fixF (fun _ _ _ => none) (f_X8_digest_142 n) d S x1 x3 = some (r, S2) → Keeps wr_X8_digest S0 S → Keeps wr_X8_digest S0 S2 := by
    intro   d
    induction d with
    | zero => intro S x1 x3 hf hk; cases hf
    | succ d ih => exact b142   (fixF (fun _ _ _ => none) (f_X8_digest_142 n) d) ih
  have b104 : ∀ (k104 : St → Int64 → Int32 → Option (Int64 × St)) (hk104 : ∀ (S : St) (x1 : Int64) (x3 : Int32), k104 S x1 x3 = some (r, S2) → Keeps wr_X8_digest S0 S → Keeps wr_X8_digest S0 S2), ∀ (S : St) (x1 : Int64) (x3 : Int32), f_X8_digest_104 n k104 S x1 x3 = some (r, S2) → Keeps wr_X8_digest S0 S → Keeps wr_X8_digest S0 S2 := by
    intro k104 hk104 S x1 x3 hf hk
    unfold f_X8_digest_104 at hf
    rcases (Decidable.em ((2 : Int32) < x3)) with b_13 | b_13
    · have hf := if_t b_13 hf
      obtain ⟨r_14, S_15, hc_16, hf⟩ := bo_inv hf
      have hk := hk.trans ((fr_X8_holds n _ _ _ hc_16).mono (by intro c h; unfold wr_X8_holds at h; unfold wr_X8_digest; omega))
      obtain ⟨x1_17, ex1_17, hf⟩ := bd_inv hf
      obtain ⟨x3_18, ex3_18, hf⟩ := bd_inv hf
      exact j142   n S_15 x1_17 x3_18 hf hk
    · have hf := if_f b_13 hf
      obtain ⟨r_19, S_20, hc_21, hf⟩ := bo_inv hf
      have hk := hk.trans ((fr_X8_exchange n _ _ _ _ hc_21).mono (by intro c h; unfold wr_X8_exchange at h; unfold wr_X8_digest; omega))
      obtain ⟨x1_22, ex1_22, hf⟩ := bd_inv hf
      obtain ⟨x3_23, ex3_23, hf⟩ := bd_inv hf
      exact hk104 S_20 x1_22 x3_23 hf hk
  have j104 : ∀ (d : Nat), ∀ (S : St) (x1 : Int64) (x3 : Int32), fixF (fun _ _ _ => none) (f_X8_digest_104 n) d S x1 x3 = some (r, S2) → Keeps wr_X8_digest S0 S → Keeps wr_X8_digest S0 S2 := by
    intro   d
    induction d with
    | zero => intro S x1 x3 hf hk; cases hf
    | succ d ih => exact b104   (fixF (fun _ _ _ => none) (f_X8_digest_104 n) d) ih
  have b69 : ∀ (x3 : Int32) (k55 : St → Int64 → Int32 → Option (Int64 × St)) (hk55 : ∀ (S : St) (x1 : Int64) (x3 : Int32), k55 S x1 x3 = some (r, S2) → Keeps wr_X8_digest S0 S → Keeps wr_X8_digest S0 S2) (k69 : St → Int64 → Int32 → Option (Int64 × St)) (hk69 : ∀ (S : St) (x1 : Int64) (x4 : Int32), k69 S x1 x4 = some (r, S2) → Keeps wr_X8_digest S0 S → Keeps wr_X8_digest S0 S2), ∀ (S : St) (x1 : Int64) (x4 : Int32), f_X8_digest_69 n x3 k55 k69 S x1 x4 = some (r, S2) → Keeps wr_X8_digest S0 S → Keeps wr_X8_digest S0 S2 := by
    intro x3 k55 hk55 k69 hk69 S x1 x4 hf hk
    unfold f_X8_digest_69 at hf
    rcases (Decidable.em ((5 : Int32) < x4)) with b_24 | b_24
    · have hf := if_t b_24 hf
      obtain ⟨x3_25, ex3_25, hf⟩ := bd_inv hf
      exact hk55 S x1 x3_25 hf hk
    · have hf := if_f b_24 hf
      obtain ⟨r_26, S_27, hc_28, hf⟩ := bo_inv hf
      have hk := hk.trans ((fr_X8_term n _ _ _ _ _ hc_28).mono (by intro c h; unfold wr_X8_term at h; unfold wr_X8_digest; omega))
      obtain ⟨x1_29, ex1_29, hf⟩ := bd_inv hf
      obtain ⟨x4_30, ex4_30, hf⟩ := bd_inv hf
      exact hk69 S_27 x1_29 x4_30 hf hk
  have j69 : ∀ (x3 : Int32) (k55 : St → Int64 → Int32 → Option (Int64 × St)) (hk55 : ∀ (S : St) (x1 : Int64) (x3 : Int32), k55 S x1 x3 = some (r, S2) → Keeps wr_X8_digest S0 S → Keeps wr_X8_digest S0 S2) (d : Nat), ∀ (S : St) (x1 : Int64) (x4 : Int32), fixF (fun _ _ _ => none) (f_X8_digest_69 n x3 k55) d S x1 x4 = some (r, S2) → Keeps wr_X8_digest S0 S → Keeps wr_X8_digest S0 S2 := by
    intro x3 k55 hk55 d
    induction d with
    | zero => intro S x1 x4 hf hk; cases hf
    | succ d ih => exact b69 x3 k55 hk55 (fixF (fun _ _ _ => none) (f_X8_digest_69 n x3 k55) d) ih
  have b55 : ∀ (k55 : St → Int64 → Int32 → Option (Int64 × St)) (hk55 : ∀ (S : St) (x1 : Int64) (x3 : Int32), k55 S x1 x3 = some (r, S2) → Keeps wr_X8_digest S0 S → Keeps wr_X8_digest S0 S2), ∀ (S : St) (x1 : Int64) (x3 : Int32), f_X8_digest_55 n k55 S x1 x3 = some (r, S2) → Keeps wr_X8_digest S0 S → Keeps wr_X8_digest S0 S2 := by
    intro k55 hk55 S x1 x3 hf hk
    unfold f_X8_digest_55 at hf
    obtain ⟨r_31, S_32, hc_33, hf⟩ := bo_inv hf
    have hk := hk.trans ((fr_X7_size n _ _ _ _ hc_33).mono (fun _ h => False.elim h))
    rcases (Decidable.em (r_31 ≤ x3)) with b_34 | b_34
    · have hf := if_t b_34 hf
      obtain ⟨x3_35, ex3_35, hf⟩ := bd_inv hf
      exact j104   n S_32 x1 x3_35 hf hk
    · have hf := if_f b_34 hf
      obtain ⟨x4_36, ex4_36, hf⟩ := bd_inv hf
      exact j69 x3 k55 hk55 n S_32 x1 x4_36 hf hk
  have j55 : ∀ (d : Nat), ∀ (S : St) (x1 : Int64) (x3 : Int32), fixF (fun _ _ _ => none) (f_X8_digest_55 n) d S x1 x3 = some (r, S2) → Keeps wr_X8_digest S0 S → Keeps wr_X8_digest S0 S2 := by
    intro   d
    induction d with
    | zero => intro S x1 x3 hf hk; cases hf
    | succ d ih => exact b55   (fixF (fun _ _ _ => none) (f_X8_digest_55 n) d) ih
  have b20 : ∀ (x3 : Int32) (k6 : St → Int64 → Int32 → Option (Int64 × St)) (hk6 : ∀ (S : St) (x1 : Int64) (x3 : Int32), k6 S x1 x3 = some (r, S2) → Keeps wr_X8_digest S0 S → Keeps wr_X8_digest S0 S2) (k20 : St → Int64 → Int32 → Option (Int64 × St)) (hk20 : ∀ (S : St) (x1 : Int64) (x4 : Int32), k20 S x1 x4 = some (r, S2) → Keeps wr_X8_digest S0 S → Keeps wr_X8_digest S0 S2), ∀ (S : St) (x1 : Int64) (x4 : Int32), f_X8_digest_20 n x3 k6 k20 S x1 x4 = some (r, S2) → Keeps wr_X8_digest S0 S → Keeps wr_X8_digest S0 S2 := by
    intro x3 k6 hk6 k20 hk20 S x1 x4 hf hk
    unfold f_X8_digest_20 at hf
    rcases (Decidable.em ((3 : Int32) < x4)) with b_37 | b_37
    · have hf := if_t b_37 hf
      obtain ⟨x3_38, ex3_38, hf⟩ := bd_inv hf
      exact hk6 S x1 x3_38 hf hk
    · have hf := if_f b_37 hf
      obtain ⟨r_39, S_40, hc_41, hf⟩ := bo_inv hf
      have hk := hk.trans ((fr_X8_literal n _ _ _ _ _ hc_41).mono (fun _ h => False.elim h))
      obtain ⟨x1_42, ex1_42, hf⟩ := bd_inv hf
      obtain ⟨x4_43, ex4_43, hf⟩ := bd_inv hf
      exact hk20 S_40 x1_42 x4_43 hf hk
  have j20 : ∀ (x3 : Int32) (k6 : St → Int64 → Int32 → Option (Int64 × St)) (hk6 : ∀ (S : St) (x1 : Int64) (x3 : Int32), k6 S x1 x3 = some (r, S2) → Keeps wr_X8_digest S0 S → Keeps wr_X8_digest S0 S2) (d : Nat), ∀ (S : St) (x1 : Int64) (x4 : Int32), fixF (fun _ _ _ => none) (f_X8_digest_20 n x3 k6) d S x1 x4 = some (r, S2) → Keeps wr_X8_digest S0 S → Keeps wr_X8_digest S0 S2 := by
    intro x3 k6 hk6 d
    induction d with
    | zero => intro S x1 x4 hf hk; cases hf
    | succ d ih => exact b20 x3 k6 hk6 (fixF (fun _ _ _ => none) (f_X8_digest_20 n x3 k6) d) ih
  have b6 : ∀ (k6 : St → Int64 → Int32 → Option (Int64 × St)) (hk6 : ∀ (S : St) (x1 : Int64) (x3 : Int32), k6 S x1 x3 = some (r, S2) → Keeps wr_X8_digest S0 S → Keeps wr_X8_digest S0 S2), ∀ (S : St) (x1 : Int64) (x3 : Int32), f_X8_digest_6 n k6 S x1 x3 = some (r, S2) → Keeps wr_X8_digest S0 S → Keeps wr_X8_digest S0 S2 := by
    intro k6 hk6 S x1 x3 hf hk
    unfold f_X8_digest_6 at hf
    obtain ⟨r_44, S_45, hc_46, hf⟩ := bo_inv hf
    have hk := hk.trans ((fr_X3_size n _ _ _ hc_46).mono (fun _ h => False.elim h))
    rcases (Decidable.em (r_44 ≤ x3)) with b_47 | b_47
    · have hf := if_t b_47 hf
      obtain ⟨x3_48, ex3_48, hf⟩ := bd_inv hf
      exact j55   n S_45 x1 x3_48 hf hk
    · have hf := if_f b_47 hf
      obtain ⟨x4_49, ex4_49, hf⟩ := bd_inv hf
      exact j20 x3 k6 hk6 n S_45 x1 x4_49 hf hk
  have j6 : ∀ (d : Nat), ∀ (S : St) (x1 : Int64) (x3 : Int32), fixF (fun _ _ _ => none) (f_X8_digest_6 n) d S x1 x3 = some (r, S2) → Keeps wr_X8_digest S0 S → Keeps wr_X8_digest S0 S2 := by
    intro   d
    induction d with
    | zero => intro S x1 x3 hf hk; cases hf
    | succ d ih => exact b6   (fixF (fun _ _ _ => none) (f_X8_digest_6 n) d) ih
  unfold f_X8_digest at hf
  obtain ⟨x1_50, ex1_50, hf⟩ := bd_inv hf
  obtain ⟨x3_51, ex3_51, hf⟩ := bd_inv hf
  exact j6   n S x1_50 x3_51 hf hk
def wr_X9_within : Nat → Prop := fun c => False
theorem fr_X9_within (n : Nat) (S : St) (a0 : Int32) (a1 : Int32) (a2 : Int32) (r : Int32) (S2 : St) (hf : f_X9_within n S a0 a1 a2 = some (r, S2)) : Keeps (wr_X9_within) S S2 := by
  have hk : Keeps (wr_X9_within) S S := Keeps.rf
  unfold f_X9_within at hf
  rcases (Decidable.em (a0 < a1)) with b_1 | b_1
  · have hf := if_t b_1 hf
    exact (rt_inv hf).2 ▸ hk
  · have hf := if_f b_1 hf
    rcases (Decidable.em (a2 < a0)) with b_2 | b_2
    · have hf := if_t b_2 hf
      exact (rt_inv hf).2 ▸ hk
    · have hf := if_f b_2 hf
      exact (rt_inv hf).2 ▸ hk
def wr_X9_termOf : Nat → Prop := fun c => c = 28 ∨ c = 35 ∨ c = 36 ∨ c = 37
theorem fr_X9_termOf (n : Nat) (S : St) (a1 : Int32) (a2 : Int32) (a3 : Int32) (r : Int32) (S2 : St) (hf : f_X9_termOf n S a1 a2 a3 = some (r, S2)) : Keeps (wr_X9_termOf) S S2 := by
  have hk : Keeps (wr_X9_termOf) S S := Keeps.rf
  obtain ⟨S0, hS0⟩ : ∃ S0, S0 = S := ⟨S, rfl⟩
  have hk : Keeps (wr_X9_termOf) S0 S := by rw [hS0]; exact hk
  suffices hh : Keeps (wr_X9_termOf) S0 S2 by rw [hS0] at hh; exact hh
  have j48 : ∀ (x1 : Int32) (x2 : Int32) (x3 : Int32) (k3 : St → Int32 → Option (Int32 × St)) (hk3 : ∀ (S : St) (x4 : Int32), k3 S x4 = some (r, S2) → Keeps wr_X9_termOf S0 S → Keeps wr_X9_termOf S0 S2), ∀ (S : St) (x4 : Int32), f_X9_termOf_48 n x1 x2 x3 k3 S x4 = some (r, S2) → Keeps wr_X9_termOf S0 S → Keeps wr_X9_termOf S0 S2 := by
    intro x1 x2 x3 k3 hk3 S x4 hf hk
    unfold f_X9_termOf_48 at hf
    obtain ⟨x4_1, ex4_1, hf⟩ := bd_inv hf
    exact hk3 S x4_1 hf hk
  have b3 : ∀ (x1 : Int32) (x2 : Int32) (x3 : Int32) (k3 : St → Int32 → Option (Int32 × St)) (hk3 : ∀ (S : St) (x4 : Int32), k3 S x4 = some (r, S2) → Keeps wr_X9_termOf S0 S → Keeps wr_X9_termOf S0 S2), ∀ (S : St) (x4 : Int32), f_X9_termOf_3 n x1 x2 x3 k3 S x4 = some (r, S2) → Keeps wr_X9_termOf S0 S → Keeps wr_X9_termOf S0 S2 := by
    intro x1 x2 x3 k3 hk3 S x4 hf hk
    unfold f_X9_termOf_3 at hf
    rcases (Decidable.em ((S.1 28 18) ≤ x4)) with b_2 | b_2
    · have hf := if_t b_2 hf
      obtain ⟨g_3, hf⟩ := gd_inv hf
      obtain ⟨S_4, eS_4, hf⟩ := bd_inv hf
      have hk := hk.trans (kpI eS_4 (by unfold wr_X9_termOf; omega))
      obtain ⟨g_5, hf⟩ := gd_inv hf
      obtain ⟨S_6, eS_6, hf⟩ := bd_inv hf
      have hk := hk.trans (kpI eS_6 (by unfold wr_X9_termOf; omega))
      obtain ⟨g_7, hf⟩ := gd_inv hf
      obtain ⟨S_8, eS_8, hf⟩ := bd_inv hf
      have hk := hk.trans (kpI eS_8 (by unfold wr_X9_termOf; omega))
      obtain ⟨S_9, eS_9, hf⟩ := bd_inv hf
      have hk := hk.trans (kpI eS_9 (by unfold wr_X9_termOf; omega))
      exact (rt_inv hf).2 ▸ hk
    · have hf := if_f b_2 hf
      obtain ⟨g_10, hf⟩ := gd_inv hf
      rcases (Decidable.em ((S.1 35 (x4).toNatClampNeg) = x1)).symm with b_11 | b_11
      · have hf := if_f b_11 hf
        exact j48 x1 x2 x3 k3 hk3 S x4 hf hk
      · have hf := if_t b_11 hf
        obtain ⟨g_12, hf⟩ := gd_inv hf
        rcases (Decidable.em ((S.1 36 (x4).toNatClampNeg) = x2)).symm with b_13 | b_13
        · have hf := if_f b_13 hf
          exact j48 x1 x2 x3 k3 hk3 S x4 hf hk
        · have hf := if_t b_13 hf
          obtain ⟨g_14, hf⟩ := gd_inv hf
          rcases (Decidable.em ((S.1 37 (x4).toNatClampNeg) = x3)).symm with b_15 | b_15
          · have hf := if_f b_15 hf
            exact j48 x1 x2 x3 k3 hk3 S x4 hf hk
          · have hf := if_t b_15 hf
            exact (rt_inv hf).2 ▸ hk
  have j3 : ∀ (x1 : Int32) (x2 : Int32) (x3 : Int32) (d : Nat), ∀ (S : St) (x4 : Int32), fixF (fun _ _ => none) (f_X9_termOf_3 n x1 x2 x3) d S x4 = some (r, S2) → Keeps wr_X9_termOf S0 S → Keeps wr_X9_termOf S0 S2 := by
    intro x1 x2 x3  d
    induction d with
    | zero => intro S x4 hf hk; cases hf
    | succ d ih => exact b3 x1 x2 x3  (fixF (fun _ _ => none) (f_X9_termOf_3 n x1 x2 x3) d) ih
  unfold f_X9_termOf at hf
  obtain ⟨x4_16, ex4_16, hf⟩ := bd_inv hf
  exact j3 a1 a2 a3  n S x4_16 hf hk
def wr_X9_layLiteral : Nat → Prop := fun c => c = 28 ∨ c = 35 ∨ c = 36 ∨ c = 37 ∨ c = 38 ∨ c = 39 ∨ c = 40
theorem fr_X9_layLiteral (n : Nat) (S : St) (a1 : Int32) (r : Unit) (S2 : St) (hf : f_X9_layLiteral n S a1 = some (r, S2)) : Keeps (wr_X9_layLiteral) S S2 := by
  have hk : Keeps (wr_X9_layLiteral) S S := Keeps.rf
  obtain ⟨S0, hS0⟩ : ∃ S0, S0 = S := ⟨S, rfl⟩
  have hk : Keeps (wr_X9_layLiteral) S0 S := by rw [hS0]; exact hk
  suffices hh : Keeps (wr_X9_layLiteral) S0 S2 by rw [hS0] at hh; exact hh
  have j228 : ∀ (x1 : Int32) (k4 : St → Int32 → Int32 → Option (Unit × St)) (hk4 : ∀ (S : St) (x2 : Int32) (x3 : Int32), k4 S x2 x3 = some (r, S2) → Keeps wr_X9_layLiteral S0 S → Keeps wr_X9_layLiteral S0 S2), ∀ (S : St) (x2 : Int32) (x3 : Int32), f_X9_layLiteral_228 n x1 k4 S x2 x3 = some (r, S2) → Keeps wr_X9_layLiteral S0 S → Keeps wr_X9_layLiteral S0 S2 := by
    intro x1 k4 hk4 S x2 x3 hf hk
    unfold f_X9_layLiteral_228 at hf
    obtain ⟨x3_1, ex3_1, hf⟩ := bd_inv hf
    exact hk4 S x2 x3_1 hf hk
  have j214 : ∀ (x1 : Int32) (k4 : St → Int32 → Int32 → Option (Unit × St)) (hk4 : ∀ (S : St) (x2 : Int32) (x3 : Int32), k4 S x2 x3 = some (r, S2) → Keeps wr_X9_layLiteral S0 S → Keeps wr_X9_layLiteral S0 S2), ∀ (S : St) (x3 : Int32), f_X9_layLiteral_214 n x1 k4 S x3 = some (r, S2) → Keeps wr_X9_layLiteral S0 S → Keeps wr_X9_layLiteral S0 S2 := by
    intro x1 k4 hk4 S x3 hf hk
    unfold f_X9_layLiteral_214 at hf
    obtain ⟨g_2, hf⟩ := gd_inv hf
    obtain ⟨g_3, hf⟩ := gd_inv hf
    obtain ⟨S_4, eS_4, hf⟩ := bd_inv hf
    have hk := hk.trans (kpI eS_4 (by unfold wr_X9_layLiteral; omega))
    obtain ⟨x2_5, ex2_5, hf⟩ := bd_inv hf
    exact j228 x1 k4 hk4 S_4 x2_5 x3 hf hk
  have j177 : ∀ (x1 : Int32) (k4 : St → Int32 → Int32 → Option (Unit × St)) (hk4 : ∀ (S : St) (x2 : Int32) (x3 : Int32), k4 S x2 x3 = some (r, S2) → Keeps wr_X9_layLiteral S0 S → Keeps wr_X9_layLiteral S0 S2), ∀ (S : St) (x3 : Int32) (x6 : Int32) (t0 : Int32) (t1 : Int32), f_X9_layLiteral_177 n x1 k4 S x3 x6 t0 t1 = some (r, S2) → Keeps wr_X9_layLiteral S0 S → Keeps wr_X9_layLiteral S0 S2 := by
    intro x1 k4 hk4 S x3 x6 t0 t1 hf hk
    unfold f_X9_layLiteral_177 at hf
    obtain ⟨x2_6, ex2_6, hf⟩ := bd_inv hf
    obtain ⟨g_7, hf⟩ := gd_inv hf
    obtain ⟨S_8, eS_8, hf⟩ := bd_inv hf
    have hk := hk.trans (kpI eS_8 (by unfold wr_X9_layLiteral; omega))
    obtain ⟨x2_9, ex2_9, hf⟩ := bd_inv hf
    exact j228 x1 k4 hk4 S_8 x2_9 x3 hf hk
  have j164 : ∀ (x1 : Int32) (k4 : St → Int32 → Int32 → Option (Unit × St)) (hk4 : ∀ (S : St) (x2 : Int32) (x3 : Int32), k4 S x2 x3 = some (r, S2) → Keeps wr_X9_layLiteral S0 S → Keeps wr_X9_layLiteral S0 S2), ∀ (S : St) (x2 : Int32) (x3 : Int32) (x5 : Int32) (t0 : Int32), f_X9_layLiteral_164 n x1 k4 S x2 x3 x5 t0 = some (r, S2) → Keeps wr_X9_layLiteral S0 S → Keeps wr_X9_layLiteral S0 S2 := by
    intro x1 k4 hk4 S x2 x3 x5 t0 hf hk
    unfold f_X9_layLiteral_164 at hf
    obtain ⟨x6_10, ex6_10, hf⟩ := bd_inv hf
    rcases (Decidable.em (x5 = 0)) with b_11 | b_11
    · have hf := if_t b_11 hf
      exact j177 x1 k4 hk4 S x3 x6_10 x2 ((2 : Int32)) hf hk
    · have hf := if_f b_11 hf
      exact j177 x1 k4 hk4 S x3 x6_10 x2 ((3 : Int32)) hf hk
  have j118 : ∀ (x1 : Int32) (k4 : St → Int32 → Int32 → Option (Unit × St)) (hk4 : ∀ (S : St) (x2 : Int32) (x3 : Int32), k4 S x2 x3 = some (r, S2) → Keeps wr_X9_layLiteral S0 S → Keeps wr_X9_layLiteral S0 S2), ∀ (S : St) (x2 : Int32) (x3 : Int32) (t0 : Int32), f_X9_layLiteral_118 n x1 k4 S x2 x3 t0 = some (r, S2) → Keeps wr_X9_layLiteral S0 S → Keeps wr_X9_layLiteral S0 S2 := by
    intro x1 k4 hk4 S x2 x3 t0 hf hk
    unfold f_X9_layLiteral_118 at hf
    obtain ⟨x5_12, ex5_12, hf⟩ := bd_inv hf
    rcases (Decidable.em (x5_12 = 0)) with b_13 | b_13
    · have hf := if_t b_13 hf
      obtain ⟨g_14, hf⟩ := gd_inv hf
      obtain ⟨r_15, S_16, hc_17, hf⟩ := bo_inv hf
      have hk := hk.trans ((fr_X9_termOf n _ _ _ _ _ _ hc_17).mono (by intro c h; unfold wr_X9_termOf at h; unfold wr_X9_layLiteral; omega))
      exact j164 x1 k4 hk4 S_16 x2 x3 x5_12 r_15 hf hk
    · have hf := if_f b_13 hf
      obtain ⟨g_18, hf⟩ := gd_inv hf
      obtain ⟨g_19, hf⟩ := gd_inv hf
      obtain ⟨r_20, S_21, hc_22, hf⟩ := bo_inv hf
      have hk := hk.trans ((fr_X9_termOf n _ _ _ _ _ _ hc_22).mono (by intro c h; unfold wr_X9_termOf at h; unfold wr_X9_layLiteral; omega))
      exact j164 x1 k4 hk4 S_21 x2 x3 x5_12 r_20 hf hk
  have j88 : ∀ (x1 : Int32) (k4 : St → Int32 → Int32 → Option (Unit × St)) (hk4 : ∀ (S : St) (x2 : Int32) (x3 : Int32), k4 S x2 x3 = some (r, S2) → Keeps wr_X9_layLiteral S0 S → Keeps wr_X9_layLiteral S0 S2), ∀ (S : St) (x2 : Int32) (x3 : Int32) (t1 : Int32) (t2 : Int32), f_X9_layLiteral_88 n x1 k4 S x2 x3 t1 t2 = some (r, S2) → Keeps wr_X9_layLiteral S0 S → Keeps wr_X9_layLiteral S0 S2 := by
    intro x1 k4 hk4 S x2 x3 t1 t2 hf hk
    unfold f_X9_layLiteral_88 at hf
    obtain ⟨g_23, hf⟩ := gd_inv hf
    obtain ⟨S_24, eS_24, hf⟩ := bd_inv hf
    have hk := hk.trans (kpI eS_24 (by unfold wr_X9_layLiteral; omega))
    obtain ⟨x2_25, ex2_25, hf⟩ := bd_inv hf
    exact j228 x1 k4 hk4 S_24 x2_25 x3 hf hk
  have j70 : ∀ (x1 : Int32) (k4 : St → Int32 → Int32 → Option (Unit × St)) (hk4 : ∀ (S : St) (x2 : Int32) (x3 : Int32), k4 S x2 x3 = some (r, S2) → Keeps wr_X9_layLiteral S0 S → Keeps wr_X9_layLiteral S0 S2), ∀ (S : St) (x2 : Int32) (x3 : Int32) (x4 : Int32), f_X9_layLiteral_70 n x1 k4 S x2 x3 x4 = some (r, S2) → Keeps wr_X9_layLiteral S0 S → Keeps wr_X9_layLiteral S0 S2 := by
    intro x1 k4 hk4 S x2 x3 x4 hf hk
    unfold f_X9_layLiteral_70 at hf
    rcases (Decidable.em (x4 = (102 : Int32))).symm with b_26 | b_26
    · have hf := if_f b_26 hf
      exact j88 x1 k4 hk4 S x2 x3 x2 ((-2 : Int32)) hf hk
    · have hf := if_t b_26 hf
      exact j88 x1 k4 hk4 S x2 x3 x2 ((-1 : Int32)) hf hk
  have b4 : ∀ (x1 : Int32) (k4 : St → Int32 → Int32 → Option (Unit × St)) (hk4 : ∀ (S : St) (x2 : Int32) (x3 : Int32), k4 S x2 x3 = some (r, S2) → Keeps wr_X9_layLiteral S0 S → Keeps wr_X9_layLiteral S0 S2), ∀ (S : St) (x2 : Int32) (x3 : Int32), f_X9_layLiteral_4 n x1 k4 S x2 x3 = some (r, S2) → Keeps wr_X9_layLiteral S0 S → Keeps wr_X9_layLiteral S0 S2 := by
    intro x1 k4 hk4 S x2 x3 hf hk
    unfold f_X9_layLiteral_4 at hf
    obtain ⟨g_27, hf⟩ := gd_inv hf
    rcases (Decidable.em ((S.1 31 (x1).toNatClampNeg) ≤ x3)) with b_28 | b_28
    · have hf := if_t b_28 hf
      obtain ⟨g_29, hf⟩ := gd_inv hf
      obtain ⟨g_30, hf⟩ := gd_inv hf
      obtain ⟨S_31, eS_31, hf⟩ := bd_inv hf
      have hk := hk.trans (kpI eS_31 (by unfold wr_X9_layLiteral; omega))
      exact (rt_inv hf).2 ▸ hk
    · have hf := if_f b_28 hf
      obtain ⟨g_32, hf⟩ := gd_inv hf
      obtain ⟨x4_33, ex4_33, hf⟩ := bd_inv hf
      obtain ⟨r_34, S_35, hc_36, hf⟩ := bo_inv hf
      have hk := hk.trans ((fr_X9_within n _ _ _ _ _ _ hc_36).mono (fun _ h => False.elim h))
      rcases (Decidable.em (r_34 = 0)) with b_37 | b_37
      · have hf := if_t b_37 hf
        rcases (Decidable.em (x4_33 = (102 : Int32))) with b_38 | b_38
        · have hf := if_t b_38 hf
          exact j70 x1 k4 hk4 S_35 x2 x3 x4_33 hf hk
        · have hf := if_f b_38 hf
          rcases (Decidable.em (x4_33 = (103 : Int32))).symm with b_39 | b_39
          · have hf := if_f b_39 hf
            rcases (Decidable.em (x4_33 = (41 : Int32))).symm with b_40 | b_40
            · have hf := if_f b_40 hf
              rcases (Decidable.em (x4_33 = (61 : Int32))) with b_41 | b_41
              · have hf := if_t b_41 hf
                exact j214 x1 k4 hk4 S_35 x3 hf hk
              · have hf := if_f b_41 hf
                rcases (Decidable.em (x4_33 = (35 : Int32))) with b_42 | b_42
                · have hf := if_t b_42 hf
                  exact j214 x1 k4 hk4 S_35 x3 hf hk
                · have hf := if_f b_42 hf
                  rcases (Decidable.em (x4_33 = (60 : Int32))).symm with b_43 | b_43
                  · have hf := if_f b_43 hf
                    exact j228 x1 k4 hk4 S_35 x2 x3 hf hk
                  · have hf := if_t b_43 hf
                    exact j214 x1 k4 hk4 S_35 x3 hf hk
            · have hf := if_t b_40 hf
              obtain ⟨g_44, hf⟩ := gd_inv hf
              rcases (Decidable.em ((S_35.1 40 ((x2 - (2 : Int32))).toNatClampNeg) < 0)) with b_45 | b_45
              · have hf := if_t b_45 hf
                exact j118 x1 k4 hk4 S_35 x2 x3 ((0 : Int32)) hf hk
              · have hf := if_f b_45 hf
                exact j118 x1 k4 hk4 S_35 x2 x3 ((1 : Int32)) hf hk
          · have hf := if_t b_39 hf
            exact j70 x1 k4 hk4 S_35 x2 x3 x4_33 hf hk
      · have hf := if_f b_37 hf
        obtain ⟨g_46, hf⟩ := gd_inv hf
        obtain ⟨S_47, eS_47, hf⟩ := bd_inv hf
        have hk := hk.trans (kpI eS_47 (by unfold wr_X9_layLiteral; omega))
        obtain ⟨x2_48, ex2_48, hf⟩ := bd_inv hf
        exact j228 x1 k4 hk4 S_47 x2_48 x3 hf hk
  have j4 : ∀ (x1 : Int32) (d : Nat), ∀ (S : St) (x2 : Int32) (x3 : Int32), fixF (fun _ _ _ => none) (f_X9_layLiteral_4 n x1) d S x2 x3 = some (r, S2) → Keeps wr_X9_layLiteral S0 S → Keeps wr_X9_layLiteral S0 S2 := by
    intro x1  d
    induction d with
    | zero => intro S x2 x3 hf hk; cases hf
    | succ d ih => exact b4 x1  (fixF (fun _ _ _ => none) (f_X9_layLiteral_4 n x1) d) ih
  unfold f_X9_layLiteral at hf
  obtain ⟨x2_49, ex2_49, hf⟩ := bd_inv hf
  obtain ⟨x3_50, ex3_50, hf⟩ := bd_inv hf
  exact j4 a1  n S x2_49 x3_50 hf hk
def wr_X9_layTerms : Nat → Prop := fun c => c = 28 ∨ c = 35 ∨ c = 36 ∨ c = 37 ∨ c = 38 ∨ c = 39 ∨ c = 40
theorem fr_X9_layTerms (n : Nat) (S : St) (r : Unit) (S2 : St) (hf : f_X9_layTerms n S = some (r, S2)) : Keeps (wr_X9_layTerms) S S2 := by
  have hk : Keeps (wr_X9_layTerms) S S := Keeps.rf
  obtain ⟨S0, hS0⟩ : ∃ S0, S0 = S := ⟨S, rfl⟩
  have hk : Keeps (wr_X9_layTerms) S0 S := by rw [hS0]; exact hk
  suffices hh : Keeps (wr_X9_layTerms) S0 S2 by rw [hS0] at hh; exact hh
  have b43 : ∀ (k43 : St → Int32 → Option (Unit × St)) (hk43 : ∀ (S : St) (x1 : Int32), k43 S x1 = some (r, S2) → Keeps wr_X9_layTerms S0 S → Keeps wr_X9_layTerms S0 S2), ∀ (S : St) (x1 : Int32), f_X9_layTerms_43 n k43 S x1 = some (r, S2) → Keeps wr_X9_layTerms S0 S → Keeps wr_X9_layTerms S0 S2 := by
    intro k43 hk43 S x1 hf hk
    unfold f_X9_layTerms_43 at hf
    rcases (Decidable.em ((S.1 28 2) ≤ x1)) with b_1 | b_1
    · have hf := if_t b_1 hf
      exact (rt_inv hf).2 ▸ hk
    · have hf := if_f b_1 hf
      obtain ⟨r_2, S_3, hc_4, hf⟩ := bo_inv hf
      have hk := hk.trans ((fr_X9_layLiteral n _ _ _ _ hc_4).mono (by intro c h; unfold wr_X9_layLiteral at h; unfold wr_X9_layTerms; omega))
      obtain ⟨x1_5, ex1_5, hf⟩ := bd_inv hf
      exact hk43 S_3 x1_5 hf hk
  have j43 : ∀ (d : Nat), ∀ (S : St) (x1 : Int32), fixF (fun _ _ => none) (f_X9_layTerms_43 n) d S x1 = some (r, S2) → Keeps wr_X9_layTerms S0 S → Keeps wr_X9_layTerms S0 S2 := by
    intro   d
    induction d with
    | zero => intro S x1 hf hk; cases hf
    | succ d ih => exact b43   (fixF (fun _ _ => none) (f_X9_layTerms_43 n) d) ih
  have b7 : ∀ (k7 : St → Int32 → Option (Unit × St)) (hk7 : ∀ (S : St) (x1 : Int32), k7 S x1 = some (r, S2) → Keeps wr_X9_layTerms S0 S → Keeps wr_X9_layTerms S0 S2), ∀ (S : St) (x1 : Int32), f_X9_layTerms_7 n k7 S x1 = some (r, S2) → Keeps wr_X9_layTerms S0 S → Keeps wr_X9_layTerms S0 S2 := by
    intro k7 hk7 S x1 hf hk
    unfold f_X9_layTerms_7 at hf
    rcases (Decidable.em ((5 : Int32) ≤ x1)) with b_6 | b_6
    · have hf := if_t b_6 hf
      obtain ⟨x1_7, ex1_7, hf⟩ := bd_inv hf
      exact j43   n S x1_7 hf hk
    · have hf := if_f b_6 hf
      obtain ⟨g_8, hf⟩ := gd_inv hf
      obtain ⟨S_9, eS_9, hf⟩ := bd_inv hf
      have hk := hk.trans (kpI eS_9 (by unfold wr_X9_layTerms; omega))
      obtain ⟨g_10, hf⟩ := gd_inv hf
      obtain ⟨S_11, eS_11, hf⟩ := bd_inv hf
      have hk := hk.trans (kpI eS_11 (by unfold wr_X9_layTerms; omega))
      obtain ⟨g_12, hf⟩ := gd_inv hf
      obtain ⟨S_13, eS_13, hf⟩ := bd_inv hf
      have hk := hk.trans (kpI eS_13 (by unfold wr_X9_layTerms; omega))
      obtain ⟨x1_14, ex1_14, hf⟩ := bd_inv hf
      exact hk7 S_13 x1_14 hf hk
  have j7 : ∀ (d : Nat), ∀ (S : St) (x1 : Int32), fixF (fun _ _ => none) (f_X9_layTerms_7 n) d S x1 = some (r, S2) → Keeps wr_X9_layTerms S0 S → Keeps wr_X9_layTerms S0 S2 := by
    intro   d
    induction d with
    | zero => intro S x1 hf hk; cases hf
    | succ d ih => exact b7   (fixF (fun _ _ => none) (f_X9_layTerms_7 n) d) ih
  unfold f_X9_layTerms at hf
  obtain ⟨S_15, eS_15, hf⟩ := bd_inv hf
  have hk := hk.trans (kpI eS_15 (by unfold wr_X9_layTerms; omega))
  obtain ⟨x1_16, ex1_16, hf⟩ := bd_inv hf
  exact j7   n S_15 x1_16 hf hk
def wr_X9_letter : Nat → Prop := fun c => c = 28 ∨ c = 29
theorem fr_X9_letter (n : Nat) (S : St) (a1 : Int32) (r : Int32) (S2 : St) (hf : f_X9_letter n S a1 = some (r, S2)) : Keeps (wr_X9_letter) S S2 := by
  have hk : Keeps (wr_X9_letter) S S := Keeps.rf
  unfold f_X9_letter at hf
  obtain ⟨r_1, S_2, hc_3, hf⟩ := bo_inv hf
  have hk := hk.trans ((fr_X9_within n _ _ _ _ _ _ hc_3).mono (fun _ h => False.elim h))
  rcases (Decidable.em (r_1 = 0)).symm with b_4 | b_4
  · have hf := if_f b_4 hf
    rcases (Decidable.em ((S_2.1 28 0) = (40 : Int32))).symm with b_5 | b_5
    · have hf := if_f b_5 hf
      obtain ⟨g_6, hf⟩ := gd_inv hf
      obtain ⟨S_7, eS_7, hf⟩ := bd_inv hf
      have hk := hk.trans (kpI eS_7 (by unfold wr_X9_letter; omega))
      obtain ⟨S_8, eS_8, hf⟩ := bd_inv hf
      have hk := hk.trans (kpI eS_8 (by unfold wr_X9_letter; omega))
      exact (rt_inv hf).2 ▸ hk
    · have hf := if_t b_5 hf
      exact (rt_inv hf).2 ▸ hk
  · have hf := if_t b_4 hf
    exact (rt_inv hf).2 ▸ hk
def wr_X9_blank : Nat → Prop := fun c => c = 28
theorem fr_X9_blank (n : Nat) (S : St) (r : Int32) (S2 : St) (hf : f_X9_blank n S = some (r, S2)) : Keeps (wr_X9_blank) S S2 := by
  have hk : Keeps (wr_X9_blank) S S := Keeps.rf
  unfold f_X9_blank at hf
  obtain ⟨x1_1, ex1_1, hf⟩ := bd_inv hf
  obtain ⟨S_2, eS_2, hf⟩ := bd_inv hf
  have hk := hk.trans (kpI eS_2 (by unfold wr_X9_blank; omega))
  exact (rt_inv hf).2 ▸ hk
def wr_X9_begins : Nat → Prop := fun c => c = 28
theorem fr_X9_begins (n : Nat) (S : St) (r : Unit) (S2 : St) (hf : f_X9_begins n S = some (r, S2)) : Keeps (wr_X9_begins) S S2 := by
  have hk : Keeps (wr_X9_begins) S S := Keeps.rf
  unfold f_X9_begins at hf
  obtain ⟨S_1, eS_1, hf⟩ := bd_inv hf
  have hk := hk.trans (kpI eS_1 (by unfold wr_X9_begins; omega))
  obtain ⟨S_2, eS_2, hf⟩ := bd_inv hf
  have hk := hk.trans (kpI eS_2 (by unfold wr_X9_begins; omega))
  obtain ⟨S_3, eS_3, hf⟩ := bd_inv hf
  have hk := hk.trans (kpI eS_3 (by unfold wr_X9_begins; omega))
  obtain ⟨S_4, eS_4, hf⟩ := bd_inv hf
  have hk := hk.trans (kpI eS_4 (by unfold wr_X9_begins; omega))
  obtain ⟨S_5, eS_5, hf⟩ := bd_inv hf
  have hk := hk.trans (kpI eS_5 (by unfold wr_X9_begins; omega))
  obtain ⟨S_6, eS_6, hf⟩ := bd_inv hf
  have hk := hk.trans (kpI eS_6 (by unfold wr_X9_begins; omega))
  exact (rt_inv hf).2 ▸ hk
def wr_X9_takesTerm : Nat → Prop := fun c => c = 28 ∨ c = 34
theorem fr_X9_takesTerm (n : Nat) (S : St) (a1 : Int32) (r : Int32) (S2 : St) (hf : f_X9_takesTerm n S a1 = some (r, S2)) : Keeps (wr_X9_takesTerm) S S2 := by
  have hk : Keeps (wr_X9_takesTerm) S S := Keeps.rf
  obtain ⟨S0, hS0⟩ : ∃ S0, S0 = S := ⟨S, rfl⟩
  have hk : Keeps (wr_X9_takesTerm) S0 S := by rw [hS0]; exact hk
  suffices hh : Keeps (wr_X9_takesTerm) S0 S2 by rw [hS0] at hh; exact hh
  have j51 : ∀ (S : St) (t1 : Int32) (t2 : Int32), f_X9_takesTerm_51 n S t1 t2 = some (r, S2) → Keeps wr_X9_takesTerm S0 S → Keeps wr_X9_takesTerm S0 S2 := by
    intro S t1 t2 hf hk
    unfold f_X9_takesTerm_51 at hf
    obtain ⟨g_1, hf⟩ := gd_inv hf
    obtain ⟨S_2, eS_2, hf⟩ := bd_inv hf
    have hk := hk.trans (kpI eS_2 (by unfold wr_X9_takesTerm; omega))
    obtain ⟨S_3, eS_3, hf⟩ := bd_inv hf
    have hk := hk.trans (kpI eS_3 (by unfold wr_X9_takesTerm; omega))
    obtain ⟨S_4, eS_4, hf⟩ := bd_inv hf
    have hk := hk.trans (kpI eS_4 (by unfold wr_X9_takesTerm; omega))
    exact (rt_inv hf).2 ▸ hk
  have j30 : ∀ (S : St) (x1 : Int32), f_X9_takesTerm_30 n S x1 = some (r, S2) → Keeps wr_X9_takesTerm S0 S → Keeps wr_X9_takesTerm S0 S2 := by
    intro S x1 hf hk
    unfold f_X9_takesTerm_30 at hf
    rcases (Decidable.em (x1 = (102 : Int32))).symm with b_5 | b_5
    · have hf := if_f b_5 hf
      exact j51   S ((S.1 28 11)) ((44 : Int32)) hf hk
    · have hf := if_t b_5 hf
      exact j51   S ((S.1 28 11)) ((41 : Int32)) hf hk
  unfold f_X9_takesTerm at hf
  obtain ⟨r_6, S_7, hc_8, hf⟩ := bo_inv hf
  have hk := hk.trans ((fr_X9_within n _ _ _ _ _ _ hc_8).mono (fun _ h => False.elim h))
  rcases (Decidable.em (r_6 = 0)) with b_9 | b_9
  · have hf := if_t b_9 hf
    rcases (Decidable.em (a1 = (102 : Int32))) with b_10 | b_10
    · have hf := if_t b_10 hf
      exact j30   S_7 a1 hf hk
    · have hf := if_f b_10 hf
      rcases (Decidable.em (a1 = (103 : Int32))).symm with b_11 | b_11
      · have hf := if_f b_11 hf
        exact (rt_inv hf).2 ▸ hk
      · have hf := if_t b_11 hf
        exact j30   S_7 a1 hf hk
  · have hf := if_f b_9 hf
    obtain ⟨S_12, eS_12, hf⟩ := bd_inv hf
    have hk := hk.trans (kpI eS_12 (by unfold wr_X9_takesTerm; omega))
    exact (rt_inv hf).2 ▸ hk
def wr_X9_takesSign : Nat → Prop := fun c => c = 28
theorem fr_X9_takesSign (n : Nat) (S : St) (a1 : Int32) (r : Int32) (S2 : St) (hf : f_X9_takesSign n S a1 = some (r, S2)) : Keeps (wr_X9_takesSign) S S2 := by
  have hk : Keeps (wr_X9_takesSign) S S := Keeps.rf
  obtain ⟨S0, hS0⟩ : ∃ S0, S0 = S := ⟨S, rfl⟩
  have hk : Keeps (wr_X9_takesSign) S0 S := by rw [hS0]; exact hk
  suffices hh : Keeps (wr_X9_takesSign) S0 S2 by rw [hS0] at hh; exact hh
  have j30 : ∀ (S : St) (x1 : Int32) (t0 : Int32), f_X9_takesSign_30 n S x1 t0 = some (r, S2) → Keeps wr_X9_takesSign S0 S → Keeps wr_X9_takesSign S0 S2 := by
    intro S x1 t0 hf hk
    unfold f_X9_takesSign_30 at hf
    obtain ⟨x2_1, ex2_1, hf⟩ := bd_inv hf
    rcases (Decidable.em (x2_1 = 0)) with b_2 | b_2
    · have hf := if_t b_2 hf
      obtain ⟨g_3, hf⟩ := gd_inv hf
      exact (rt_inv hf).2 ▸ hk
    · have hf := if_f b_2 hf
      obtain ⟨S_4, eS_4, hf⟩ := bd_inv hf
      have hk := hk.trans (kpI eS_4 (by unfold wr_X9_takesSign; omega))
      obtain ⟨S_5, eS_5, hf⟩ := bd_inv hf
      have hk := hk.trans (kpI eS_5 (by unfold wr_X9_takesSign; omega))
      obtain ⟨S_6, eS_6, hf⟩ := bd_inv hf
      have hk := hk.trans (kpI eS_6 (by unfold wr_X9_takesSign; omega))
      obtain ⟨g_7, hf⟩ := gd_inv hf
      exact (rt_inv hf).2 ▸ hk
  have j29 : ∀ (S : St) (x1 : Int32), f_X9_takesSign_29 n S x1 = some (r, S2) → Keeps wr_X9_takesSign S0 S → Keeps wr_X9_takesSign S0 S2 := by
    intro S x1 hf hk
    unfold f_X9_takesSign_29 at hf
    exact j30   S x1 ((0 : Int32)) hf hk
  have j25 : ∀ (S : St) (x1 : Int32), f_X9_takesSign_25 n S x1 = some (r, S2) → Keeps wr_X9_takesSign S0 S → Keeps wr_X9_takesSign S0 S2 := by
    intro S x1 hf hk
    unfold f_X9_takesSign_25 at hf
    exact j30   S x1 ((1 : Int32)) hf hk
  unfold f_X9_takesSign at hf
  rcases (Decidable.em ((S.1 28 13) = 0)).symm with b_8 | b_8
  · have hf := if_f b_8 hf
    exact j29   S a1 hf hk
  · have hf := if_t b_8 hf
    rcases (Decidable.em (a1 = (61 : Int32))) with b_9 | b_9
    · have hf := if_t b_9 hf
      exact j25   S a1 hf hk
    · have hf := if_f b_9 hf
      rcases (Decidable.em (a1 = (35 : Int32))) with b_10 | b_10
      · have hf := if_t b_10 hf
        exact j25   S a1 hf hk
      · have hf := if_f b_10 hf
        rcases (Decidable.em (a1 = (60 : Int32))).symm with b_11 | b_11
        · have hf := if_f b_11 hf
          exact j29   S a1 hf hk
        · have hf := if_t b_11 hf
          exact j25   S a1 hf hk
def wr_X9_takesBehind : Nat → Prop := fun c => c = 28 ∨ c = 34
theorem fr_X9_takesBehind (n : Nat) (S : St) (a1 : Int32) (r : Int32) (S2 : St) (hf : f_X9_takesBehind n S a1 = some (r, S2)) : Keeps (wr_X9_takesBehind) S S2 := by
  have hk : Keeps (wr_X9_takesBehind) S S := Keeps.rf
  obtain ⟨S0, hS0⟩ : ∃ S0, S0 = S := ⟨S, rfl⟩
  have hk : Keeps (wr_X9_takesBehind) S0 S := by rw [hS0]; exact hk
  suffices hh : Keeps (wr_X9_takesBehind) S0 S2 by rw [hS0] at hh; exact hh
  have j113 : ∀ (S : St) (x1 : Int32), f_X9_takesBehind_113 n S x1 = some (r, S2) → Keeps wr_X9_takesBehind S0 S → Keeps wr_X9_takesBehind S0 S2 := by
    intro S x1 hf hk
    unfold f_X9_takesBehind_113 at hf
    obtain ⟨r_1, S_2, hc_3, hf⟩ := bo_inv hf
    have hk := hk.trans ((fr_X9_takesSign n _ _ _ _ hc_3).mono (by intro c h; unfold wr_X9_takesSign at h; unfold wr_X9_takesBehind; omega))
    obtain ⟨g_4, hf⟩ := gd_inv hf
    exact (rt_inv hf).2 ▸ hk
  have j103 : ∀ (S : St) (t1 : Int32), f_X9_takesBehind_103 n S t1 = some (r, S2) → Keeps wr_X9_takesBehind S0 S → Keeps wr_X9_takesBehind S0 S2 := by
    intro S t1 hf hk
    unfold f_X9_takesBehind_103 at hf
    obtain ⟨g_6, hf⟩ := gd_inv hf
    obtain ⟨S_5, eS_5, hf⟩ := bd_inv hf
    have hk := hk.trans (kpI eS_5 (by unfold wr_X9_takesBehind; omega))
    obtain ⟨S_7, eS_7, hf⟩ := bd_inv hf
    have hk := hk.trans (kpI eS_7 (by unfold wr_X9_takesBehind; omega))
    exact (rt_inv hf).2 ▸ hk
  have j91 : ∀ (S : St) (x1 : Int32), f_X9_takesBehind_91 n S x1 = some (r, S2) → Keeps wr_X9_takesBehind S0 S → Keeps wr_X9_takesBehind S0 S2 := by
    intro S x1 hf hk
    unfold f_X9_takesBehind_91 at hf
    rcases (Decidable.em (x1 = (45 : Int32))).symm with b_8 | b_8
    · have hf := if_f b_8 hf
      exact j103   S ((0 : Int32)) hf hk
    · have hf := if_t b_8 hf
      exact j103   S ((1 : Int32)) hf hk
  unfold f_X9_takesBehind at hf
  rcases (Decidable.em ((S.1 28 11) ≤ 0)) with b_9 | b_9
  · have hf := if_t b_9 hf
    rcases (Decidable.em ((S.1 28 13) = 0)) with b_10 | b_10
    · have hf := if_t b_10 hf
      exact j113   S a1 hf hk
    · have hf := if_f b_10 hf
      rcases (Decidable.em ((S.1 28 14) = (60 : Int32))).symm with b_11 | b_11
      · have hf := if_f b_11 hf
        exact j113   S a1 hf hk
      · have hf := if_t b_11 hf
        rcases (Decidable.em (a1 = (43 : Int32))) with b_12 | b_12
        · have hf := if_t b_12 hf
          exact j91   S a1 hf hk
        · have hf := if_f b_12 hf
          rcases (Decidable.em (a1 = (45 : Int32))).symm with b_13 | b_13
          · have hf := if_f b_13 hf
            exact j113   S a1 hf hk
          · have hf := if_t b_13 hf
            exact j91   S a1 hf hk
  · have hf := if_f b_9 hf
    obtain ⟨g_14, hf⟩ := gd_inv hf
    rcases (Decidable.em (a1 = (S.1 34 (((S.1 28 11) - (1 : Int32))).toNatClampNeg))) with b_15 | b_15
    · have hf := if_t b_15 hf
      rcases (Decidable.em (a1 = (44 : Int32))).symm with b_16 | b_16
      · have hf := if_f b_16 hf
        obtain ⟨S_17, eS_17, hf⟩ := bd_inv hf
        have hk := hk.trans (kpI eS_17 (by unfold wr_X9_takesBehind; omega))
        exact (rt_inv hf).2 ▸ hk
      · have hf := if_t b_16 hf
        obtain ⟨g_18, hf⟩ := gd_inv hf
        obtain ⟨S_19, eS_19, hf⟩ := bd_inv hf
        have hk := hk.trans (kpI eS_19 (by unfold wr_X9_takesBehind; omega))
        obtain ⟨S_20, eS_20, hf⟩ := bd_inv hf
        have hk := hk.trans (kpI eS_20 (by unfold wr_X9_takesBehind; omega))
        exact (rt_inv hf).2 ▸ hk
    · have hf := if_f b_15 hf
      exact (rt_inv hf).2 ▸ hk
def wr_X9_takesFigure : Nat → Prop := fun c => c = 28
theorem fr_X9_takesFigure (n : Nat) (S : St) (a1 : Int32) (r : Int32) (S2 : St) (hf : f_X9_takesFigure n S a1 = some (r, S2)) : Keeps (wr_X9_takesFigure) S S2 := by
  have hk : Keeps (wr_X9_takesFigure) S S := Keeps.rf
  obtain ⟨S0, hS0⟩ : ∃ S0, S0 = S := ⟨S, rfl⟩
  have hk : Keeps (wr_X9_takesFigure) S0 S := by rw [hS0]; exact hk
  suffices hh : Keeps (wr_X9_takesFigure) S0 S2 by rw [hS0] at hh; exact hh
  have j71 : ∀ (S : St) (x2 : Int32) (t1 : Int32), f_X9_takesFigure_71 n S x2 t1 = some (r, S2) → Keeps wr_X9_takesFigure S0 S → Keeps wr_X9_takesFigure S0 S2 := by
    intro S x2 t1 hf hk
    unfold f_X9_takesFigure_71 at hf
    obtain ⟨S_1, eS_1, hf⟩ := bd_inv hf
    have hk := hk.trans (kpI eS_1 (by unfold wr_X9_takesFigure; omega))
    obtain ⟨g_2, hf⟩ := gd_inv hf
    exact (rt_inv hf).2 ▸ hk
  have j46 : ∀ (S : St) (x1 : Int32) (t0 : Int32), f_X9_takesFigure_46 n S x1 t0 = some (r, S2) → Keeps wr_X9_takesFigure S0 S → Keeps wr_X9_takesFigure S0 S2 := by
    intro S x1 t0 hf hk
    unfold f_X9_takesFigure_46 at hf
    obtain ⟨x2_3, ex2_3, hf⟩ := bd_inv hf
    rcases (Decidable.em (x2_3 = 0)) with b_4 | b_4
    · have hf := if_t b_4 hf
      exact j71   S x2_3 ((S.1 28 15)) hf hk
    · have hf := if_f b_4 hf
      exact j71   S x2_3 (((((10 : Int32) * (S.1 28 15)) + x1) - (48 : Int32))) hf hk
  have j45 : ∀ (S : St) (x1 : Int32), f_X9_takesFigure_45 n S x1 = some (r, S2) → Keeps wr_X9_takesFigure S0 S → Keeps wr_X9_takesFigure S0 S2 := by
    intro S x1 hf hk
    unfold f_X9_takesFigure_45 at hf
    exact j46   S x1 ((0 : Int32)) hf hk
  have j24 : ∀ (S : St) (x1 : Int32), f_X9_takesFigure_24 n S x1 = some (r, S2) → Keeps wr_X9_takesFigure S0 S → Keeps wr_X9_takesFigure S0 S2 := by
    intro S x1 hf hk
    unfold f_X9_takesFigure_24 at hf
    rcases (Decidable.em ((1000000 : Int32) ≤ ((((10 : Int32) * (S.1 28 15)) + x1) - (48 : Int32)))) with b_5 | b_5
    · have hf := if_t b_5 hf
      exact j45   S x1 hf hk
    · have hf := if_f b_5 hf
      exact j46   S x1 ((1 : Int32)) hf hk
  unfold f_X9_takesFigure at hf
  obtain ⟨r_6, S_7, hc_8, hf⟩ := bo_inv hf
  have hk := hk.trans ((fr_X9_within n _ _ _ _ _ _ hc_8).mono (fun _ h => False.elim h))
  rcases (Decidable.em (r_6 = 0)) with b_9 | b_9
  · have hf := if_t b_9 hf
    exact j45   S_7 a1 hf hk
  · have hf := if_f b_9 hf
    rcases (Decidable.em (0 < (S_7.1 28 15))) with b_10 | b_10
    · have hf := if_t b_10 hf
      exact j24   S_7 a1 hf hk
    · have hf := if_f b_10 hf
      rcases (Decidable.em (a1 ≤ (48 : Int32))) with b_11 | b_11
      · have hf := if_t b_11 hf
        exact j45   S_7 a1 hf hk
      · have hf := if_f b_11 hf
        exact j24   S_7 a1 hf hk
def wr_X9_takes : Nat → Prop := fun c => c = 28 ∨ c = 34
theorem fr_X9_takes (n : Nat) (S : St) (a1 : Int32) (r : Int32) (S2 : St) (hf : f_X9_takes n S a1 = some (r, S2)) : Keeps (wr_X9_takes) S S2 := by
  have hk : Keeps (wr_X9_takes) S S := Keeps.rf
  obtain ⟨S0, hS0⟩ : ∃ S0, S0 = S := ⟨S, rfl⟩
  have hk : Keeps (wr_X9_takes) S0 S := by rw [hS0]; exact hk
  suffices hh : Keeps (wr_X9_takes) S0 S2 by rw [hS0] at hh; exact hh
  have j36 : ∀ (S : St) (x1 : Int32) (t1 : Int32), f_X9_takes_36 n S x1 t1 = some (r, S2) → Keeps wr_X9_takes S0 S → Keeps wr_X9_takes S0 S2 := by
    intro S x1 t1 hf hk
    unfold f_X9_takes_36 at hf
    obtain ⟨S_1, eS_1, hf⟩ := bd_inv hf
    have hk := hk.trans (kpI eS_1 (by unfold wr_X9_takes; omega))
    rcases (Decidable.em (x1 = (40 : Int32))).symm with b_2 | b_2
    · have hf := if_f b_2 hf
      exact (rt_inv hf).2 ▸ hk
    · have hf := if_t b_2 hf
      exact (rt_inv hf).2 ▸ hk
  unfold f_X9_takes at hf
  rcases (Decidable.em ((S.1 28 10) = 0)).symm with b_3 | b_3
  · have hf := if_f b_3 hf
    rcases (Decidable.em ((S.1 28 10) = (1 : Int32))).symm with b_4 | b_4
    · have hf := if_f b_4 hf
      rcases (Decidable.em ((S.1 28 10) = (2 : Int32))).symm with b_5 | b_5
      · have hf := if_f b_5 hf
        obtain ⟨r_6, S_7, hc_8, hf⟩ := bo_inv hf
        have hk := hk.trans ((fr_X9_takesFigure n _ _ _ _ hc_8).mono (by intro c h; unfold wr_X9_takesFigure at h; unfold wr_X9_takes; omega))
        obtain ⟨g_9, hf⟩ := gd_inv hf
        exact (rt_inv hf).2 ▸ hk
      · have hf := if_t b_5 hf
        obtain ⟨r_10, S_11, hc_12, hf⟩ := bo_inv hf
        have hk := hk.trans ((fr_X9_takesBehind n _ _ _ _ hc_12).mono (by intro c h; unfold wr_X9_takesBehind at h; unfold wr_X9_takes; omega))
        obtain ⟨g_13, hf⟩ := gd_inv hf
        exact (rt_inv hf).2 ▸ hk
    · have hf := if_t b_4 hf
      rcases (Decidable.em (a1 = (40 : Int32))).symm with b_14 | b_14
      · have hf := if_f b_14 hf
        exact j36   S a1 ((S.1 28 10)) hf hk
      · have hf := if_t b_14 hf
        exact j36   S a1 ((0 : Int32)) hf hk
  · have hf := if_t b_3 hf
    obtain ⟨r_15, S_16, hc_17, hf⟩ := bo_inv hf
    have hk := hk.trans ((fr_X9_takesTerm n _ _ _ _ hc_17).mono (by intro c h; unfold wr_X9_takesTerm at h; unfold wr_X9_takes; omega))
    obtain ⟨g_18, hf⟩ := gd_inv hf
    exact (rt_inv hf).2 ▸ hk
def wr_X9_goAlong : Nat → Prop := fun c => c = 28 ∨ c = 34
theorem fr_X9_goAlong (n : Nat) (S : St) (r : Int32) (S2 : St) (hf : f_X9_goAlong n S = some (r, S2)) : Keeps (wr_X9_goAlong) S S2 := by
  have hk : Keeps (wr_X9_goAlong) S S := Keeps.rf
  obtain ⟨S0, hS0⟩ : ∃ S0, S0 = S := ⟨S, rfl⟩
  have hk : Keeps (wr_X9_goAlong) S0 S := by rw [hS0]; exact hk
  suffices hh : Keeps (wr_X9_goAlong) S0 S2 by rw [hS0] at hh; exact hh
  have j52 : ∀ (k11 : St → Int32 → Option (Int32 × St)) (hk11 : ∀ (S : St) (x1 : Int32), k11 S x1 = some (r, S2) → Keeps wr_X9_goAlong S0 S → Keeps wr_X9_goAlong S0 S2), ∀ (S : St) (x1 : Int32) (t1 : Int32), f_X9_goAlong_52 n k11 S x1 t1 = some (r, S2) → Keeps wr_X9_goAlong S0 S → Keeps wr_X9_goAlong S0 S2 := by
    intro k11 hk11 S x1 t1 hf hk
    unfold f_X9_goAlong_52 at hf
    obtain ⟨S_1, eS_1, hf⟩ := bd_inv hf
    have hk := hk.trans (kpI eS_1 (by unfold wr_X9_goAlong; omega))
    exact hk11 S_1 x1 hf hk
  have b11 : ∀ (k11 : St → Int32 → Option (Int32 × St)) (hk11 : ∀ (S : St) (x1 : Int32), k11 S x1 = some (r, S2) → Keeps wr_X9_goAlong S0 S → Keeps wr_X9_goAlong S0 S2), ∀ (S : St) (x1 : Int32), f_X9_goAlong_11 n k11 S x1 = some (r, S2) → Keeps wr_X9_goAlong S0 S → Keeps wr_X9_goAlong S0 S2 := by
    intro k11 hk11 S x1 hf hk
    unfold f_X9_goAlong_11 at hf
    rcases (Decidable.em ((S.1 28 0) ≤ x1)) with b_2 | b_2
    · have hf := if_t b_2 hf
      exact (rt_inv hf).2 ▸ hk
    · have hf := if_f b_2 hf
      obtain ⟨g_3, hf⟩ := gd_inv hf
      obtain ⟨r_4, S_5, hc_6, hf⟩ := bo_inv hf
      have hk := hk.trans ((fr_X9_takes n _ _ _ _ hc_6).mono (by intro c h; unfold wr_X9_takes at h; unfold wr_X9_goAlong; omega))
      rcases (Decidable.em (r_4 = 0)) with b_7 | b_7
      · have hf := if_t b_7 hf
        exact (rt_inv hf).2 ▸ hk
      · have hf := if_f b_7 hf
        obtain ⟨x1_8, ex1_8, hf⟩ := bd_inv hf
        rcases (Decidable.em ((S_5.1 28 10) = (3 : Int32))).symm with b_9 | b_9
        · have hf := if_f b_9 hf
          exact j52  k11 hk11 S_5 x1_8 x1_8 hf hk
        · have hf := if_t b_9 hf
          exact j52  k11 hk11 S_5 x1_8 ((S_5.1 28 17)) hf hk
  have j11 : ∀ (d : Nat), ∀ (S : St) (x1 : Int32), fixF (fun _ _ => none) (f_X9_goAlong_11 n) d S x1 = some (r, S2) → Keeps wr_X9_goAlong S0 S → Keeps wr_X9_goAlong S0 S2 := by
    intro   d
    induction d with
    | zero => intro S x1 hf hk; cases hf
    | succ d ih => exact b11   (fixF (fun _ _ => none) (f_X9_goAlong_11 n) d) ih
  unfold f_X9_goAlong at hf
  obtain ⟨r_10, S_11, hc_12, hf⟩ := bo_inv hf
  have hk := hk.trans ((fr_X9_begins n _ _ _ hc_12).mono (by intro c h; unfold wr_X9_begins at h; unfold wr_X9_goAlong; omega))
  obtain ⟨x1_13, ex1_13, hf⟩ := bd_inv hf
  obtain ⟨S_14, eS_14, hf⟩ := bd_inv hf
  have hk := hk.trans (kpI eS_14 (by unfold wr_X9_goAlong; omega))
  exact j11   n S_14 x1_13 hf hk
def wr_X9_fault : Nat → Prop := fun c => c = 28 ∨ c = 34
theorem fr_X9_fault (n : Nat) (S : St) (r : Int32) (S2 : St) (hf : f_X9_fault n S = some (r, S2)) : Keeps (wr_X9_fault) S S2 := by
  have hk : Keeps (wr_X9_fault) S S := Keeps.rf
  unfold f_X9_fault at hf
  obtain ⟨r_1, S_2, hc_3, hf⟩ := bo_inv hf
  have hk := hk.trans ((fr_X9_goAlong n _ _ _ hc_3).mono (by intro c h; unfold wr_X9_goAlong at h; unfold wr_X9_fault; omega))
  exact (rt_inv hf).2 ▸ hk
def wr_X9_isWhole : Nat → Prop := fun c => False
theorem fr_X9_isWhole (n : Nat) (S : St) (r : Int32) (S2 : St) (hf : f_X9_isWhole n S = some (r, S2)) : Keeps (wr_X9_isWhole) S S2 := by
  have hk : Keeps (wr_X9_isWhole) S S := Keeps.rf
  obtain ⟨S0, hS0⟩ : ∃ S0, S0 = S := ⟨S, rfl⟩
  have hk : Keeps (wr_X9_isWhole) S0 S := by rw [hS0]; exact hk
  suffices hh : Keeps (wr_X9_isWhole) S0 S2 by rw [hS0] at hh; exact hh
  have j37 : ∀ (S : St), f_X9_isWhole_37 n S = some (r, S2) → Keeps wr_X9_isWhole S0 S → Keeps wr_X9_isWhole S0 S2 := by
    intro S hf hk
    unfold f_X9_isWhole_37 at hf
    exact (rt_inv hf).2 ▸ hk
  unfold f_X9_isWhole at hf
  rcases (Decidable.em ((S.1 28 13) = 0)) with b_1 | b_1
  · have hf := if_t b_1 hf
    exact (rt_inv hf).2 ▸ hk
  · have hf := if_f b_1 hf
    rcases (Decidable.em ((S.1 28 11) = 0)).symm with b_2 | b_2
    · have hf := if_f b_2 hf
      exact (rt_inv hf).2 ▸ hk
    · have hf := if_t b_2 hf
      rcases (Decidable.em ((S.1 28 10) = (2 : Int32))) with b_3 | b_3
      · have hf := if_t b_3 hf
        exact j37   S  hf hk
      · have hf := if_f b_3 hf
        rcases (Decidable.em ((S.1 28 10) = (3 : Int32))).symm with b_4 | b_4
        · have hf := if_f b_4 hf
          exact (rt_inv hf).2 ▸ hk
        · have hf := if_t b_4 hf
          rcases (Decidable.em ((S.1 28 15) ≤ 0)) with b_5 | b_5
          · have hf := if_t b_5 hf
            exact (rt_inv hf).2 ▸ hk
          · have hf := if_f b_5 hf
            exact j37   S  hf hk
def wr_X9_add : Nat → Prop := fun c => c = 28 ∨ c = 30 ∨ c = 31 ∨ c = 32 ∨ c = 33 ∨ c = 34 ∨ c = 35 ∨ c = 36 ∨ c = 37 ∨ c = 38 ∨ c = 39 ∨ c = 40
theorem fr_X9_add (n : Nat) (S : St) (r : Int32) (S2 : St) (hf : f_X9_add n S = some (r, S2)) : Keeps (wr_X9_add) S S2 := by
  have hk : Keeps (wr_X9_add) S S := Keeps.rf
  obtain ⟨S0, hS0⟩ : ∃ S0, S0 = S := ⟨S, rfl⟩
  have hk : Keeps (wr_X9_add) S0 S := by rw [hS0]; exact hk
  suffices hh : Keeps (wr_X9_add) S0 S2 by rw [hS0] at hh; exact hh
  have j169 : ∀ (S : St) (t1 : Int32) (t2 : Int32), f_X9_add_169 n S t1 t2 = some (r, S2) → Keeps wr_X9_add S0 S → Keeps wr_X9_add S0 S2 := by
    intro S t1 t2 hf hk
    unfold f_X9_add_169 at hf
    obtain ⟨g_1, hf⟩ := gd_inv hf
    obtain ⟨S_2, eS_2, hf⟩ := bd_inv hf
    have hk := hk.trans (kpI eS_2 (by unfold wr_X9_add; omega))
    obtain ⟨S_3, eS_3, hf⟩ := bd_inv hf
    have hk := hk.trans (kpI eS_3 (by unfold wr_X9_add; omega))
    obtain ⟨S_4, eS_4, hf⟩ := bd_inv hf
    have hk := hk.trans (kpI eS_4 (by unfold wr_X9_add; omega))
    obtain ⟨S_5, eS_5, hf⟩ := bd_inv hf
    have hk := hk.trans (kpI eS_5 (by unfold wr_X9_add; omega))
    exact (rt_inv hf).2 ▸ hk
  have j141 : ∀ (S : St) (t1 : Int32) (t2 : Int32), f_X9_add_141 n S t1 t2 = some (r, S2) → Keeps wr_X9_add S0 S → Keeps wr_X9_add S0 S2 := by
    intro S t1 t2 hf hk
    unfold f_X9_add_141 at hf
    obtain ⟨g_6, hf⟩ := gd_inv hf
    obtain ⟨S_7, eS_7, hf⟩ := bd_inv hf
    have hk := hk.trans (kpI eS_7 (by unfold wr_X9_add; omega))
    rcases (Decidable.em ((S_7.1 28 16) = 0)) with b_8 | b_8
    · have hf := if_t b_8 hf
      exact j169   S_7 ((S_7.1 28 2)) ((S_7.1 28 15)) hf hk
    · have hf := if_f b_8 hf
      exact j169   S_7 ((S_7.1 28 2)) ((-(S_7.1 28 15))) hf hk
  have b35 : ∀ (k35 : St → Int32 → Option (Int32 × St)) (hk35 : ∀ (S : St) (x1 : Int32), k35 S x1 = some (r, S2) → Keeps wr_X9_add S0 S → Keeps wr_X9_add S0 S2), ∀ (S : St) (x1 : Int32), f_X9_add_35 n k35 S x1 = some (r, S2) → Keeps wr_X9_add S0 S → Keeps wr_X9_add S0 S2 := by
    intro k35 hk35 S x1 hf hk
    unfold f_X9_add_35 at hf
    rcases (Decidable.em ((S.1 28 17) ≤ x1)) with b_9 | b_9
    · have hf := if_t b_9 hf
      obtain ⟨g_10, hf⟩ := gd_inv hf
      obtain ⟨S_11, eS_11, hf⟩ := bd_inv hf
      have hk := hk.trans (kpI eS_11 (by unfold wr_X9_add; omega))
      obtain ⟨r_12, S_13, hc_14, hf⟩ := bo_inv hf
      have hk := hk.trans ((fr_X9_layLiteral n _ _ _ _ hc_14).mono (by intro c h; unfold wr_X9_layLiteral at h; unfold wr_X9_add; omega))
      rcases (Decidable.em ((S_13.1 28 18) ≤ (10 : Int32))) with b_15 | b_15
      · have hf := if_t b_15 hf
        rcases (Decidable.em ((S_13.1 28 14) = (61 : Int32))).symm with b_16 | b_16
        · have hf := if_f b_16 hf
          rcases (Decidable.em ((S_13.1 28 14) = (35 : Int32))).symm with b_17 | b_17
          · have hf := if_f b_17 hf
            exact j141   S_13 ((S_13.1 28 2)) ((2 : Int32)) hf hk
          · have hf := if_t b_17 hf
            exact j141   S_13 ((S_13.1 28 2)) ((1 : Int32)) hf hk
        · have hf := if_t b_16 hf
          exact j141   S_13 ((S_13.1 28 2)) ((0 : Int32)) hf hk
      · have hf := if_f b_15 hf
        obtain ⟨r_18, S_19, hc_20, hf⟩ := bo_inv hf
        have hk := hk.trans ((fr_X9_layTerms n _ _ _ hc_20).mono (by intro c h; unfold wr_X9_layTerms at h; unfold wr_X9_add; omega))
        exact (rt_inv hf).2 ▸ hk
    · have hf := if_f b_9 hf
      obtain ⟨g_21, hf⟩ := gd_inv hf
      obtain ⟨g_22, hf⟩ := gd_inv hf
      obtain ⟨S_23, eS_23, hf⟩ := bd_inv hf
      have hk := hk.trans (kpI eS_23 (by unfold wr_X9_add; omega))
      obtain ⟨x1_24, ex1_24, hf⟩ := bd_inv hf
      exact hk35 S_23 x1_24 hf hk
  have j35 : ∀ (d : Nat), ∀ (S : St) (x1 : Int32), fixF (fun _ _ => none) (f_X9_add_35 n) d S x1 = some (r, S2) → Keeps wr_X9_add S0 S → Keeps wr_X9_add S0 S2 := by
    intro   d
    induction d with
    | zero => intro S x1 hf hk; cases hf
    | succ d ih => exact b35   (fixF (fun _ _ => none) (f_X9_add_35 n) d) ih
  unfold f_X9_add at hf
  obtain ⟨r_25, S_26, hc_27, hf⟩ := bo_inv hf
  have hk := hk.trans ((fr_X9_goAlong n _ _ _ hc_27).mono (by intro c h; unfold wr_X9_goAlong at h; unfold wr_X9_add; omega))
  rcases (Decidable.em (r_25 < (S_26.1 28 0))) with b_28 | b_28
  · have hf := if_t b_28 hf
    exact (rt_inv hf).2 ▸ hk
  · have hf := if_f b_28 hf
    obtain ⟨r_29, S_30, hc_31, hf⟩ := bo_inv hf
    have hk := hk.trans ((fr_X9_isWhole n _ _ _ hc_31).mono (fun _ h => False.elim h))
    rcases (Decidable.em (r_29 = 0)).symm with b_32 | b_32
    · have hf := if_f b_32 hf
      rcases (Decidable.em ((S_30.1 28 2) = (10 : Int32))).symm with b_33 | b_33
      · have hf := if_f b_33 hf
        obtain ⟨x1_34, ex1_34, hf⟩ := bd_inv hf
        exact j35   n S_30 x1_34 hf hk
      · have hf := if_t b_33 hf
        exact (rt_inv hf).2 ▸ hk
    · have hf := if_t b_32 hf
      exact (rt_inv hf).2 ▸ hk
def wr_X9_isLiteral : Nat → Prop := fun c => False
theorem fr_X9_isLiteral (n : Nat) (S : St) (a1 : Int32) (r : Int32) (S2 : St) (hf : f_X9_isLiteral n S a1 = some (r, S2)) : Keeps (wr_X9_isLiteral) S S2 := by
  have hk : Keeps (wr_X9_isLiteral) S S := Keeps.rf
  unfold f_X9_isLiteral at hf
  obtain ⟨r_1, S_2, hc_3, hf⟩ := bo_inv hf
  have hk := hk.trans ((fr_X9_within n _ _ _ _ _ _ hc_3).mono (fun _ h => False.elim h))
  obtain ⟨g_4, hf⟩ := gd_inv hf
  exact (rt_inv hf).2 ▸ hk
def wr_X9_drop : Nat → Prop := fun c => c = 28 ∨ c = 30 ∨ c = 31 ∨ c = 32 ∨ c = 33 ∨ c = 35 ∨ c = 36 ∨ c = 37 ∨ c = 38 ∨ c = 39 ∨ c = 40
theorem fr_X9_drop (n : Nat) (S : St) (a1 : Int32) (r : Int32) (S2 : St) (hf : f_X9_drop n S a1 = some (r, S2)) : Keeps (wr_X9_drop) S S2 := by
  have hk : Keeps (wr_X9_drop) S S := Keeps.rf
  obtain ⟨S0, hS0⟩ : ∃ S0, S0 = S := ⟨S, rfl⟩
  have hk : Keeps (wr_X9_drop) S0 S := by rw [hS0]; exact hk
  suffices hh : Keeps (wr_X9_drop) S0 S2 by rw [hS0] at hh; exact hh
  have b85 : ∀ (x2 : Int32) (k33 : St → Int32 → Option (Int32 × St)) (hk33 : ∀ (S : St) (x2 : Int32), k33 S x2 = some (r, S2) → Keeps wr_X9_drop S0 S → Keeps wr_X9_drop S0 S2) (k85 : St → Int32 → Option (Int32 × St)) (hk85 : ∀ (S : St) (x3 : Int32), k85 S x3 = some (r, S2) → Keeps wr_X9_drop S0 S → Keeps wr_X9_drop S0 S2), ∀ (S : St) (x3 : Int32), f_X9_drop_85 n x2 k33 k85 S x3 = some (r, S2) → Keeps wr_X9_drop S0 S → Keeps wr_X9_drop S0 S2 := by
    intro x2 k33 hk33 k85 hk85 S x3 hf hk
    unfold f_X9_drop_85 at hf
    rcases (Decidable.em ((40 : Int32) ≤ x3)) with b_1 | b_1
    · have hf := if_t b_1 hf
      obtain ⟨x2_2, ex2_2, hf⟩ := bd_inv hf
      exact hk33 S x2_2 hf hk
    · have hf := if_f b_1 hf
      obtain ⟨g_3, hf⟩ := gd_inv hf
      obtain ⟨g_4, hf⟩ := gd_inv hf
      obtain ⟨S_5, eS_5, hf⟩ := bd_inv hf
      have hk := hk.trans (kpI eS_5 (by unfold wr_X9_drop; omega))
      obtain ⟨x3_6, ex3_6, hf⟩ := bd_inv hf
      exact hk85 S_5 x3_6 hf hk
  have j85 : ∀ (x2 : Int32) (k33 : St → Int32 → Option (Int32 × St)) (hk33 : ∀ (S : St) (x2 : Int32), k33 S x2 = some (r, S2) → Keeps wr_X9_drop S0 S → Keeps wr_X9_drop S0 S2) (d : Nat), ∀ (S : St) (x3 : Int32), fixF (fun _ _ => none) (f_X9_drop_85 n x2 k33) d S x3 = some (r, S2) → Keeps wr_X9_drop S0 S → Keeps wr_X9_drop S0 S2 := by
    intro x2 k33 hk33 d
    induction d with
    | zero => intro S x3 hf hk; cases hf
    | succ d ih => exact b85 x2 k33 hk33 (fixF (fun _ _ => none) (f_X9_drop_85 n x2 k33) d) ih
  have b33 : ∀ (k33 : St → Int32 → Option (Int32 × St)) (hk33 : ∀ (S : St) (x2 : Int32), k33 S x2 = some (r, S2) → Keeps wr_X9_drop S0 S → Keeps wr_X9_drop S0 S2), ∀ (S : St) (x2 : Int32), f_X9_drop_33 n k33 S x2 = some (r, S2) → Keeps wr_X9_drop S0 S → Keeps wr_X9_drop S0 S2 := by
    intro k33 hk33 S x2 hf hk
    unfold f_X9_drop_33 at hf
    rcases (Decidable.em ((S.1 28 2) ≤ x2)) with b_7 | b_7
    · have hf := if_t b_7 hf
      obtain ⟨r_8, S_9, hc_10, hf⟩ := bo_inv hf
      have hk := hk.trans ((fr_X9_layTerms n _ _ _ hc_10).mono (by intro c h; unfold wr_X9_layTerms at h; unfold wr_X9_drop; omega))
      exact (rt_inv hf).2 ▸ hk
    · have hf := if_f b_7 hf
      obtain ⟨g_11, hf⟩ := gd_inv hf
      obtain ⟨g_12, hf⟩ := gd_inv hf
      obtain ⟨S_13, eS_13, hf⟩ := bd_inv hf
      have hk := hk.trans (kpI eS_13 (by unfold wr_X9_drop; omega))
      obtain ⟨g_14, hf⟩ := gd_inv hf
      obtain ⟨g_15, hf⟩ := gd_inv hf
      obtain ⟨S_16, eS_16, hf⟩ := bd_inv hf
      have hk := hk.trans (kpI eS_16 (by unfold wr_X9_drop; omega))
      obtain ⟨g_17, hf⟩ := gd_inv hf
      obtain ⟨g_18, hf⟩ := gd_inv hf
      obtain ⟨S_19, eS_19, hf⟩ := bd_inv hf
      have hk := hk.trans (kpI eS_19 (by unfold wr_X9_drop; omega))
      obtain ⟨x3_20, ex3_20, hf⟩ := bd_inv hf
      exact j85 x2 k33 hk33 n S_19 x3_20 hf hk
  have j33 : ∀ (d : Nat), ∀ (S : St) (x2 : Int32), fixF (fun _ _ => none) (f_X9_drop_33 n) d S x2 = some (r, S2) → Keeps wr_X9_drop S0 S → Keeps wr_X9_drop S0 S2 := by
    intro   d
    induction d with
    | zero => intro S x2 hf hk; cases hf
    | succ d ih => exact b33   (fixF (fun _ _ => none) (f_X9_drop_33 n) d) ih
  unfold f_X9_drop at hf
  obtain ⟨r_21, S_22, hc_23, hf⟩ := bo_inv hf
  have hk := hk.trans ((fr_X9_isLiteral n _ _ _ _ hc_23).mono (fun _ h => False.elim h))
  rcases (Decidable.em (r_21 = 0)).symm with b_24 | b_24
  · have hf := if_f b_24 hf
    obtain ⟨S_25, eS_25, hf⟩ := bd_inv hf
    have hk := hk.trans (kpI eS_25 (by unfold wr_X9_drop; omega))
    obtain ⟨S_26, eS_26, hf⟩ := bd_inv hf
    have hk := hk.trans (kpI eS_26 (by unfold wr_X9_drop; omega))
    obtain ⟨x2_27, ex2_27, hf⟩ := bd_inv hf
    exact j33   n S_26 x2_27 hf hk
  · have hf := if_t b_24 hf
    exact (rt_inv hf).2 ▸ hk
def wr_X9_scale : Nat → Prop := fun c => c = 33
theorem fr_X9_scale (n : Nat) (S : St) (a1 : Int32) (r : Int32) (S2 : St) (hf : f_X9_scale n S a1 = some (r, S2)) : Keeps (wr_X9_scale) S S2 := by
  have hk : Keeps (wr_X9_scale) S S := Keeps.rf
  obtain ⟨S0, hS0⟩ : ∃ S0, S0 = S := ⟨S, rfl⟩
  have hk : Keeps (wr_X9_scale) S0 S := by rw [hS0]; exact hk
  suffices hh : Keeps (wr_X9_scale) S0 S2 by rw [hS0] at hh; exact hh
  have b90 : ∀ (x1 : Int32) (x2 : Int32) (k90 : St → Int32 → Option (Int32 × St)) (hk90 : ∀ (S : St) (x3 : Int32), k90 S x3 = some (r, S2) → Keeps wr_X9_scale S0 S → Keeps wr_X9_scale S0 S2), ∀ (S : St) (x3 : Int32), f_X9_scale_90 n x1 x2 k90 S x3 = some (r, S2) → Keeps wr_X9_scale S0 S → Keeps wr_X9_scale S0 S2 := by
    intro x1 x2 k90 hk90 S x3 hf hk
    unfold f_X9_scale_90 at hf
    rcases (Decidable.em ((S.1 28 2) ≤ x3)) with b_1 | b_1
    · have hf := if_t b_1 hf
      exact (rt_inv hf).2 ▸ hk
    · have hf := if_f b_1 hf
      obtain ⟨g_2, hf⟩ := gd_inv hf
      obtain ⟨g_3, hf⟩ := gd_inv hf
      obtain ⟨S_4, eS_4, hf⟩ := bd_inv hf
      have hk := hk.trans (kpI eS_4 (by unfold wr_X9_scale; omega))
      obtain ⟨x3_5, ex3_5, hf⟩ := bd_inv hf
      exact hk90 S_4 x3_5 hf hk
  have j90 : ∀ (x1 : Int32) (x2 : Int32) (d : Nat), ∀ (S : St) (x3 : Int32), fixF (fun _ _ => none) (f_X9_scale_90 n x1 x2) d S x3 = some (r, S2) → Keeps wr_X9_scale S0 S → Keeps wr_X9_scale S0 S2 := by
    intro x1 x2  d
    induction d with
    | zero => intro S x3 hf hk; cases hf
    | succ d ih => exact b90 x1 x2  (fixF (fun _ _ => none) (f_X9_scale_90 n x1 x2) d) ih
  have j80 : ∀ (x1 : Int32) (k20 : St → Int32 → Int32 → Option (Int32 × St)) (hk20 : ∀ (S : St) (x2 : Int32) (x3 : Int32), k20 S x2 x3 = some (r, S2) → Keeps wr_X9_scale S0 S → Keeps wr_X9_scale S0 S2), ∀ (S : St) (x3 : Int32) (t0 : Int32) (t1 : Int32), f_X9_scale_80 n x1 k20 S x3 t0 t1 = some (r, S2) → Keeps wr_X9_scale S0 S → Keeps wr_X9_scale S0 S2 := by
    intro x1 k20 hk20 S x3 t0 t1 hf hk
    unfold f_X9_scale_80 at hf
    obtain ⟨x2_6, ex2_6, hf⟩ := bd_inv hf
    obtain ⟨x3_7, ex3_7, hf⟩ := bd_inv hf
    exact hk20 S x2_6 x3_7 hf hk
  have b20 : ∀ (x1 : Int32) (k20 : St → Int32 → Int32 → Option (Int32 × St)) (hk20 : ∀ (S : St) (x2 : Int32) (x3 : Int32), k20 S x2 x3 = some (r, S2) → Keeps wr_X9_scale S0 S → Keeps wr_X9_scale S0 S2), ∀ (S : St) (x2 : Int32) (x3 : Int32), f_X9_scale_20 n x1 k20 S x2 x3 = some (r, S2) → Keeps wr_X9_scale S0 S → Keeps wr_X9_scale S0 S2 := by
    intro x1 k20 hk20 S x2 x3 hf hk
    unfold f_X9_scale_20 at hf
    rcases (Decidable.em ((S.1 28 2) ≤ x3)) with b_8 | b_8
    · have hf := if_t b_8 hf
      obtain ⟨x3_9, ex3_9, hf⟩ := bd_inv hf
      exact j90 x1 x2  n S x3_9 hf hk
    · have hf := if_f b_8 hf
      obtain ⟨g_10, hf⟩ := gd_inv hf
      obtain ⟨x4_11, ex4_11, hf⟩ := bd_inv hf
      rcases (Decidable.em (0 < (lg_cmp x4_11 (2000000000 : Int64)))) with b_12 | b_12
      · have hf := if_t b_12 hf
        exact (rt_inv hf).2 ▸ hk
      · have hf := if_f b_12 hf
        rcases (Decidable.em (0 ≤ (lg_cmp x4_11 (-2000000000 : Int64)))) with b_13 | b_13
        · have hf := if_t b_13 hf
          obtain ⟨g_14, hf⟩ := gd_inv hf
          rcases (Decidable.em ((lg_cmp x4_11 ((S.1 33 (x3).toNatClampNeg)).toInt64) = 0)) with b_15 | b_15
          · have hf := if_t b_15 hf
            exact j80 x1 k20 hk20 S x3 x2 ((0 : Int32)) hf hk
          · have hf := if_f b_15 hf
            exact j80 x1 k20 hk20 S x3 x2 ((1 : Int32)) hf hk
        · have hf := if_f b_13 hf
          exact (rt_inv hf).2 ▸ hk
  have j20 : ∀ (x1 : Int32) (d : Nat), ∀ (S : St) (x2 : Int32) (x3 : Int32), fixF (fun _ _ _ => none) (f_X9_scale_20 n x1) d S x2 x3 = some (r, S2) → Keeps wr_X9_scale S0 S → Keeps wr_X9_scale S0 S2 := by
    intro x1  d
    induction d with
    | zero => intro S x2 x3 hf hk; cases hf
    | succ d ih => exact b20 x1  (fixF (fun _ _ _ => none) (f_X9_scale_20 n x1) d) ih
  unfold f_X9_scale at hf
  obtain ⟨r_16, S_17, hc_18, hf⟩ := bo_inv hf
  have hk := hk.trans ((fr_X9_within n _ _ _ _ _ _ hc_18).mono (fun _ h => False.elim h))
  rcases (Decidable.em (r_16 = 0)).symm with b_19 | b_19
  · have hf := if_f b_19 hf
    obtain ⟨x2_20, ex2_20, hf⟩ := bd_inv hf
    obtain ⟨x3_21, ex3_21, hf⟩ := bd_inv hf
    exact j20 a1  n S_17 x2_20 x3_21 hf hk
  · have hf := if_t b_19 hf
    exact (rt_inv hf).2 ▸ hk
def wr_X9_join : Nat → Prop := fun c => c = 41
theorem fr_X9_join (n : Nat) (S : St) (a1 : Int32) (a2 : Int32) (r : Unit) (S2 : St) (hf : f_X9_join n S a1 a2 = some (r, S2)) : Keeps (wr_X9_join) S S2 := by
  have hk : Keeps (wr_X9_join) S S := Keeps.rf
  obtain ⟨S0, hS0⟩ : ∃ S0, S0 = S := ⟨S, rfl⟩
  have hk : Keeps (wr_X9_join) S0 S := by rw [hS0]; exact hk
  suffices hh : Keeps (wr_X9_join) S0 S2 by rw [hS0] at hh; exact hh
  have j104 : ∀ (x3 : Int32) (x4 : Int32) (k66 : St → Int32 → Option (Unit × St)) (hk66 : ∀ (S : St) (x5 : Int32), k66 S x5 = some (r, S2) → Keeps wr_X9_join S0 S → Keeps wr_X9_join S0 S2), ∀ (S : St) (x5 : Int32) (t1 : Int32) (t2 : Int32), f_X9_join_104 n x3 x4 k66 S x5 t1 t2 = some (r, S2) → Keeps wr_X9_join S0 S → Keeps wr_X9_join S0 S2 := by
    intro x3 x4 k66 hk66 S x5 t1 t2 hf hk
    unfold f_X9_join_104 at hf
    obtain ⟨g_1, hf⟩ := gd_inv hf
    obtain ⟨S_2, eS_2, hf⟩ := bd_inv hf
    have hk := hk.trans (kpI eS_2 (by unfold wr_X9_join; omega))
    obtain ⟨x5_3, ex5_3, hf⟩ := bd_inv hf
    exact hk66 S_2 x5_3 hf hk
  have b66 : ∀ (x3 : Int32) (x4 : Int32) (k66 : St → Int32 → Option (Unit × St)) (hk66 : ∀ (S : St) (x5 : Int32), k66 S x5 = some (r, S2) → Keeps wr_X9_join S0 S → Keeps wr_X9_join S0 S2), ∀ (S : St) (x5 : Int32), f_X9_join_66 n x3 x4 k66 S x5 = some (r, S2) → Keeps wr_X9_join S0 S → Keeps wr_X9_join S0 S2 := by
    intro x3 x4 k66 hk66 S x5 hf hk
    unfold f_X9_join_66 at hf
    rcases (Decidable.em ((S.1 28 18) ≤ x5)) with b_4 | b_4
    · have hf := if_t b_4 hf
      exact (rt_inv hf).2 ▸ hk
    · have hf := if_f b_4 hf
      obtain ⟨g_5, hf⟩ := gd_inv hf
      rcases (Decidable.em ((S.1 41 (x5).toNatClampNeg) = x4)).symm with b_6 | b_6
      · have hf := if_f b_6 hf
        obtain ⟨g_7, hf⟩ := gd_inv hf
        exact j104 x3 x4 k66 hk66 S x5 x5 ((S.1 41 (x5).toNatClampNeg)) hf hk
      · have hf := if_t b_6 hf
        exact j104 x3 x4 k66 hk66 S x5 x5 x3 hf hk
  have j66 : ∀ (x3 : Int32) (x4 : Int32) (d : Nat), ∀ (S : St) (x5 : Int32), fixF (fun _ _ => none) (f_X9_join_66 n x3 x4) d S x5 = some (r, S2) → Keeps wr_X9_join S0 S → Keeps wr_X9_join S0 S2 := by
    intro x3 x4  d
    induction d with
    | zero => intro S x5 hf hk; cases hf
    | succ d ih => exact b66 x3 x4  (fixF (fun _ _ => none) (f_X9_join_66 n x3 x4) d) ih
  have j61 : ∀ (S : St) (x3 : Int32) (t0 : Int32), f_X9_join_61 n S x3 t0 = some (r, S2) → Keeps wr_X9_join S0 S → Keeps wr_X9_join S0 S2 := by
    intro S x3 t0 hf hk
    unfold f_X9_join_61 at hf
    obtain ⟨x4_8, ex4_8, hf⟩ := bd_inv hf
    obtain ⟨x5_9, ex5_9, hf⟩ := bd_inv hf
    exact j66 x3 x4_8  n S x5_9 hf hk
  have j30 : ∀ (S : St) (x1 : Int32) (x2 : Int32) (t0 : Int32), f_X9_join_30 n S x1 x2 t0 = some (r, S2) → Keeps wr_X9_join S0 S → Keeps wr_X9_join S0 S2 := by
    intro S x1 x2 t0 hf hk
    unfold f_X9_join_30 at hf
    obtain ⟨x3_10, ex3_10, hf⟩ := bd_inv hf
    obtain ⟨g_11, hf⟩ := gd_inv hf
    obtain ⟨g_12, hf⟩ := gd_inv hf
    rcases (Decidable.em ((S.1 41 (x2).toNatClampNeg) ≤ (S.1 41 (x1).toNatClampNeg))) with b_13 | b_13
    · have hf := if_t b_13 hf
      obtain ⟨g_14, hf⟩ := gd_inv hf
      exact j61   S x3_10 ((S.1 41 (x1).toNatClampNeg)) hf hk
    · have hf := if_f b_13 hf
      obtain ⟨g_15, hf⟩ := gd_inv hf
      exact j61   S x3_10 ((S.1 41 (x2).toNatClampNeg)) hf hk
  unfold f_X9_join at hf
  obtain ⟨g_16, hf⟩ := gd_inv hf
  obtain ⟨g_17, hf⟩ := gd_inv hf
  rcases (Decidable.em ((S.1 41 (a2).toNatClampNeg) ≤ (S.1 41 (a1).toNatClampNeg))) with b_18 | b_18
  · have hf := if_t b_18 hf
    obtain ⟨g_19, hf⟩ := gd_inv hf
    exact j30   S a1 a2 ((S.1 41 (a2).toNatClampNeg)) hf hk
  · have hf := if_f b_18 hf
    obtain ⟨g_20, hf⟩ := gd_inv hf
    exact j30   S a1 a2 ((S.1 41 (a1).toNatClampNeg)) hf hk
def wr_X9_areAlike : Nat → Prop := fun c => False
theorem fr_X9_areAlike (n : Nat) (S : St) (a1 : Int32) (a2 : Int32) (r : Int32) (S2 : St) (hf : f_X9_areAlike n S a1 a2 = some (r, S2)) : Keeps (wr_X9_areAlike) S S2 := by
  have hk : Keeps (wr_X9_areAlike) S S := Keeps.rf
  obtain ⟨S0, hS0⟩ : ∃ S0, S0 = S := ⟨S, rfl⟩
  have hk : Keeps (wr_X9_areAlike) S0 S := by rw [hS0]; exact hk
  suffices hh : Keeps (wr_X9_areAlike) S0 S2 by rw [hS0] at hh; exact hh
  have j94 : ∀ (S : St), f_X9_areAlike_94 n S = some (r, S2) → Keeps wr_X9_areAlike S0 S → Keeps wr_X9_areAlike S0 S2 := by
    intro S hf hk
    unfold f_X9_areAlike_94 at hf
    exact (rt_inv hf).2 ▸ hk
  have j54 : ∀ (S : St) (x1 : Int32) (x2 : Int32) (t0 : Int32), f_X9_areAlike_54 n S x1 x2 t0 = some (r, S2) → Keeps wr_X9_areAlike S0 S → Keeps wr_X9_areAlike S0 S2 := by
    intro S x1 x2 t0 hf hk
    unfold f_X9_areAlike_54 at hf
    obtain ⟨x3_1, ex3_1, hf⟩ := bd_inv hf
    rcases (Decidable.em (x3_1 = 0)) with b_2 | b_2
    · have hf := if_t b_2 hf
      exact (rt_inv hf).2 ▸ hk
    · have hf := if_f b_2 hf
      obtain ⟨g_3, hf⟩ := gd_inv hf
      rcases (Decidable.em ((S.1 35 (x1).toNatClampNeg) = (1 : Int32))) with b_4 | b_4
      · have hf := if_t b_4 hf
        exact j94   S  hf hk
      · have hf := if_f b_4 hf
        obtain ⟨g_5, hf⟩ := gd_inv hf
        obtain ⟨g_6, hf⟩ := gd_inv hf
        obtain ⟨g_7, hf⟩ := gd_inv hf
        obtain ⟨g_8, hf⟩ := gd_inv hf
        rcases (Decidable.em ((S.1 41 ((S.1 37 (x1).toNatClampNeg)).toNatClampNeg) = (S.1 41 ((S.1 37 (x2).toNatClampNeg)).toNatClampNeg))).symm with b_9 | b_9
        · have hf := if_f b_9 hf
          exact (rt_inv hf).2 ▸ hk
        · have hf := if_t b_9 hf
          exact j94   S  hf hk
  have j53 : ∀ (S : St) (x1 : Int32) (x2 : Int32), f_X9_areAlike_53 n S x1 x2 = some (r, S2) → Keeps wr_X9_areAlike S0 S → Keeps wr_X9_areAlike S0 S2 := by
    intro S x1 x2 hf hk
    unfold f_X9_areAlike_53 at hf
    exact j54   S x1 x2 ((0 : Int32)) hf hk
  unfold f_X9_areAlike at hf
  obtain ⟨g_10, hf⟩ := gd_inv hf
  rcases (Decidable.em ((S.1 35 (a1).toNatClampNeg) ≤ 0)) with b_11 | b_11
  · have hf := if_t b_11 hf
    exact j53   S a1 a2 hf hk
  · have hf := if_f b_11 hf
    obtain ⟨g_12, hf⟩ := gd_inv hf
    obtain ⟨g_13, hf⟩ := gd_inv hf
    rcases (Decidable.em ((S.1 35 (a1).toNatClampNeg) = (S.1 35 (a2).toNatClampNeg))).symm with b_14 | b_14
    · have hf := if_f b_14 hf
      exact j53   S a1 a2 hf hk
    · have hf := if_t b_14 hf
      obtain ⟨g_15, hf⟩ := gd_inv hf
      obtain ⟨g_16, hf⟩ := gd_inv hf
      obtain ⟨g_17, hf⟩ := gd_inv hf
      obtain ⟨g_18, hf⟩ := gd_inv hf
      rcases (Decidable.em ((S.1 41 ((S.1 36 (a1).toNatClampNeg)).toNatClampNeg) = (S.1 41 ((S.1 36 (a2).toNatClampNeg)).toNatClampNeg))).symm with b_19 | b_19
      · have hf := if_f b_19 hf
        exact j53   S a1 a2 hf hk
      · have hf := if_t b_19 hf
        exact j54   S a1 a2 ((1 : Int32)) hf hk
def wr_X9_growSame : Nat → Prop := fun c => c = 41
theorem fr_X9_growSame (n : Nat) (S : St) (r : Unit) (S2 : St) (hf : f_X9_growSame n S = some (r, S2)) : Keeps (wr_X9_growSame) S S2 := by
  have hk : Keeps (wr_X9_growSame) S S := Keeps.rf
  obtain ⟨S0, hS0⟩ : ∃ S0, S0 = S := ⟨S, rfl⟩
  have hk : Keeps (wr_X9_growSame) S0 S := by rw [hS0]; exact hk
  suffices hh : Keeps (wr_X9_growSame) S0 S2 by rw [hS0] at hh; exact hh
  have j57 : ∀ (x2 : Int32) (k2 : St → Int32 → Option (Unit × St)) (hk2 : ∀ (S : St) (x1 : Int32), k2 S x1 = some (r, S2) → Keeps wr_X9_growSame S0 S → Keeps wr_X9_growSame S0 S2) (k10 : St → Int32 → Int32 → Option (Unit × St)) (hk10 : ∀ (S : St) (x1 : Int32) (x2 : Int32), k10 S x1 x2 = some (r, S2) → Keeps wr_X9_growSame S0 S → Keeps wr_X9_growSame S0 S2) (k20 : St → Int32 → Int32 → Option (Unit × St)) (hk20 : ∀ (S : St) (x1 : Int32) (x3 : Int32), k20 S x1 x3 = some (r, S2) → Keeps wr_X9_growSame S0 S → Keeps wr_X9_growSame S0 S2), ∀ (S : St) (x1 : Int32) (x3 : Int32), f_X9_growSame_57 n x2 k2 k10 k20 S x1 x3 = some (r, S2) → Keeps wr_X9_growSame S0 S → Keeps wr_X9_growSame S0 S2 := by
    intro x2 k2 hk2 k10 hk10 k20 hk20 S x1 x3 hf hk
    unfold f_X9_growSame_57 at hf
    obtain ⟨x3_1, ex3_1, hf⟩ := bd_inv hf
    exact hk20 S x1 x3_1 hf hk
  have b20 : ∀ (x2 : Int32) (k2 : St → Int32 → Option (Unit × St)) (hk2 : ∀ (S : St) (x1 : Int32), k2 S x1 = some (r, S2) → Keeps wr_X9_growSame S0 S → Keeps wr_X9_growSame S0 S2) (k10 : St → Int32 → Int32 → Option (Unit × St)) (hk10 : ∀ (S : St) (x1 : Int32) (x2 : Int32), k10 S x1 x2 = some (r, S2) → Keeps wr_X9_growSame S0 S → Keeps wr_X9_growSame S0 S2) (k20 : St → Int32 → Int32 → Option (Unit × St)) (hk20 : ∀ (S : St) (x1 : Int32) (x3 : Int32), k20 S x1 x3 = some (r, S2) → Keeps wr_X9_growSame S0 S → Keeps wr_X9_growSame S0 S2), ∀ (S : St) (x1 : Int32) (x3 : Int32), f_X9_growSame_20 n x2 k2 k10 k20 S x1 x3 = some (r, S2) → Keeps wr_X9_growSame S0 S → Keeps wr_X9_growSame S0 S2 := by
    intro x2 k2 hk2 k10 hk10 k20 hk20 S x1 x3 hf hk
    unfold f_X9_growSame_20 at hf
    rcases (Decidable.em (x2 ≤ x3)) with b_2 | b_2
    · have hf := if_t b_2 hf
      obtain ⟨x2_3, ex2_3, hf⟩ := bd_inv hf
      exact hk10 S x1 x2_3 hf hk
    · have hf := if_f b_2 hf
      obtain ⟨g_4, hf⟩ := gd_inv hf
      obtain ⟨g_5, hf⟩ := gd_inv hf
      rcases (Decidable.em ((S.1 41 (x2).toNatClampNeg) = (S.1 41 (x3).toNatClampNeg))) with b_6 | b_6
      · have hf := if_t b_6 hf
        exact j57 x2 k2 hk2 k10 hk10 k20 hk20 S x1 x3 hf hk
      · have hf := if_f b_6 hf
        obtain ⟨r_7, S_8, hc_9, hf⟩ := bo_inv hf
        have hk := hk.trans ((fr_X9_areAlike n _ _ _ _ _ hc_9).mono (fun _ h => False.elim h))
        rcases (Decidable.em (r_7 = 0)) with b_10 | b_10
        · have hf := if_t b_10 hf
          exact j57 x2 k2 hk2 k10 hk10 k20 hk20 S_8 x1 x3 hf hk
        · have hf := if_f b_10 hf
          obtain ⟨r_11, S_12, hc_13, hf⟩ := bo_inv hf
          have hk := hk.trans ((fr_X9_join n _ _ _ _ _ hc_13).mono (by intro c h; unfold wr_X9_join at h; unfold wr_X9_growSame; omega))
          obtain ⟨x1_14, ex1_14, hf⟩ := bd_inv hf
          exact j57 x2 k2 hk2 k10 hk10 k20 hk20 S_12 x1_14 x3 hf hk
  have j20 : ∀ (x2 : Int32) (k2 : St → Int32 → Option (Unit × St)) (hk2 : ∀ (S : St) (x1 : Int32), k2 S x1 = some (r, S2) → Keeps wr_X9_growSame S0 S → Keeps wr_X9_growSame S0 S2) (k10 : St → Int32 → Int32 → Option (Unit × St)) (hk10 : ∀ (S : St) (x1 : Int32) (x2 : Int32), k10 S x1 x2 = some (r, S2) → Keeps wr_X9_growSame S0 S → Keeps wr_X9_growSame S0 S2) (d : Nat), ∀ (S : St) (x1 : Int32) (x3 : Int32), fixF (fun _ _ _ => none) (f_X9_growSame_20 n x2 k2 k10) d S x1 x3 = some (r, S2) → Keeps wr_X9_growSame S0 S → Keeps wr_X9_growSame S0 S2 := by
    intro x2 k2 hk2 k10 hk10 d
    induction d with
    | zero => intro S x1 x3 hf hk; cases hf
    | succ d ih => exact b20 x2 k2 hk2 k10 hk10 (fixF (fun _ _ _ => none) (f_X9_growSame_20 n x2 k2 k10) d) ih
  have b10 : ∀ (k2 : St → Int32 → Option (Unit × St)) (hk2 : ∀ (S : St) (x1 : Int32), k2 S x1 = some (r, S2) → Keeps wr_X9_growSame S0 S → Keeps wr_X9_growSame S0 S2) (k10 : St → Int32 → Int32 → Option (Unit × St)) (hk10 : ∀ (S : St) (x1 : Int32) (x2 : Int32), k10 S x1 x2 = some (r, S2) → Keeps wr_X9_growSame S0 S → Keeps wr_X9_growSame S0 S2), ∀ (S : St) (x1 : Int32) (x2 : Int32), f_X9_growSame_10 n k2 k10 S x1 x2 = some (r, S2) → Keeps wr_X9_growSame S0 S → Keeps wr_X9_growSame S0 S2 := by
    intro k2 hk2 k10 hk10 S x1 x2 hf hk
    unfold f_X9_growSame_10 at hf
    rcases (Decidable.em ((S.1 28 18) ≤ x2)) with b_15 | b_15
    · have hf := if_t b_15 hf
      exact hk2 S x1 hf hk
    · have hf := if_f b_15 hf
      obtain ⟨x3_16, ex3_16, hf⟩ := bd_inv hf
      exact j20 x2 k2 hk2 k10 hk10 n S x1 x3_16 hf hk
  have j10 : ∀ (k2 : St → Int32 → Option (Unit × St)) (hk2 : ∀ (S : St) (x1 : Int32), k2 S x1 = some (r, S2) → Keeps wr_X9_growSame S0 S → Keeps wr_X9_growSame S0 S2) (d : Nat), ∀ (S : St) (x1 : Int32) (x2 : Int32), fixF (fun _ _ _ => none) (f_X9_growSame_10 n k2) d S x1 x2 = some (r, S2) → Keeps wr_X9_growSame S0 S → Keeps wr_X9_growSame S0 S2 := by
    intro  k2 hk2 d
    induction d with
    | zero => intro S x1 x2 hf hk; cases hf
    | succ d ih => exact b10  k2 hk2 (fixF (fun _ _ _ => none) (f_X9_growSame_10 n k2) d) ih
  have b2 : ∀ (k2 : St → Int32 → Option (Unit × St)) (hk2 : ∀ (S : St) (x1 : Int32), k2 S x1 = some (r, S2) → Keeps wr_X9_growSame S0 S → Keeps wr_X9_growSame S0 S2), ∀ (S : St) (x1 : Int32), f_X9_growSame_2 n k2 S x1 = some (r, S2) → Keeps wr_X9_growSame S0 S → Keeps wr_X9_growSame S0 S2 := by
    intro k2 hk2 S x1 hf hk
    unfold f_X9_growSame_2 at hf
    rcases (Decidable.em (x1 = 0)) with b_17 | b_17
    · have hf := if_t b_17 hf
      exact (rt_inv hf).2 ▸ hk
    · have hf := if_f b_17 hf
      obtain ⟨x1_18, ex1_18, hf⟩ := bd_inv hf
      obtain ⟨x2_19, ex2_19, hf⟩ := bd_inv hf
      exact j10  k2 hk2 n S x1_18 x2_19 hf hk
  have j2 : ∀ (d : Nat), ∀ (S : St) (x1 : Int32), fixF (fun _ _ => none) (f_X9_growSame_2 n) d S x1 = some (r, S2) → Keeps wr_X9_growSame S0 S → Keeps wr_X9_growSame S0 S2 := by
    intro   d
    induction d with
    | zero => intro S x1 hf hk; cases hf
    | succ d ih => exact b2   (fixF (fun _ _ => none) (f_X9_growSame_2 n) d) ih
  unfold f_X9_growSame at hf
  obtain ⟨x1_20, ex1_20, hf⟩ := bd_inv hf
  exact j2   n S x1_20 hf hk
def wr_X9_least : Nat → Prop := fun c => False
theorem fr_X9_least (n : Nat) (S : St) (a0 : Int64) (a2 : Int64) (r : Int64) (S2 : St) (hf : f_X9_least n S a0 a2 = some (r, S2)) : Keeps (wr_X9_least) S S2 := by
  have hk : Keeps (wr_X9_least) S S := Keeps.rf
  unfold f_X9_least at hf
  rcases (Decidable.em (0 ≤ (lg_cmp a0 a2))) with b_1 | b_1
  · have hf := if_t b_1 hf
    exact (rt_inv hf).2 ▸ hk
  · have hf := if_f b_1 hf
    exact (rt_inv hf).2 ▸ hk
def wr_X9_isBelowSomewhere : Nat → Prop := fun c => False
theorem fr_X9_isBelowSomewhere (n : Nat) (S : St) (r : Int32) (S2 : St) (hf : f_X9_isBelowSomewhere n S = some (r, S2)) : Keeps (wr_X9_isBelowSomewhere) S S2 := by
  have hk : Keeps (wr_X9_isBelowSomewhere) S S := Keeps.rf
  obtain ⟨S0, hS0⟩ : ∃ S0, S0 = S := ⟨S, rfl⟩
  have hk : Keeps (wr_X9_isBelowSomewhere) S0 S := by rw [hS0]; exact hk
  suffices hh : Keeps (wr_X9_isBelowSomewhere) S0 S2 by rw [hS0] at hh; exact hh
  have j37 : ∀ (k4 : St → Int32 → Int32 → Option (Int32 × St)) (hk4 : ∀ (S : St) (x1 : Int32) (x2 : Int32), k4 S x1 x2 = some (r, S2) → Keeps wr_X9_isBelowSomewhere S0 S → Keeps wr_X9_isBelowSomewhere S0 S2), ∀ (S : St) (x2 : Int32) (t0 : Int32), f_X9_isBelowSomewhere_37 n k4 S x2 t0 = some (r, S2) → Keeps wr_X9_isBelowSomewhere S0 S → Keeps wr_X9_isBelowSomewhere S0 S2 := by
    intro k4 hk4 S x2 t0 hf hk
    unfold f_X9_isBelowSomewhere_37 at hf
    obtain ⟨x1_1, ex1_1, hf⟩ := bd_inv hf
    obtain ⟨x2_2, ex2_2, hf⟩ := bd_inv hf
    exact hk4 S x1_1 x2_2 hf hk
  have j32 : ∀ (k4 : St → Int32 → Int32 → Option (Int32 × St)) (hk4 : ∀ (S : St) (x1 : Int32) (x2 : Int32), k4 S x1 x2 = some (r, S2) → Keeps wr_X9_isBelowSomewhere S0 S → Keeps wr_X9_isBelowSomewhere S0 S2), ∀ (S : St) (x2 : Int32), f_X9_isBelowSomewhere_32 n k4 S x2 = some (r, S2) → Keeps wr_X9_isBelowSomewhere S0 S → Keeps wr_X9_isBelowSomewhere S0 S2 := by
    intro k4 hk4 S x2 hf hk
    unfold f_X9_isBelowSomewhere_32 at hf
    exact j37  k4 hk4 S x2 ((1 : Int32)) hf hk
  have b4 : ∀ (k4 : St → Int32 → Int32 → Option (Int32 × St)) (hk4 : ∀ (S : St) (x1 : Int32) (x2 : Int32), k4 S x1 x2 = some (r, S2) → Keeps wr_X9_isBelowSomewhere S0 S → Keeps wr_X9_isBelowSomewhere S0 S2), ∀ (S : St) (x1 : Int32) (x2 : Int32), f_X9_isBelowSomewhere_4 n k4 S x1 x2 = some (r, S2) → Keeps wr_X9_isBelowSomewhere S0 S → Keeps wr_X9_isBelowSomewhere S0 S2 := by
    intro k4 hk4 S x1 x2 hf hk
    unfold f_X9_isBelowSomewhere_4 at hf
    rcases (Decidable.em ((S.1 28 18) ≤ x2)) with b_3 | b_3
    · have hf := if_t b_3 hf
      obtain ⟨g_4, hf⟩ := gd_inv hf
      exact (rt_inv hf).2 ▸ hk
    · have hf := if_f b_3 hf
      rcases (Decidable.em (x1 = 0)).symm with b_5 | b_5
      · have hf := if_f b_5 hf
        exact j32  k4 hk4 S x2 hf hk
      · have hf := if_t b_5 hf
        obtain ⟨g_6, hf⟩ := gd_inv hf
        rcases (Decidable.em (0 ≤ (lg_cmp (S.2 42 ((((10 : Int32) * x2) + x2)).toNatClampNeg) (0 : Int64)))) with b_7 | b_7
        · have hf := if_t b_7 hf
          exact j37  k4 hk4 S x2 ((0 : Int32)) hf hk
        · have hf := if_f b_7 hf
          exact j32  k4 hk4 S x2 hf hk
  have j4 : ∀ (d : Nat), ∀ (S : St) (x1 : Int32) (x2 : Int32), fixF (fun _ _ _ => none) (f_X9_isBelowSomewhere_4 n) d S x1 x2 = some (r, S2) → Keeps wr_X9_isBelowSomewhere S0 S → Keeps wr_X9_isBelowSomewhere S0 S2 := by
    intro   d
    induction d with
    | zero => intro S x1 x2 hf hk; cases hf
    | succ d ih => exact b4   (fixF (fun _ _ _ => none) (f_X9_isBelowSomewhere_4 n) d) ih
  unfold f_X9_isBelowSomewhere at hf
  obtain ⟨x1_8, ex1_8, hf⟩ := bd_inv hf
  obtain ⟨x2_9, ex2_9, hf⟩ := bd_inv hf
  exact j4   n S x1_8 x2_9 hf hk
