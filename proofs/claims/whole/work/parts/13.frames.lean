def wr_X9_layWays : Nat → Prop := fun c => c = 42
theorem fr_X9_layWays (n : Nat) (S : St) (r : Int32) (S2 : St) (hf : f_X9_layWays n S = some (r, S2)) : Keeps (wr_X9_layWays) S S2 := by
  have hk : Keeps (wr_X9_layWays) S S := Keeps.rf
  obtain ⟨S0, hS0⟩ : ∃ S0, S0 = S := ⟨S, rfl⟩
  have hk : Keeps (wr_X9_layWays) S0 S := by rw [hS0]; exact hk
  suffices hh : Keeps (wr_X9_layWays) S0 S2 by rw [hS0] at hh; exact hh
  have j278 : ∀ (x1 : Int32) (x2 : Int32) (k141 : St → Int32 → Option (Int32 × St)) (hk141 : ∀ (S : St) (x1 : Int32), k141 S x1 = some (r, S2) → Keeps wr_X9_layWays S0 S → Keeps wr_X9_layWays S0 S2) (k151 : St → Int32 → Option (Int32 × St)) (hk151 : ∀ (S : St) (x2 : Int32), k151 S x2 = some (r, S2) → Keeps wr_X9_layWays S0 S → Keeps wr_X9_layWays S0 S2) (k161 : St → Int32 → Option (Int32 × St)) (hk161 : ∀ (S : St) (x3 : Int32), k161 S x3 = some (r, S2) → Keeps wr_X9_layWays S0 S → Keeps wr_X9_layWays S0 S2), ∀ (S : St) (x3 : Int32) (t1 : Int32) (t2 : Int64), f_X9_layWays_278 n x1 x2 k141 k151 k161 S x3 t1 t2 = some (r, S2) → Keeps wr_X9_layWays S0 S → Keeps wr_X9_layWays S0 S2 := by
    intro x1 x2 k141 hk141 k151 hk151 k161 hk161 S x3 t1 t2 hf hk
    unfold f_X9_layWays_278 at hf
    obtain ⟨g_1, hf⟩ := gd_inv hf
    obtain ⟨S_2, eS_2, hf⟩ := bd_inv hf
    have hk := hk.trans (kpL eS_2 (by unfold wr_X9_layWays; omega))
    obtain ⟨x3_3, ex3_3, hf⟩ := bd_inv hf
    exact hk161 S_2 x3_3 hf hk
  have j210 : ∀ (x1 : Int32) (x2 : Int32) (k141 : St → Int32 → Option (Int32 × St)) (hk141 : ∀ (S : St) (x1 : Int32), k141 S x1 = some (r, S2) → Keeps wr_X9_layWays S0 S → Keeps wr_X9_layWays S0 S2) (k151 : St → Int32 → Option (Int32 × St)) (hk151 : ∀ (S : St) (x2 : Int32), k151 S x2 = some (r, S2) → Keeps wr_X9_layWays S0 S → Keeps wr_X9_layWays S0 S2) (k161 : St → Int32 → Option (Int32 × St)) (hk161 : ∀ (S : St) (x3 : Int32), k161 S x3 = some (r, S2) → Keeps wr_X9_layWays S0 S → Keeps wr_X9_layWays S0 S2), ∀ (S : St) (x3 : Int32) (t0 : Int32), f_X9_layWays_210 n x1 x2 k141 k151 k161 S x3 t0 = some (r, S2) → Keeps wr_X9_layWays S0 S → Keeps wr_X9_layWays S0 S2 := by
    intro x1 x2 k141 hk141 k151 hk151 k161 hk161 S x3 t0 hf hk
    unfold f_X9_layWays_210 at hf
    obtain ⟨x4_4, ex4_4, hf⟩ := bd_inv hf
    rcases (Decidable.em (x4_4 = 0)) with b_5 | b_5
    · have hf := if_t b_5 hf
      obtain ⟨g_6, hf⟩ := gd_inv hf
      exact j278 x1 x2 k141 hk141 k151 hk151 k161 hk161 S x3 ((((10 : Int32) * x2) + x3)) ((S.2 42 ((((10 : Int32) * x2) + x3)).toNatClampNeg)) hf hk
    · have hf := if_f b_5 hf
      obtain ⟨g_7, hf⟩ := gd_inv hf
      obtain ⟨g_8, hf⟩ := gd_inv hf
      obtain ⟨g_9, hf⟩ := gd_inv hf
      obtain ⟨r_10, S_11, hc_12, hf⟩ := bo_inv hf
      have hk := hk.trans ((fr_X9_least n _ _ _ _ _ hc_12).mono (fun _ h => False.elim h))
      exact j278 x1 x2 k141 hk141 k151 hk151 k161 hk161 S_11 x3 ((((10 : Int32) * x2) + x3)) r_10 hf hk
  have j209 : ∀ (x1 : Int32) (x2 : Int32) (k141 : St → Int32 → Option (Int32 × St)) (hk141 : ∀ (S : St) (x1 : Int32), k141 S x1 = some (r, S2) → Keeps wr_X9_layWays S0 S → Keeps wr_X9_layWays S0 S2) (k151 : St → Int32 → Option (Int32 × St)) (hk151 : ∀ (S : St) (x2 : Int32), k151 S x2 = some (r, S2) → Keeps wr_X9_layWays S0 S → Keeps wr_X9_layWays S0 S2) (k161 : St → Int32 → Option (Int32 × St)) (hk161 : ∀ (S : St) (x3 : Int32), k161 S x3 = some (r, S2) → Keeps wr_X9_layWays S0 S → Keeps wr_X9_layWays S0 S2), ∀ (S : St) (x3 : Int32), f_X9_layWays_209 n x1 x2 k141 k151 k161 S x3 = some (r, S2) → Keeps wr_X9_layWays S0 S → Keeps wr_X9_layWays S0 S2 := by
    intro x1 x2 k141 hk141 k151 hk151 k161 hk161 S x3 hf hk
    unfold f_X9_layWays_209 at hf
    exact j210 x1 x2 k141 hk141 k151 hk151 k161 hk161 S x3 ((0 : Int32)) hf hk
  have b161 : ∀ (x1 : Int32) (x2 : Int32) (k141 : St → Int32 → Option (Int32 × St)) (hk141 : ∀ (S : St) (x1 : Int32), k141 S x1 = some (r, S2) → Keeps wr_X9_layWays S0 S → Keeps wr_X9_layWays S0 S2) (k151 : St → Int32 → Option (Int32 × St)) (hk151 : ∀ (S : St) (x2 : Int32), k151 S x2 = some (r, S2) → Keeps wr_X9_layWays S0 S → Keeps wr_X9_layWays S0 S2) (k161 : St → Int32 → Option (Int32 × St)) (hk161 : ∀ (S : St) (x3 : Int32), k161 S x3 = some (r, S2) → Keeps wr_X9_layWays S0 S → Keeps wr_X9_layWays S0 S2), ∀ (S : St) (x3 : Int32), f_X9_layWays_161 n x1 x2 k141 k151 k161 S x3 = some (r, S2) → Keeps wr_X9_layWays S0 S → Keeps wr_X9_layWays S0 S2 := by
    intro x1 x2 k141 hk141 k151 hk151 k161 hk161 S x3 hf hk
    unfold f_X9_layWays_161 at hf
    rcases (Decidable.em ((S.1 28 18) ≤ x3)) with b_13 | b_13
    · have hf := if_t b_13 hf
      obtain ⟨x2_14, ex2_14, hf⟩ := bd_inv hf
      exact hk151 S x2_14 hf hk
    · have hf := if_f b_13 hf
      obtain ⟨g_15, hf⟩ := gd_inv hf
      rcases (Decidable.em (0 ≤ (lg_cmp (S.2 42 ((((10 : Int32) * x2) + x1)).toNatClampNeg) (1152921504606846976 : Int64)))) with b_16 | b_16
      · have hf := if_t b_16 hf
        exact j209 x1 x2 k141 hk141 k151 hk151 k161 hk161 S x3 hf hk
      · have hf := if_f b_16 hf
        obtain ⟨g_17, hf⟩ := gd_inv hf
        rcases (Decidable.em (0 ≤ (lg_cmp (S.2 42 ((((10 : Int32) * x1) + x3)).toNatClampNeg) (1152921504606846976 : Int64)))) with b_18 | b_18
        · have hf := if_t b_18 hf
          exact j209 x1 x2 k141 hk141 k151 hk151 k161 hk161 S x3 hf hk
        · have hf := if_f b_18 hf
          exact j210 x1 x2 k141 hk141 k151 hk151 k161 hk161 S x3 ((1 : Int32)) hf hk
  have j161 : ∀ (x1 : Int32) (x2 : Int32) (k141 : St → Int32 → Option (Int32 × St)) (hk141 : ∀ (S : St) (x1 : Int32), k141 S x1 = some (r, S2) → Keeps wr_X9_layWays S0 S → Keeps wr_X9_layWays S0 S2) (k151 : St → Int32 → Option (Int32 × St)) (hk151 : ∀ (S : St) (x2 : Int32), k151 S x2 = some (r, S2) → Keeps wr_X9_layWays S0 S → Keeps wr_X9_layWays S0 S2) (d : Nat), ∀ (S : St) (x3 : Int32), fixF (fun _ _ => none) (f_X9_layWays_161 n x1 x2 k141 k151) d S x3 = some (r, S2) → Keeps wr_X9_layWays S0 S → Keeps wr_X9_layWays S0 S2 := by
    intro x1 x2 k141 hk141 k151 hk151 d
    induction d with
    | zero => intro S x3 hf hk; cases hf
    | succ d ih => exact b161 x1 x2 k141 hk141 k151 hk151 (fixF (fun _ _ => none) (f_X9_layWays_161 n x1 x2 k141 k151) d) ih
  have b151 : ∀ (x1 : Int32) (k141 : St → Int32 → Option (Int32 × St)) (hk141 : ∀ (S : St) (x1 : Int32), k141 S x1 = some (r, S2) → Keeps wr_X9_layWays S0 S → Keeps wr_X9_layWays S0 S2) (k151 : St → Int32 → Option (Int32 × St)) (hk151 : ∀ (S : St) (x2 : Int32), k151 S x2 = some (r, S2) → Keeps wr_X9_layWays S0 S → Keeps wr_X9_layWays S0 S2), ∀ (S : St) (x2 : Int32), f_X9_layWays_151 n x1 k141 k151 S x2 = some (r, S2) → Keeps wr_X9_layWays S0 S → Keeps wr_X9_layWays S0 S2 := by
    intro x1 k141 hk141 k151 hk151 S x2 hf hk
    unfold f_X9_layWays_151 at hf
    rcases (Decidable.em ((S.1 28 18) ≤ x2)) with b_19 | b_19
    · have hf := if_t b_19 hf
      obtain ⟨r_20, S_21, hc_22, hf⟩ := bo_inv hf
      have hk := hk.trans ((fr_X9_isBelowSomewhere n _ _ _ hc_22).mono (fun _ h => False.elim h))
      rcases (Decidable.em (r_20 = 0)) with b_23 | b_23
      · have hf := if_t b_23 hf
        obtain ⟨x1_24, ex1_24, hf⟩ := bd_inv hf
        exact hk141 S_21 x1_24 hf hk
      · have hf := if_f b_23 hf
        exact (rt_inv hf).2 ▸ hk
    · have hf := if_f b_19 hf
      obtain ⟨x3_25, ex3_25, hf⟩ := bd_inv hf
      exact j161 x1 x2 k141 hk141 k151 hk151 n S x3_25 hf hk
  have j151 : ∀ (x1 : Int32) (k141 : St → Int32 → Option (Int32 × St)) (hk141 : ∀ (S : St) (x1 : Int32), k141 S x1 = some (r, S2) → Keeps wr_X9_layWays S0 S → Keeps wr_X9_layWays S0 S2) (d : Nat), ∀ (S : St) (x2 : Int32), fixF (fun _ _ => none) (f_X9_layWays_151 n x1 k141) d S x2 = some (r, S2) → Keeps wr_X9_layWays S0 S → Keeps wr_X9_layWays S0 S2 := by
    intro x1 k141 hk141 d
    induction d with
    | zero => intro S x2 hf hk; cases hf
    | succ d ih => exact b151 x1 k141 hk141 (fixF (fun _ _ => none) (f_X9_layWays_151 n x1 k141) d) ih
  have b141 : ∀ (k141 : St → Int32 → Option (Int32 × St)) (hk141 : ∀ (S : St) (x1 : Int32), k141 S x1 = some (r, S2) → Keeps wr_X9_layWays S0 S → Keeps wr_X9_layWays S0 S2), ∀ (S : St) (x1 : Int32), f_X9_layWays_141 n k141 S x1 = some (r, S2) → Keeps wr_X9_layWays S0 S → Keeps wr_X9_layWays S0 S2 := by
    intro k141 hk141 S x1 hf hk
    unfold f_X9_layWays_141 at hf
    rcases (Decidable.em ((S.1 28 18) ≤ x1)) with b_26 | b_26
    · have hf := if_t b_26 hf
      exact (rt_inv hf).2 ▸ hk
    · have hf := if_f b_26 hf
      obtain ⟨x2_27, ex2_27, hf⟩ := bd_inv hf
      exact j151 x1 k141 hk141 n S x2_27 hf hk
  have j141 : ∀ (d : Nat), ∀ (S : St) (x1 : Int32), fixF (fun _ _ => none) (f_X9_layWays_141 n) d S x1 = some (r, S2) → Keeps wr_X9_layWays S0 S → Keeps wr_X9_layWays S0 S2 := by
    intro   d
    induction d with
    | zero => intro S x1 hf hk; cases hf
    | succ d ih => exact b141   (fixF (fun _ _ => none) (f_X9_layWays_141 n) d) ih
  have j132 : ∀ (k67 : St → Int32 → Option (Int32 × St)) (hk67 : ∀ (S : St) (x1 : Int32), k67 S x1 = some (r, S2) → Keeps wr_X9_layWays S0 S → Keeps wr_X9_layWays S0 S2), ∀ (S : St) (x1 : Int32) (t1 : Int32) (t2 : Int64), f_X9_layWays_132 n k67 S x1 t1 t2 = some (r, S2) → Keeps wr_X9_layWays S0 S → Keeps wr_X9_layWays S0 S2 := by
    intro k67 hk67 S x1 t1 t2 hf hk
    unfold f_X9_layWays_132 at hf
    obtain ⟨g_28, hf⟩ := gd_inv hf
    obtain ⟨S_29, eS_29, hf⟩ := bd_inv hf
    have hk := hk.trans (kpL eS_29 (by unfold wr_X9_layWays; omega))
    obtain ⟨x1_30, ex1_30, hf⟩ := bd_inv hf
    exact hk67 S_29 x1_30 hf hk
  have b67 : ∀ (k67 : St → Int32 → Option (Int32 × St)) (hk67 : ∀ (S : St) (x1 : Int32), k67 S x1 = some (r, S2) → Keeps wr_X9_layWays S0 S → Keeps wr_X9_layWays S0 S2), ∀ (S : St) (x1 : Int32), f_X9_layWays_67 n k67 S x1 = some (r, S2) → Keeps wr_X9_layWays S0 S → Keeps wr_X9_layWays S0 S2 := by
    intro k67 hk67 S x1 hf hk
    unfold f_X9_layWays_67 at hf
    rcases (Decidable.em ((S.1 28 2) ≤ x1)) with b_31 | b_31
    · have hf := if_t b_31 hf
      obtain ⟨x1_32, ex1_32, hf⟩ := bd_inv hf
      exact j141   n S x1_32 hf hk
    · have hf := if_f b_31 hf
      obtain ⟨g_33, hf⟩ := gd_inv hf
      obtain ⟨g_34, hf⟩ := gd_inv hf
      obtain ⟨x2_35, ex2_35, hf⟩ := bd_inv hf
      obtain ⟨g_36, hf⟩ := gd_inv hf
      rcases (Decidable.em ((S.1 32 (x1).toNatClampNeg) = (2 : Int32))).symm with b_37 | b_37
      · have hf := if_f b_37 hf
        obtain ⟨g_38, hf⟩ := gd_inv hf
        exact j132  k67 hk67 S x1 x2_35 ((S.2 42 (x2_35).toNatClampNeg)) hf hk
      · have hf := if_t b_37 hf
        obtain ⟨g_39, hf⟩ := gd_inv hf
        obtain ⟨g_40, hf⟩ := gd_inv hf
        obtain ⟨r_41, S_42, hc_43, hf⟩ := bo_inv hf
        have hk := hk.trans ((fr_X9_least n _ _ _ _ _ hc_43).mono (fun _ h => False.elim h))
        exact j132  k67 hk67 S_42 x1 x2_35 r_41 hf hk
  have j67 : ∀ (d : Nat), ∀ (S : St) (x1 : Int32), fixF (fun _ _ => none) (f_X9_layWays_67 n) d S x1 = some (r, S2) → Keeps wr_X9_layWays S0 S → Keeps wr_X9_layWays S0 S2 := by
    intro   d
    induction d with
    | zero => intro S x1 hf hk; cases hf
    | succ d ih => exact b67   (fixF (fun _ _ => none) (f_X9_layWays_67 n) d) ih
  have j52 : ∀ (x1 : Int32) (k2 : St → Int32 → Option (Int32 × St)) (hk2 : ∀ (S : St) (x1 : Int32), k2 S x1 = some (r, S2) → Keeps wr_X9_layWays S0 S → Keeps wr_X9_layWays S0 S2) (k12 : St → Int32 → Option (Int32 × St)) (hk12 : ∀ (S : St) (x2 : Int32), k12 S x2 = some (r, S2) → Keeps wr_X9_layWays S0 S → Keeps wr_X9_layWays S0 S2), ∀ (S : St) (x2 : Int32) (t1 : Int32) (t2 : Int64), f_X9_layWays_52 n x1 k2 k12 S x2 t1 t2 = some (r, S2) → Keeps wr_X9_layWays S0 S → Keeps wr_X9_layWays S0 S2 := by
    intro x1 k2 hk2 k12 hk12 S x2 t1 t2 hf hk
    unfold f_X9_layWays_52 at hf
    obtain ⟨g_44, hf⟩ := gd_inv hf
    obtain ⟨S_45, eS_45, hf⟩ := bd_inv hf
    have hk := hk.trans (kpL eS_45 (by unfold wr_X9_layWays; omega))
    obtain ⟨x2_46, ex2_46, hf⟩ := bd_inv hf
    exact hk12 S_45 x2_46 hf hk
  have b12 : ∀ (x1 : Int32) (k2 : St → Int32 → Option (Int32 × St)) (hk2 : ∀ (S : St) (x1 : Int32), k2 S x1 = some (r, S2) → Keeps wr_X9_layWays S0 S → Keeps wr_X9_layWays S0 S2) (k12 : St → Int32 → Option (Int32 × St)) (hk12 : ∀ (S : St) (x2 : Int32), k12 S x2 = some (r, S2) → Keeps wr_X9_layWays S0 S → Keeps wr_X9_layWays S0 S2), ∀ (S : St) (x2 : Int32), f_X9_layWays_12 n x1 k2 k12 S x2 = some (r, S2) → Keeps wr_X9_layWays S0 S → Keeps wr_X9_layWays S0 S2 := by
    intro x1 k2 hk2 k12 hk12 S x2 hf hk
    unfold f_X9_layWays_12 at hf
    rcases (Decidable.em ((S.1 28 18) ≤ x2)) with b_47 | b_47
    · have hf := if_t b_47 hf
      obtain ⟨x1_48, ex1_48, hf⟩ := bd_inv hf
      exact hk2 S x1_48 hf hk
    · have hf := if_f b_47 hf
      obtain ⟨g_49, hf⟩ := gd_inv hf
      obtain ⟨g_50, hf⟩ := gd_inv hf
      rcases (Decidable.em ((S.1 41 (x1).toNatClampNeg) = (S.1 41 (x2).toNatClampNeg))).symm with b_51 | b_51
      · have hf := if_f b_51 hf
        exact j52 x1 k2 hk2 k12 hk12 S x2 ((((10 : Int32) * x1) + x2)) ((1152921504606846976 : Int64)) hf hk
      · have hf := if_t b_51 hf
        exact j52 x1 k2 hk2 k12 hk12 S x2 ((((10 : Int32) * x1) + x2)) ((0 : Int64)) hf hk
  have j12 : ∀ (x1 : Int32) (k2 : St → Int32 → Option (Int32 × St)) (hk2 : ∀ (S : St) (x1 : Int32), k2 S x1 = some (r, S2) → Keeps wr_X9_layWays S0 S → Keeps wr_X9_layWays S0 S2) (d : Nat), ∀ (S : St) (x2 : Int32), fixF (fun _ _ => none) (f_X9_layWays_12 n x1 k2) d S x2 = some (r, S2) → Keeps wr_X9_layWays S0 S → Keeps wr_X9_layWays S0 S2 := by
    intro x1 k2 hk2 d
    induction d with
    | zero => intro S x2 hf hk; cases hf
    | succ d ih => exact b12 x1 k2 hk2 (fixF (fun _ _ => none) (f_X9_layWays_12 n x1 k2) d) ih
  have b2 : ∀ (k2 : St → Int32 → Option (Int32 × St)) (hk2 : ∀ (S : St) (x1 : Int32), k2 S x1 = some (r, S2) → Keeps wr_X9_layWays S0 S → Keeps wr_X9_layWays S0 S2), ∀ (S : St) (x1 : Int32), f_X9_layWays_2 n k2 S x1 = some (r, S2) → Keeps wr_X9_layWays S0 S → Keeps wr_X9_layWays S0 S2 := by
    intro k2 hk2 S x1 hf hk
    unfold f_X9_layWays_2 at hf
    rcases (Decidable.em ((S.1 28 18) ≤ x1)) with b_52 | b_52
    · have hf := if_t b_52 hf
      obtain ⟨x1_53, ex1_53, hf⟩ := bd_inv hf
      exact j67   n S x1_53 hf hk
    · have hf := if_f b_52 hf
      obtain ⟨x2_54, ex2_54, hf⟩ := bd_inv hf
      exact j12 x1 k2 hk2 n S x2_54 hf hk
  have j2 : ∀ (d : Nat), ∀ (S : St) (x1 : Int32), fixF (fun _ _ => none) (f_X9_layWays_2 n) d S x1 = some (r, S2) → Keeps wr_X9_layWays S0 S → Keeps wr_X9_layWays S0 S2 := by
    intro   d
    induction d with
    | zero => intro S x1 hf hk; cases hf
    | succ d ih => exact b2   (fixF (fun _ _ => none) (f_X9_layWays_2 n) d) ih
  unfold f_X9_layWays at hf
  obtain ⟨x1_55, ex1_55, hf⟩ := bd_inv hf
  exact j2   n S x1_55 hf hk
def wr_X9_joinTight : Nat → Prop := fun c => c = 41
theorem fr_X9_joinTight (n : Nat) (S : St) (r : Int32) (S2 : St) (hf : f_X9_joinTight n S = some (r, S2)) : Keeps (wr_X9_joinTight) S S2 := by
  have hk : Keeps (wr_X9_joinTight) S S := Keeps.rf
  obtain ⟨S0, hS0⟩ : ∃ S0, S0 = S := ⟨S, rfl⟩
  have hk : Keeps (wr_X9_joinTight) S0 S := by rw [hS0]; exact hk
  suffices hh : Keeps (wr_X9_joinTight) S0 S2 by rw [hS0] at hh; exact hh
  have j134 : ∀ (x2 : Int32) (k4 : St → Int32 → Int32 → Option (Int32 × St)) (hk4 : ∀ (S : St) (x1 : Int32) (x2 : Int32), k4 S x1 x2 = some (r, S2) → Keeps wr_X9_joinTight S0 S → Keeps wr_X9_joinTight S0 S2) (k14 : St → Int32 → Int32 → Option (Int32 × St)) (hk14 : ∀ (S : St) (x1 : Int32) (x3 : Int32), k14 S x1 x3 = some (r, S2) → Keeps wr_X9_joinTight S0 S → Keeps wr_X9_joinTight S0 S2), ∀ (S : St) (x1 : Int32) (x3 : Int32), f_X9_joinTight_134 n x2 k4 k14 S x1 x3 = some (r, S2) → Keeps wr_X9_joinTight S0 S → Keeps wr_X9_joinTight S0 S2 := by
    intro x2 k4 hk4 k14 hk14 S x1 x3 hf hk
    unfold f_X9_joinTight_134 at hf
    obtain ⟨x3_1, ex3_1, hf⟩ := bd_inv hf
    exact hk14 S x1 x3_1 hf hk
  have j60 : ∀ (x2 : Int32) (k4 : St → Int32 → Int32 → Option (Int32 × St)) (hk4 : ∀ (S : St) (x1 : Int32) (x2 : Int32), k4 S x1 x2 = some (r, S2) → Keeps wr_X9_joinTight S0 S → Keeps wr_X9_joinTight S0 S2) (k14 : St → Int32 → Int32 → Option (Int32 × St)) (hk14 : ∀ (S : St) (x1 : Int32) (x3 : Int32), k14 S x1 x3 = some (r, S2) → Keeps wr_X9_joinTight S0 S → Keeps wr_X9_joinTight S0 S2), ∀ (S : St) (x1 : Int32) (x3 : Int32) (t0 : Int32), f_X9_joinTight_60 n x2 k4 k14 S x1 x3 t0 = some (r, S2) → Keeps wr_X9_joinTight S0 S → Keeps wr_X9_joinTight S0 S2 := by
    intro x2 k4 hk4 k14 hk14 S x1 x3 t0 hf hk
    unfold f_X9_joinTight_60 at hf
    obtain ⟨x4_2, ex4_2, hf⟩ := bd_inv hf
    rcases (Decidable.em (x4_2 = 0)) with b_3 | b_3
    · have hf := if_t b_3 hf
      exact j134 x2 k4 hk4 k14 hk14 S x1 x3 hf hk
    · have hf := if_f b_3 hf
      obtain ⟨g_4, hf⟩ := gd_inv hf
      obtain ⟨g_5, hf⟩ := gd_inv hf
      rcases (Decidable.em ((S.1 41 (x2).toNatClampNeg) = (S.1 41 (x3).toNatClampNeg))) with b_6 | b_6
      · have hf := if_t b_6 hf
        exact j134 x2 k4 hk4 k14 hk14 S x1 x3 hf hk
      · have hf := if_f b_6 hf
        obtain ⟨g_7, hf⟩ := gd_inv hf
        obtain ⟨g_8, hf⟩ := gd_inv hf
        rcases (Decidable.em ((lg_cmp ((S.2 42 ((((10 : Int32) * x2) + x3)).toNatClampNeg) + (S.2 42 ((((10 : Int32) * x3) + x2)).toNatClampNeg)) (0 : Int64)) = 0)).symm with b_9 | b_9
        · have hf := if_f b_9 hf
          exact j134 x2 k4 hk4 k14 hk14 S x1 x3 hf hk
        · have hf := if_t b_9 hf
          obtain ⟨g_10, hf⟩ := gd_inv hf
          rcases (Decidable.em ((lg_cmp (S.2 42 ((((10 : Int32) * x2) + x3)).toNatClampNeg) (0 : Int64)) = 0)).symm with b_11 | b_11
          · have hf := if_f b_11 hf
            exact j134 x2 k4 hk4 k14 hk14 S x1 x3 hf hk
          · have hf := if_t b_11 hf
            obtain ⟨r_12, S_13, hc_14, hf⟩ := bo_inv hf
            have hk := hk.trans ((fr_X9_join n _ _ _ _ _ hc_14).mono (by intro c h; unfold wr_X9_join at h; unfold wr_X9_joinTight; omega))
            obtain ⟨x1_15, ex1_15, hf⟩ := bd_inv hf
            exact j134 x2 k4 hk4 k14 hk14 S_13 x1_15 x3 hf hk
  have j59 : ∀ (x2 : Int32) (k4 : St → Int32 → Int32 → Option (Int32 × St)) (hk4 : ∀ (S : St) (x1 : Int32) (x2 : Int32), k4 S x1 x2 = some (r, S2) → Keeps wr_X9_joinTight S0 S → Keeps wr_X9_joinTight S0 S2) (k14 : St → Int32 → Int32 → Option (Int32 × St)) (hk14 : ∀ (S : St) (x1 : Int32) (x3 : Int32), k14 S x1 x3 = some (r, S2) → Keeps wr_X9_joinTight S0 S → Keeps wr_X9_joinTight S0 S2), ∀ (S : St) (x1 : Int32) (x3 : Int32), f_X9_joinTight_59 n x2 k4 k14 S x1 x3 = some (r, S2) → Keeps wr_X9_joinTight S0 S → Keeps wr_X9_joinTight S0 S2 := by
    intro x2 k4 hk4 k14 hk14 S x1 x3 hf hk
    unfold f_X9_joinTight_59 at hf
    exact j60 x2 k4 hk4 k14 hk14 S x1 x3 ((0 : Int32)) hf hk
  have b14 : ∀ (x2 : Int32) (k4 : St → Int32 → Int32 → Option (Int32 × St)) (hk4 : ∀ (S : St) (x1 : Int32) (x2 : Int32), k4 S x1 x2 = some (r, S2) → Keeps wr_X9_joinTight S0 S → Keeps wr_X9_joinTight S0 S2) (k14 : St → Int32 → Int32 → Option (Int32 × St)) (hk14 : ∀ (S : St) (x1 : Int32) (x3 : Int32), k14 S x1 x3 = some (r, S2) → Keeps wr_X9_joinTight S0 S → Keeps wr_X9_joinTight S0 S2), ∀ (S : St) (x1 : Int32) (x3 : Int32), f_X9_joinTight_14 n x2 k4 k14 S x1 x3 = some (r, S2) → Keeps wr_X9_joinTight S0 S → Keeps wr_X9_joinTight S0 S2 := by
    intro x2 k4 hk4 k14 hk14 S x1 x3 hf hk
    unfold f_X9_joinTight_14 at hf
    rcases (Decidable.em (x2 ≤ x3)) with b_16 | b_16
    · have hf := if_t b_16 hf
      obtain ⟨x2_17, ex2_17, hf⟩ := bd_inv hf
      exact hk4 S x1 x2_17 hf hk
    · have hf := if_f b_16 hf
      obtain ⟨g_18, hf⟩ := gd_inv hf
      rcases (Decidable.em (0 ≤ (lg_cmp (S.2 42 ((((10 : Int32) * x2) + x3)).toNatClampNeg) (1152921504606846976 : Int64)))) with b_19 | b_19
      · have hf := if_t b_19 hf
        exact j59 x2 k4 hk4 k14 hk14 S x1 x3 hf hk
      · have hf := if_f b_19 hf
        obtain ⟨g_20, hf⟩ := gd_inv hf
        rcases (Decidable.em (0 ≤ (lg_cmp (S.2 42 ((((10 : Int32) * x3) + x2)).toNatClampNeg) (1152921504606846976 : Int64)))) with b_21 | b_21
        · have hf := if_t b_21 hf
          exact j59 x2 k4 hk4 k14 hk14 S x1 x3 hf hk
        · have hf := if_f b_21 hf
          exact j60 x2 k4 hk4 k14 hk14 S x1 x3 ((1 : Int32)) hf hk
  have j14 : ∀ (x2 : Int32) (k4 : St → Int32 → Int32 → Option (Int32 × St)) (hk4 : ∀ (S : St) (x1 : Int32) (x2 : Int32), k4 S x1 x2 = some (r, S2) → Keeps wr_X9_joinTight S0 S → Keeps wr_X9_joinTight S0 S2) (d : Nat), ∀ (S : St) (x1 : Int32) (x3 : Int32), fixF (fun _ _ _ => none) (f_X9_joinTight_14 n x2 k4) d S x1 x3 = some (r, S2) → Keeps wr_X9_joinTight S0 S → Keeps wr_X9_joinTight S0 S2 := by
    intro x2 k4 hk4 d
    induction d with
    | zero => intro S x1 x3 hf hk; cases hf
    | succ d ih => exact b14 x2 k4 hk4 (fixF (fun _ _ _ => none) (f_X9_joinTight_14 n x2 k4) d) ih
  have b4 : ∀ (k4 : St → Int32 → Int32 → Option (Int32 × St)) (hk4 : ∀ (S : St) (x1 : Int32) (x2 : Int32), k4 S x1 x2 = some (r, S2) → Keeps wr_X9_joinTight S0 S → Keeps wr_X9_joinTight S0 S2), ∀ (S : St) (x1 : Int32) (x2 : Int32), f_X9_joinTight_4 n k4 S x1 x2 = some (r, S2) → Keeps wr_X9_joinTight S0 S → Keeps wr_X9_joinTight S0 S2 := by
    intro k4 hk4 S x1 x2 hf hk
    unfold f_X9_joinTight_4 at hf
    rcases (Decidable.em ((S.1 28 18) ≤ x2)) with b_22 | b_22
    · have hf := if_t b_22 hf
      obtain ⟨g_23, hf⟩ := gd_inv hf
      exact (rt_inv hf).2 ▸ hk
    · have hf := if_f b_22 hf
      obtain ⟨x3_24, ex3_24, hf⟩ := bd_inv hf
      exact j14 x2 k4 hk4 n S x1 x3_24 hf hk
  have j4 : ∀ (d : Nat), ∀ (S : St) (x1 : Int32) (x2 : Int32), fixF (fun _ _ _ => none) (f_X9_joinTight_4 n) d S x1 x2 = some (r, S2) → Keeps wr_X9_joinTight S0 S → Keeps wr_X9_joinTight S0 S2 := by
    intro   d
    induction d with
    | zero => intro S x1 x2 hf hk; cases hf
    | succ d ih => exact b4   (fixF (fun _ _ _ => none) (f_X9_joinTight_4 n) d) ih
  unfold f_X9_joinTight at hf
  obtain ⟨x1_25, ex1_25, hf⟩ := bd_inv hf
  obtain ⟨x2_26, ex2_26, hf⟩ := bd_inv hf
  exact j4   n S x1_25 x2_26 hf hk
def wr_X9_layExchange : Nat → Prop := fun c => c = 28 ∨ c = 41 ∨ c = 42
theorem fr_X9_layExchange (n : Nat) (S : St) (r : Unit) (S2 : St) (hf : f_X9_layExchange n S = some (r, S2)) : Keeps (wr_X9_layExchange) S S2 := by
  have hk : Keeps (wr_X9_layExchange) S S := Keeps.rf
  obtain ⟨S0, hS0⟩ : ∃ S0, S0 = S := ⟨S, rfl⟩
  have hk : Keeps (wr_X9_layExchange) S0 S := by rw [hS0]; exact hk
  suffices hh : Keeps (wr_X9_layExchange) S0 S2 by rw [hS0] at hh; exact hh
  have j183 : ∀ (k127 : St → Int32 → Option (Unit × St)) (hk127 : ∀ (S : St) (x2 : Int32), k127 S x2 = some (r, S2) → Keeps wr_X9_layExchange S0 S → Keeps wr_X9_layExchange S0 S2), ∀ (S : St) (x2 : Int32) (t1 : Int32), f_X9_layExchange_183 n k127 S x2 t1 = some (r, S2) → Keeps wr_X9_layExchange S0 S → Keeps wr_X9_layExchange S0 S2 := by
    intro k127 hk127 S x2 t1 hf hk
    unfold f_X9_layExchange_183 at hf
    obtain ⟨g_2, hf⟩ := gd_inv hf
    obtain ⟨S_1, eS_1, hf⟩ := bd_inv hf
    have hk := hk.trans (kpI eS_1 (by unfold wr_X9_layExchange; omega))
    obtain ⟨x2_3, ex2_3, hf⟩ := bd_inv hf
    exact hk127 S_1 x2_3 hf hk
  have j182 : ∀ (k127 : St → Int32 → Option (Unit × St)) (hk127 : ∀ (S : St) (x2 : Int32), k127 S x2 = some (r, S2) → Keeps wr_X9_layExchange S0 S → Keeps wr_X9_layExchange S0 S2), ∀ (S : St) (x2 : Int32), f_X9_layExchange_182 n k127 S x2 = some (r, S2) → Keeps wr_X9_layExchange S0 S → Keeps wr_X9_layExchange S0 S2 := by
    intro k127 hk127 S x2 hf hk
    unfold f_X9_layExchange_182 at hf
    exact j183  k127 hk127 S x2 ((0 : Int32)) hf hk
  have j178 : ∀ (k127 : St → Int32 → Option (Unit × St)) (hk127 : ∀ (S : St) (x2 : Int32), k127 S x2 = some (r, S2) → Keeps wr_X9_layExchange S0 S → Keeps wr_X9_layExchange S0 S2), ∀ (S : St) (x2 : Int32), f_X9_layExchange_178 n k127 S x2 = some (r, S2) → Keeps wr_X9_layExchange S0 S → Keeps wr_X9_layExchange S0 S2 := by
    intro k127 hk127 S x2 hf hk
    unfold f_X9_layExchange_178 at hf
    exact j183  k127 hk127 S x2 ((1 : Int32)) hf hk
  have b127 : ∀ (k127 : St → Int32 → Option (Unit × St)) (hk127 : ∀ (S : St) (x2 : Int32), k127 S x2 = some (r, S2) → Keeps wr_X9_layExchange S0 S → Keeps wr_X9_layExchange S0 S2), ∀ (S : St) (x2 : Int32), f_X9_layExchange_127 n k127 S x2 = some (r, S2) → Keeps wr_X9_layExchange S0 S → Keeps wr_X9_layExchange S0 S2 := by
    intro k127 hk127 S x2 hf hk
    unfold f_X9_layExchange_127 at hf
    rcases (Decidable.em ((S.1 28 2) ≤ x2)) with b_4 | b_4
    · have hf := if_t b_4 hf
      exact (rt_inv hf).2 ▸ hk
    · have hf := if_f b_4 hf
      rcases (Decidable.em ((S.1 28 27) = 0)).symm with b_5 | b_5
      · have hf := if_f b_5 hf
        exact j178  k127 hk127 S x2 hf hk
      · have hf := if_t b_5 hf
        obtain ⟨g_6, hf⟩ := gd_inv hf
        rcases (Decidable.em ((S.1 32 (x2).toNatClampNeg) = (1 : Int32))).symm with b_7 | b_7
        · have hf := if_f b_7 hf
          exact j182  k127 hk127 S x2 hf hk
        · have hf := if_t b_7 hf
          obtain ⟨g_8, hf⟩ := gd_inv hf
          obtain ⟨g_9, hf⟩ := gd_inv hf
          obtain ⟨g_10, hf⟩ := gd_inv hf
          obtain ⟨g_11, hf⟩ := gd_inv hf
          rcases (Decidable.em ((S.1 41 ((S.1 38 (x2).toNatClampNeg)).toNatClampNeg) = (S.1 41 ((S.1 39 (x2).toNatClampNeg)).toNatClampNeg))).symm with b_12 | b_12
          · have hf := if_f b_12 hf
            exact j182  k127 hk127 S x2 hf hk
          · have hf := if_t b_12 hf
            exact j178  k127 hk127 S x2 hf hk
  have j127 : ∀ (d : Nat), ∀ (S : St) (x2 : Int32), fixF (fun _ _ => none) (f_X9_layExchange_127 n) d S x2 = some (r, S2) → Keeps wr_X9_layExchange S0 S → Keeps wr_X9_layExchange S0 S2 := by
    intro   d
    induction d with
    | zero => intro S x2 hf hk; cases hf
    | succ d ih => exact b127   (fixF (fun _ _ => none) (f_X9_layExchange_127 n) d) ih
  have j121 : ∀ (k76 : St → Int32 → Option (Unit × St)) (hk76 : ∀ (S : St) (x1 : Int32), k76 S x1 = some (r, S2) → Keeps wr_X9_layExchange S0 S → Keeps wr_X9_layExchange S0 S2), ∀ (S : St) (t0 : Int32), f_X9_layExchange_121 n k76 S t0 = some (r, S2) → Keeps wr_X9_layExchange S0 S → Keeps wr_X9_layExchange S0 S2 := by
    intro k76 hk76 S t0 hf hk
    unfold f_X9_layExchange_121 at hf
    obtain ⟨x1_13, ex1_13, hf⟩ := bd_inv hf
    exact hk76 S x1_13 hf hk
  have j120 : ∀ (k76 : St → Int32 → Option (Unit × St)) (hk76 : ∀ (S : St) (x1 : Int32), k76 S x1 = some (r, S2) → Keeps wr_X9_layExchange S0 S → Keeps wr_X9_layExchange S0 S2), ∀ (S : St), f_X9_layExchange_120 n k76 S = some (r, S2) → Keeps wr_X9_layExchange S0 S → Keeps wr_X9_layExchange S0 S2 := by
    intro k76 hk76 S hf hk
    unfold f_X9_layExchange_120 at hf
    exact j121  k76 hk76 S ((0 : Int32)) hf hk
  have b76 : ∀ (k76 : St → Int32 → Option (Unit × St)) (hk76 : ∀ (S : St) (x1 : Int32), k76 S x1 = some (r, S2) → Keeps wr_X9_layExchange S0 S → Keeps wr_X9_layExchange S0 S2), ∀ (S : St) (x1 : Int32), f_X9_layExchange_76 n k76 S x1 = some (r, S2) → Keeps wr_X9_layExchange S0 S → Keeps wr_X9_layExchange S0 S2 := by
    intro k76 hk76 S x1 hf hk
    unfold f_X9_layExchange_76 at hf
    rcases (Decidable.em (x1 = 0)) with b_14 | b_14
    · have hf := if_t b_14 hf
      obtain ⟨x2_15, ex2_15, hf⟩ := bd_inv hf
      exact j127   n S x2_15 hf hk
    · have hf := if_f b_14 hf
      obtain ⟨S_16, eS_16, hf⟩ := bd_inv hf
      have hk := hk.trans (kpI eS_16 (by unfold wr_X9_layExchange; omega))
      obtain ⟨r_17, S_18, hc_19, hf⟩ := bo_inv hf
      have hk := hk.trans ((fr_X9_growSame n _ _ _ hc_19).mono (by intro c h; unfold wr_X9_growSame at h; unfold wr_X9_layExchange; omega))
      obtain ⟨r_20, S_21, hc_22, hf⟩ := bo_inv hf
      have hk := hk.trans ((fr_X9_layWays n _ _ _ hc_22).mono (by intro c h; unfold wr_X9_layWays at h; unfold wr_X9_layExchange; omega))
      obtain ⟨g_24, hf⟩ := gd_inv hf
      obtain ⟨S_23, eS_23, hf⟩ := bd_inv hf
      have hk := hk.trans (kpI eS_23 (by unfold wr_X9_layExchange; omega))
      rcases (Decidable.em ((S_23.1 28 27) = 0)).symm with b_25 | b_25
      · have hf := if_f b_25 hf
        exact j120  k76 hk76 S_23  hf hk
      · have hf := if_t b_25 hf
        obtain ⟨r_26, S_27, hc_28, hf⟩ := bo_inv hf
        have hk := hk.trans ((fr_X9_joinTight n _ _ _ hc_28).mono (by intro c h; unfold wr_X9_joinTight at h; unfold wr_X9_layExchange; omega))
        rcases (Decidable.em (r_26 = 0)) with b_29 | b_29
        · have hf := if_t b_29 hf
          exact j120  k76 hk76 S_27  hf hk
        · have hf := if_f b_29 hf
          exact j121  k76 hk76 S_27 ((1 : Int32)) hf hk
  have j76 : ∀ (d : Nat), ∀ (S : St) (x1 : Int32), fixF (fun _ _ => none) (f_X9_layExchange_76 n) d S x1 = some (r, S2) → Keeps wr_X9_layExchange S0 S → Keeps wr_X9_layExchange S0 S2 := by
    intro   d
    induction d with
    | zero => intro S x1 hf hk; cases hf
    | succ d ih => exact b76   (fixF (fun _ _ => none) (f_X9_layExchange_76 n) d) ih
  have j68 : ∀ (k35 : St → Int32 → Option (Unit × St)) (hk35 : ∀ (S : St) (x1 : Int32), k35 S x1 = some (r, S2) → Keeps wr_X9_layExchange S0 S → Keeps wr_X9_layExchange S0 S2), ∀ (S : St) (x1 : Int32), f_X9_layExchange_68 n k35 S x1 = some (r, S2) → Keeps wr_X9_layExchange S0 S → Keeps wr_X9_layExchange S0 S2 := by
    intro k35 hk35 S x1 hf hk
    unfold f_X9_layExchange_68 at hf
    obtain ⟨x1_30, ex1_30, hf⟩ := bd_inv hf
    exact hk35 S x1_30 hf hk
  have b35 : ∀ (k35 : St → Int32 → Option (Unit × St)) (hk35 : ∀ (S : St) (x1 : Int32), k35 S x1 = some (r, S2) → Keeps wr_X9_layExchange S0 S → Keeps wr_X9_layExchange S0 S2), ∀ (S : St) (x1 : Int32), f_X9_layExchange_35 n k35 S x1 = some (r, S2) → Keeps wr_X9_layExchange S0 S → Keeps wr_X9_layExchange S0 S2 := by
    intro k35 hk35 S x1 hf hk
    unfold f_X9_layExchange_35 at hf
    rcases (Decidable.em ((S.1 28 2) ≤ x1)) with b_31 | b_31
    · have hf := if_t b_31 hf
      obtain ⟨x1_32, ex1_32, hf⟩ := bd_inv hf
      exact j76   n S x1_32 hf hk
    · have hf := if_f b_31 hf
      obtain ⟨g_33, hf⟩ := gd_inv hf
      rcases (Decidable.em ((S.1 32 (x1).toNatClampNeg) = 0)).symm with b_34 | b_34
      · have hf := if_f b_34 hf
        exact j68  k35 hk35 S x1 hf hk
      · have hf := if_t b_34 hf
        obtain ⟨g_35, hf⟩ := gd_inv hf
        obtain ⟨g_36, hf⟩ := gd_inv hf
        obtain ⟨r_37, S_38, hc_39, hf⟩ := bo_inv hf
        have hk := hk.trans ((fr_X9_join n _ _ _ _ _ hc_39).mono (by intro c h; unfold wr_X9_join at h; unfold wr_X9_layExchange; omega))
        exact j68  k35 hk35 S_38 x1 hf hk
  have j35 : ∀ (d : Nat), ∀ (S : St) (x1 : Int32), fixF (fun _ _ => none) (f_X9_layExchange_35 n) d S x1 = some (r, S2) → Keeps wr_X9_layExchange S0 S → Keeps wr_X9_layExchange S0 S2 := by
    intro   d
    induction d with
    | zero => intro S x1 hf hk; cases hf
    | succ d ih => exact b35   (fixF (fun _ _ => none) (f_X9_layExchange_35 n) d) ih
  have b12 : ∀ (k12 : St → Int32 → Option (Unit × St)) (hk12 : ∀ (S : St) (x1 : Int32), k12 S x1 = some (r, S2) → Keeps wr_X9_layExchange S0 S → Keeps wr_X9_layExchange S0 S2), ∀ (S : St) (x1 : Int32), f_X9_layExchange_12 n k12 S x1 = some (r, S2) → Keeps wr_X9_layExchange S0 S → Keeps wr_X9_layExchange S0 S2 := by
    intro k12 hk12 S x1 hf hk
    unfold f_X9_layExchange_12 at hf
    rcases (Decidable.em ((S.1 28 18) ≤ x1)) with b_40 | b_40
    · have hf := if_t b_40 hf
      obtain ⟨x1_41, ex1_41, hf⟩ := bd_inv hf
      exact j35   n S x1_41 hf hk
    · have hf := if_f b_40 hf
      obtain ⟨g_42, hf⟩ := gd_inv hf
      obtain ⟨S_43, eS_43, hf⟩ := bd_inv hf
      have hk := hk.trans (kpI eS_43 (by unfold wr_X9_layExchange; omega))
      obtain ⟨x1_44, ex1_44, hf⟩ := bd_inv hf
      exact hk12 S_43 x1_44 hf hk
  have j12 : ∀ (d : Nat), ∀ (S : St) (x1 : Int32), fixF (fun _ _ => none) (f_X9_layExchange_12 n) d S x1 = some (r, S2) → Keeps wr_X9_layExchange S0 S → Keeps wr_X9_layExchange S0 S2 := by
    intro   d
    induction d with
    | zero => intro S x1 hf hk; cases hf
    | succ d ih => exact b12   (fixF (fun _ _ => none) (f_X9_layExchange_12 n) d) ih
  unfold f_X9_layExchange at hf
  obtain ⟨S_45, eS_45, hf⟩ := bd_inv hf
  have hk := hk.trans (kpI eS_45 (by unfold wr_X9_layExchange; omega))
  obtain ⟨S_46, eS_46, hf⟩ := bd_inv hf
  have hk := hk.trans (kpI eS_46 (by unfold wr_X9_layExchange; omega))
  obtain ⟨x1_47, ex1_47, hf⟩ := bd_inv hf
  exact j12   n S_46 x1_47 hf hk
def wr_X9_sameSets : Nat → Prop := fun c => False
theorem fr_X9_sameSets (n : Nat) (S : St) (r : Int32) (S2 : St) (hf : f_X9_sameSets n S = some (r, S2)) : Keeps (wr_X9_sameSets) S S2 := by
  have hk : Keeps (wr_X9_sameSets) S S := Keeps.rf
  obtain ⟨S0, hS0⟩ : ∃ S0, S0 = S := ⟨S, rfl⟩
  have hk : Keeps (wr_X9_sameSets) S0 S := by rw [hS0]; exact hk
  suffices hh : Keeps (wr_X9_sameSets) S0 S2 by rw [hS0] at hh; exact hh
  have j28 : ∀ (k4 : St → Int32 → Int32 → Option (Int32 × St)) (hk4 : ∀ (S : St) (x1 : Int32) (x2 : Int32), k4 S x1 x2 = some (r, S2) → Keeps wr_X9_sameSets S0 S → Keeps wr_X9_sameSets S0 S2), ∀ (S : St) (x2 : Int32) (t0 : Int32) (t1 : Int32), f_X9_sameSets_28 n k4 S x2 t0 t1 = some (r, S2) → Keeps wr_X9_sameSets S0 S → Keeps wr_X9_sameSets S0 S2 := by
    intro k4 hk4 S x2 t0 t1 hf hk
    unfold f_X9_sameSets_28 at hf
    obtain ⟨x1_1, ex1_1, hf⟩ := bd_inv hf
    obtain ⟨x2_2, ex2_2, hf⟩ := bd_inv hf
    exact hk4 S x1_1 x2_2 hf hk
  have b4 : ∀ (k4 : St → Int32 → Int32 → Option (Int32 × St)) (hk4 : ∀ (S : St) (x1 : Int32) (x2 : Int32), k4 S x1 x2 = some (r, S2) → Keeps wr_X9_sameSets S0 S → Keeps wr_X9_sameSets S0 S2), ∀ (S : St) (x1 : Int32) (x2 : Int32), f_X9_sameSets_4 n k4 S x1 x2 = some (r, S2) → Keeps wr_X9_sameSets S0 S → Keeps wr_X9_sameSets S0 S2 := by
    intro k4 hk4 S x1 x2 hf hk
    unfold f_X9_sameSets_4 at hf
    rcases (Decidable.em ((S.1 28 18) ≤ x2)) with b_3 | b_3
    · have hf := if_t b_3 hf
      exact (rt_inv hf).2 ▸ hk
    · have hf := if_f b_3 hf
      obtain ⟨g_4, hf⟩ := gd_inv hf
      rcases (Decidable.em ((S.1 41 (x2).toNatClampNeg) = x2)).symm with b_5 | b_5
      · have hf := if_f b_5 hf
        exact j28  k4 hk4 S x2 x1 ((0 : Int32)) hf hk
      · have hf := if_t b_5 hf
        exact j28  k4 hk4 S x2 x1 ((1 : Int32)) hf hk
  have j4 : ∀ (d : Nat), ∀ (S : St) (x1 : Int32) (x2 : Int32), fixF (fun _ _ _ => none) (f_X9_sameSets_4 n) d S x1 x2 = some (r, S2) → Keeps wr_X9_sameSets S0 S → Keeps wr_X9_sameSets S0 S2 := by
    intro   d
    induction d with
    | zero => intro S x1 x2 hf hk; cases hf
    | succ d ih => exact b4   (fixF (fun _ _ _ => none) (f_X9_sameSets_4 n) d) ih
  unfold f_X9_sameSets at hf
  obtain ⟨x1_6, ex1_6, hf⟩ := bd_inv hf
  obtain ⟨x2_7, ex2_7, hf⟩ := bd_inv hf
  exact j4   n S x1_6 x2_7 hf hk
def wr_X9_exchangeNow : Nat → Prop := fun c => c = 28 ∨ c = 41 ∨ c = 42
theorem fr_X9_exchangeNow (n : Nat) (S : St) (a1 : Int32) (r : Int32) (S2 : St) (hf : f_X9_exchangeNow n S a1 = some (r, S2)) : Keeps (wr_X9_exchangeNow) S S2 := by
  have hk : Keeps (wr_X9_exchangeNow) S S := Keeps.rf
  unfold f_X9_exchangeNow at hf
  obtain ⟨r_1, S_2, hc_3, hf⟩ := bo_inv hf
  have hk := hk.trans ((fr_X9_layExchange n _ _ _ hc_3).mono (by intro c h; unfold wr_X9_layExchange at h; unfold wr_X9_exchangeNow; omega))
  rcases (Decidable.em (a1 = 0)).symm with b_4 | b_4
  · have hf := if_f b_4 hf
    rcases (Decidable.em (a1 = (1 : Int32))).symm with b_5 | b_5
    · have hf := if_f b_5 hf
      obtain ⟨r_6, S_7, hc_8, hf⟩ := bo_inv hf
      have hk := hk.trans ((fr_X9_sameSets n _ _ _ hc_8).mono (fun _ h => False.elim h))
      exact (rt_inv hf).2 ▸ hk
    · have hf := if_t b_5 hf
      exact (rt_inv hf).2 ▸ hk
  · have hf := if_t b_4 hf
    rcases (Decidable.em ((S_2.1 28 27) = 0)) with b_9 | b_9
    · have hf := if_t b_9 hf
      exact (rt_inv hf).2 ▸ hk
    · have hf := if_f b_9 hf
      exact (rt_inv hf).2 ▸ hk
def wr_X9_exchange : Nat → Prop := fun c => c = 28 ∨ c = 41 ∨ c = 42
theorem fr_X9_exchange (n : Nat) (S : St) (a1 : Int32) (r : Int32) (S2 : St) (hf : f_X9_exchange n S a1 = some (r, S2)) : Keeps (wr_X9_exchange) S S2 := by
  have hk : Keeps (wr_X9_exchange) S S := Keeps.rf
  unfold f_X9_exchange at hf
  obtain ⟨r_1, S_2, hc_3, hf⟩ := bo_inv hf
  have hk := hk.trans ((fr_X9_within n _ _ _ _ _ _ hc_3).mono (fun _ h => False.elim h))
  rcases (Decidable.em (r_1 = 0)) with b_4 | b_4
  · have hf := if_t b_4 hf
    exact (rt_inv hf).2 ▸ hk
  · have hf := if_f b_4 hf
    obtain ⟨r_5, S_6, hc_7, hf⟩ := bo_inv hf
    have hk := hk.trans ((fr_X9_exchangeNow n _ _ _ _ hc_7).mono (by intro c h; unfold wr_X9_exchangeNow at h; unfold wr_X9_exchange; omega))
    exact (rt_inv hf).2 ▸ hk
def wr_X9_areTerms : Nat → Prop := fun c => False
theorem fr_X9_areTerms (n : Nat) (S : St) (a1 : Int32) (a2 : Int32) (r : Int32) (S2 : St) (hf : f_X9_areTerms n S a1 a2 = some (r, S2)) : Keeps (wr_X9_areTerms) S S2 := by
  have hk : Keeps (wr_X9_areTerms) S S := Keeps.rf
  unfold f_X9_areTerms at hf
  obtain ⟨r_1, S_2, hc_3, hf⟩ := bo_inv hf
  have hk := hk.trans ((fr_X9_within n _ _ _ _ _ _ hc_3).mono (fun _ h => False.elim h))
  rcases (Decidable.em (r_1 = 0)) with b_4 | b_4
  · have hf := if_t b_4 hf
    exact (rt_inv hf).2 ▸ hk
  · have hf := if_f b_4 hf
    obtain ⟨r_5, S_6, hc_7, hf⟩ := bo_inv hf
    have hk := hk.trans ((fr_X9_within n _ _ _ _ _ _ hc_7).mono (fun _ h => False.elim h))
    rcases (Decidable.em (r_5 = 0)) with b_8 | b_8
    · have hf := if_t b_8 hf
      exact (rt_inv hf).2 ▸ hk
    · have hf := if_f b_8 hf
      exact (rt_inv hf).2 ▸ hk
def wr_X9_told : Nat → Prop := fun c => False
theorem fr_X9_told (n : Nat) (S : St) (a0 : Int64) (r : Int32) (S2 : St) (hf : f_X9_told n S a0 = some (r, S2)) : Keeps (wr_X9_told) S S2 := by
  have hk : Keeps (wr_X9_told) S S := Keeps.rf
  obtain ⟨S0, hS0⟩ : ∃ S0, S0 = S := ⟨S, rfl⟩
  have hk : Keeps (wr_X9_told) S0 S := by rw [hS0]; exact hk
  suffices hh : Keeps (wr_X9_told) S0 S2 by rw [hS0] at hh; exact hh
  have j16 : ∀ (S : St), f_X9_told_16 n S = some (r, S2) → Keeps wr_X9_told S0 S → Keeps wr_X9_told S0 S2 := by
    intro S hf hk
    unfold f_X9_told_16 at hf
    exact (rt_inv hf).2 ▸ hk
  unfold f_X9_told at hf
  rcases (Decidable.em (0 < (lg_cmp a0 (2000000000 : Int64)))) with b_1 | b_1
  · have hf := if_t b_1 hf
    exact j16   S  hf hk
  · have hf := if_f b_1 hf
    rcases (Decidable.em (0 ≤ (lg_cmp a0 (-2000000000 : Int64)))) with b_2 | b_2
    · have hf := if_t b_2 hf
      exact (rt_inv hf).2 ▸ hk
    · have hf := if_f b_2 hf
      exact j16   S  hf hk
def wr_X9_far : Nat → Prop := fun c => c = 28 ∨ c = 41 ∨ c = 42
theorem fr_X9_far (n : Nat) (S : St) (a1 : Int32) (a2 : Int32) (r : Int32) (S2 : St) (hf : f_X9_far n S a1 a2 = some (r, S2)) : Keeps (wr_X9_far) S S2 := by
  have hk : Keeps (wr_X9_far) S S := Keeps.rf
  unfold f_X9_far at hf
  obtain ⟨r_1, S_2, hc_3, hf⟩ := bo_inv hf
  have hk := hk.trans ((fr_X9_areTerms n _ _ _ _ _ hc_3).mono (fun _ h => False.elim h))
  rcases (Decidable.em (r_1 = 0)).symm with b_4 | b_4
  · have hf := if_f b_4 hf
    obtain ⟨r_5, S_6, hc_7, hf⟩ := bo_inv hf
    have hk := hk.trans ((fr_X9_layExchange n _ _ _ hc_7).mono (by intro c h; unfold wr_X9_layExchange at h; unfold wr_X9_far; omega))
    rcases (Decidable.em ((S_6.1 28 27) = 0)) with b_8 | b_8
    · have hf := if_t b_8 hf
      obtain ⟨g_9, hf⟩ := gd_inv hf
      rcases (Decidable.em ((lg_cmp (S_6.2 42 ((((10 : Int32) * a1) + a2)).toNatClampNeg) (1152921504606846976 : Int64)) = 0)).symm with b_10 | b_10
      · have hf := if_f b_10 hf
        obtain ⟨g_11, hf⟩ := gd_inv hf
        obtain ⟨r_12, S_13, hc_14, hf⟩ := bo_inv hf
        have hk := hk.trans ((fr_X9_told n _ _ _ _ hc_14).mono (fun _ h => False.elim h))
        exact (rt_inv hf).2 ▸ hk
      · have hf := if_t b_10 hf
        exact (rt_inv hf).2 ▸ hk
    · have hf := if_f b_8 hf
      exact (rt_inv hf).2 ▸ hk
  · have hf := if_t b_4 hf
    exact (rt_inv hf).2 ▸ hk
def wr_X9_has : Nat → Prop := fun c => False
theorem fr_X9_has (n : Nat) (S : St) (a0 : Int32) (a1 : Int32) (r : Int32) (S2 : St) (hf : f_X9_has n S a0 a1 = some (r, S2)) : Keeps (wr_X9_has) S S2 := by
  have hk : Keeps (wr_X9_has) S S := Keeps.rf
  unfold f_X9_has at hf
  rcases (Decidable.em (((a0 >>> (a1 &&& 31)) &&& (1 : Int32)) = (1 : Int32))).symm with b_1 | b_1
  · have hf := if_f b_1 hf
    exact (rt_inv hf).2 ▸ hk
  · have hf := if_t b_1 hf
    exact (rt_inv hf).2 ▸ hk
def wr_X9_bound : Nat → Prop := fun c => c = 43
theorem fr_X9_bound (n : Nat) (S : St) (a1 : Int32) (a2 : Int32) (a3 : Int32) (a4 : Int64) (r : Int32) (S2 : St) (hf : f_X9_bound n S a1 a2 a3 a4 = some (r, S2)) : Keeps (wr_X9_bound) S S2 := by
  have hk : Keeps (wr_X9_bound) S S := Keeps.rf
  obtain ⟨S0, hS0⟩ : ∃ S0, S0 = S := ⟨S, rfl⟩
  have hk : Keeps (wr_X9_bound) S0 S := by rw [hS0]; exact hk
  suffices hh : Keeps (wr_X9_bound) S0 S2 by rw [hS0] at hh; exact hh
  have j162 : ∀ (x2 : Int32) (x3 : Int32) (x4 : Int64) (x6 : Int32) (x9 : Int32) (k46 : St → Int32 → Option (Int32 × St)) (hk46 : ∀ (S : St) (x9 : Int32), k46 S x9 = some (r, S2) → Keeps wr_X9_bound S0 S → Keeps wr_X9_bound S0 S2) (k58 : St → Int32 → Option (Int32 × St)) (hk58 : ∀ (S : St) (x10 : Int32), k58 S x10 = some (r, S2) → Keeps wr_X9_bound S0 S → Keeps wr_X9_bound S0 S2), ∀ (S : St) (x10 : Int32), f_X9_bound_162 n x2 x3 x4 x6 x9 k46 k58 S x10 = some (r, S2) → Keeps wr_X9_bound S0 S → Keeps wr_X9_bound S0 S2 := by
    intro x2 x3 x4 x6 x9 k46 hk46 k58 hk58 S x10 hf hk
    unfold f_X9_bound_162 at hf
    obtain ⟨x10_1, ex10_1, hf⟩ := bd_inv hf
    exact hk58 S x10_1 hf hk
  have b58 : ∀ (x2 : Int32) (x3 : Int32) (x4 : Int64) (x6 : Int32) (x9 : Int32) (k46 : St → Int32 → Option (Int32 × St)) (hk46 : ∀ (S : St) (x9 : Int32), k46 S x9 = some (r, S2) → Keeps wr_X9_bound S0 S → Keeps wr_X9_bound S0 S2) (k58 : St → Int32 → Option (Int32 × St)) (hk58 : ∀ (S : St) (x10 : Int32), k58 S x10 = some (r, S2) → Keeps wr_X9_bound S0 S → Keeps wr_X9_bound S0 S2), ∀ (S : St) (x10 : Int32), f_X9_bound_58 n x2 x3 x4 x6 x9 k46 k58 S x10 = some (r, S2) → Keeps wr_X9_bound S0 S → Keeps wr_X9_bound S0 S2 := by
    intro x2 x3 x4 x6 x9 k46 hk46 k58 hk58 S x10 hf hk
    unfold f_X9_bound_58 at hf
    rcases (Decidable.em ((S.1 28 18) ≤ x10)) with b_2 | b_2
    · have hf := if_t b_2 hf
      obtain ⟨x9_3, ex9_3, hf⟩ := bd_inv hf
      exact hk46 S x9_3 hf hk
    · have hf := if_f b_2 hf
      obtain ⟨g_4, hf⟩ := gd_inv hf
      obtain ⟨x11_5, ex11_5, hf⟩ := bd_inv hf
      obtain ⟨g_6, hf⟩ := gd_inv hf
      obtain ⟨x13_7, ex13_7, hf⟩ := bd_inv hf
      rcases (Decidable.em (0 ≤ (lg_cmp x11_5 (1152921504606846976 : Int64)))) with b_8 | b_8
      · have hf := if_t b_8 hf
        exact j162 x2 x3 x4 x6 x9 k46 hk46 k58 hk58 S x10 hf hk
      · have hf := if_f b_8 hf
        rcases (Decidable.em (0 ≤ (lg_cmp x13_7 (1152921504606846976 : Int64)))) with b_9 | b_9
        · have hf := if_t b_9 hf
          exact j162 x2 x3 x4 x6 x9 k46 hk46 k58 hk58 S x10 hf hk
        · have hf := if_f b_9 hf
          obtain ⟨g_10, hf⟩ := gd_inv hf
          obtain ⟨r_11, S_12, hc_13, hf⟩ := bo_inv hf
          have hk := hk.trans ((fr_X9_least n _ _ _ _ _ hc_13).mono (fun _ h => False.elim h))
          obtain ⟨g_14, hf⟩ := gd_inv hf
          obtain ⟨S_15, eS_15, hf⟩ := bd_inv hf
          have hk := hk.trans (kpL eS_15 (by unfold wr_X9_bound; omega))
          exact j162 x2 x3 x4 x6 x9 k46 hk46 k58 hk58 S_15 x10 hf hk
  have j58 : ∀ (x2 : Int32) (x3 : Int32) (x4 : Int64) (x6 : Int32) (x9 : Int32) (k46 : St → Int32 → Option (Int32 × St)) (hk46 : ∀ (S : St) (x9 : Int32), k46 S x9 = some (r, S2) → Keeps wr_X9_bound S0 S → Keeps wr_X9_bound S0 S2) (d : Nat), ∀ (S : St) (x10 : Int32), fixF (fun _ _ => none) (f_X9_bound_58 n x2 x3 x4 x6 x9 k46) d S x10 = some (r, S2) → Keeps wr_X9_bound S0 S → Keeps wr_X9_bound S0 S2 := by
    intro x2 x3 x4 x6 x9 k46 hk46 d
    induction d with
    | zero => intro S x10 hf hk; cases hf
    | succ d ih => exact b58 x2 x3 x4 x6 x9 k46 hk46 (fixF (fun _ _ => none) (f_X9_bound_58 n x2 x3 x4 x6 x9 k46) d) ih
  have b46 : ∀ (x2 : Int32) (x3 : Int32) (x4 : Int64) (x6 : Int32) (k46 : St → Int32 → Option (Int32 × St)) (hk46 : ∀ (S : St) (x9 : Int32), k46 S x9 = some (r, S2) → Keeps wr_X9_bound S0 S → Keeps wr_X9_bound S0 S2), ∀ (S : St) (x9 : Int32), f_X9_bound_46 n x2 x3 x4 x6 k46 S x9 = some (r, S2) → Keeps wr_X9_bound S0 S → Keeps wr_X9_bound S0 S2 := by
    intro x2 x3 x4 x6 k46 hk46 S x9 hf hk
    unfold f_X9_bound_46 at hf
    rcases (Decidable.em ((S.1 28 18) ≤ x9)) with b_16 | b_16
    · have hf := if_t b_16 hf
      exact (rt_inv hf).2 ▸ hk
    · have hf := if_f b_16 hf
      obtain ⟨x10_17, ex10_17, hf⟩ := bd_inv hf
      exact j58 x2 x3 x4 x6 x9 k46 hk46 n S x10_17 hf hk
  have j46 : ∀ (x2 : Int32) (x3 : Int32) (x4 : Int64) (x6 : Int32) (d : Nat), ∀ (S : St) (x9 : Int32), fixF (fun _ _ => none) (f_X9_bound_46 n x2 x3 x4 x6) d S x9 = some (r, S2) → Keeps wr_X9_bound S0 S → Keeps wr_X9_bound S0 S2 := by
    intro x2 x3 x4 x6  d
    induction d with
    | zero => intro S x9 hf hk; cases hf
    | succ d ih => exact b46 x2 x3 x4 x6  (fixF (fun _ _ => none) (f_X9_bound_46 n x2 x3 x4 x6) d) ih
  have j43 : ∀ (S : St) (x2 : Int32) (x3 : Int32) (x4 : Int64) (x6 : Int32), f_X9_bound_43 n S x2 x3 x4 x6 = some (r, S2) → Keeps wr_X9_bound S0 S → Keeps wr_X9_bound S0 S2 := by
    intro S x2 x3 x4 x6 hf hk
    unfold f_X9_bound_43 at hf
    obtain ⟨x9_18, ex9_18, hf⟩ := bd_inv hf
    exact j46 x2 x3 x4 x6  n S x9_18 hf hk
  unfold f_X9_bound at hf
  obtain ⟨x6_19, ex6_19, hf⟩ := bd_inv hf
  obtain ⟨g_20, hf⟩ := gd_inv hf
  obtain ⟨x7_21, ex7_21, hf⟩ := bd_inv hf
  rcases (Decidable.em (0 ≤ (lg_cmp x7_21 (1152921504606846976 : Int64)))) with b_22 | b_22
  · have hf := if_t b_22 hf
    exact j43   S a2 a3 a4 x6_19 hf hk
  · have hf := if_f b_22 hf
    rcases (Decidable.em (0 ≤ (lg_cmp (x7_21 + a4) (0 : Int64)))) with b_23 | b_23
    · have hf := if_t b_23 hf
      exact j43   S a2 a3 a4 x6_19 hf hk
    · have hf := if_f b_23 hf
      exact (rt_inv hf).2 ▸ hk
def wr_X9_boundBoth : Nat → Prop := fun c => c = 43
theorem fr_X9_boundBoth (n : Nat) (S : St) (a1 : Int32) (a2 : Int32) (a3 : Int32) (r : Int32) (S2 : St) (hf : f_X9_boundBoth n S a1 a2 a3 = some (r, S2)) : Keeps (wr_X9_boundBoth) S S2 := by
  have hk : Keeps (wr_X9_boundBoth) S S := Keeps.rf
  unfold f_X9_boundBoth at hf
  obtain ⟨r_1, S_2, hc_3, hf⟩ := bo_inv hf
  have hk := hk.trans ((fr_X9_bound n _ _ _ _ _ _ _ hc_3).mono (by intro c h; unfold wr_X9_bound at h; unfold wr_X9_boundBoth; omega))
  rcases (Decidable.em (r_1 = 0)) with b_4 | b_4
  · have hf := if_t b_4 hf
    exact (rt_inv hf).2 ▸ hk
  · have hf := if_f b_4 hf
    obtain ⟨r_5, S_6, hc_7, hf⟩ := bo_inv hf
    have hk := hk.trans ((fr_X9_bound n _ _ _ _ _ _ _ hc_7).mono (by intro c h; unfold wr_X9_bound at h; unfold wr_X9_boundBoth; omega))
    rcases (Decidable.em (r_5 = 0)) with b_8 | b_8
    · have hf := if_t b_8 hf
      exact (rt_inv hf).2 ▸ hk
    · have hf := if_f b_8 hf
      exact (rt_inv hf).2 ▸ hk
def wr_X9_boundLiteral : Nat → Prop := fun c => c = 43
theorem fr_X9_boundLiteral (n : Nat) (S : St) (a1 : Int32) (r : Int32) (S2 : St) (hf : f_X9_boundLiteral n S a1 = some (r, S2)) : Keeps (wr_X9_boundLiteral) S S2 := by
  have hk : Keeps (wr_X9_boundLiteral) S S := Keeps.rf
  unfold f_X9_boundLiteral at hf
  obtain ⟨r_1, S_2, hc_3, hf⟩ := bo_inv hf
  have hk := hk.trans ((fr_X9_has n _ _ _ _ _ hc_3).mono (fun _ h => False.elim h))
  rcases (Decidable.em (r_1 = 0)) with b_4 | b_4
  · have hf := if_t b_4 hf
    exact (rt_inv hf).2 ▸ hk
  · have hf := if_f b_4 hf
    obtain ⟨g_5, hf⟩ := gd_inv hf
    rcases (Decidable.em ((S_2.1 32 (a1).toNatClampNeg) = (1 : Int32))).symm with b_6 | b_6
    · have hf := if_f b_6 hf
      obtain ⟨g_7, hf⟩ := gd_inv hf
      rcases (Decidable.em ((S_2.1 32 (a1).toNatClampNeg) = 0)).symm with b_8 | b_8
      · have hf := if_f b_8 hf
        obtain ⟨g_9, hf⟩ := gd_inv hf
        obtain ⟨g_10, hf⟩ := gd_inv hf
        obtain ⟨g_11, hf⟩ := gd_inv hf
        obtain ⟨r_12, S_13, hc_14, hf⟩ := bo_inv hf
        have hk := hk.trans ((fr_X9_bound n _ _ _ _ _ _ _ hc_14).mono (by intro c h; unfold wr_X9_bound at h; unfold wr_X9_boundLiteral; omega))
        obtain ⟨g_15, hf⟩ := gd_inv hf
        exact (rt_inv hf).2 ▸ hk
      · have hf := if_t b_8 hf
        obtain ⟨g_16, hf⟩ := gd_inv hf
        obtain ⟨g_17, hf⟩ := gd_inv hf
        obtain ⟨r_18, S_19, hc_20, hf⟩ := bo_inv hf
        have hk := hk.trans ((fr_X9_boundBoth n _ _ _ _ _ _ hc_20).mono (by intro c h; unfold wr_X9_boundBoth at h; unfold wr_X9_boundLiteral; omega))
        obtain ⟨g_21, hf⟩ := gd_inv hf
        exact (rt_inv hf).2 ▸ hk
    · have hf := if_t b_6 hf
      exact (rt_inv hf).2 ▸ hk
def wr_X9_layFirst : Nat → Prop := fun c => c = 43
theorem fr_X9_layFirst (n : Nat) (S : St) (r : Int32) (S2 : St) (hf : f_X9_layFirst n S = some (r, S2)) : Keeps (wr_X9_layFirst) S S2 := by
  have hk : Keeps (wr_X9_layFirst) S S := Keeps.rf
  obtain ⟨S0, hS0⟩ : ∃ S0, S0 = S := ⟨S, rfl⟩
  have hk : Keeps (wr_X9_layFirst) S0 S := by rw [hS0]; exact hk
  suffices hh : Keeps (wr_X9_layFirst) S0 S2 by rw [hS0] at hh; exact hh
  have j155 : ∀ (S : St), f_X9_layFirst_155 n S = some (r, S2) → Keeps wr_X9_layFirst S0 S → Keeps wr_X9_layFirst S0 S2 := by
    intro S hf hk
    unfold f_X9_layFirst_155 at hf
    exact (rt_inv hf).2 ▸ hk
  have j123 : ∀ (S : St) (t0 : Int32), f_X9_layFirst_123 n S t0 = some (r, S2) → Keeps wr_X9_layFirst S0 S → Keeps wr_X9_layFirst S0 S2 := by
    intro S t0 hf hk
    unfold f_X9_layFirst_123 at hf
    obtain ⟨x1_1, ex1_1, hf⟩ := bd_inv hf
    rcases (Decidable.em (x1_1 = 0)) with b_2 | b_2
    · have hf := if_t b_2 hf
      exact (rt_inv hf).2 ▸ hk
    · have hf := if_f b_2 hf
      rcases (Decidable.em ((S.1 28 32) = (2 : Int32))).symm with b_3 | b_3
      · have hf := if_f b_3 hf
        exact j155   S  hf hk
      · have hf := if_t b_3 hf
        obtain ⟨r_4, S_5, hc_6, hf⟩ := bo_inv hf
        have hk := hk.trans ((fr_X9_bound n _ _ _ _ _ _ _ hc_6).mono (by intro c h; unfold wr_X9_bound at h; unfold wr_X9_layFirst; omega))
        rcases (Decidable.em (r_4 = 0)) with b_7 | b_7
        · have hf := if_t b_7 hf
          exact (rt_inv hf).2 ▸ hk
        · have hf := if_f b_7 hf
          exact j155   S_5  hf hk
  have j122 : ∀ (S : St), f_X9_layFirst_122 n S = some (r, S2) → Keeps wr_X9_layFirst S0 S → Keeps wr_X9_layFirst S0 S2 := by
    intro S hf hk
    unfold f_X9_layFirst_122 at hf
    exact j123   S ((0 : Int32)) hf hk
  have j118 : ∀ (S : St), f_X9_layFirst_118 n S = some (r, S2) → Keeps wr_X9_layFirst S0 S → Keeps wr_X9_layFirst S0 S2 := by
    intro S hf hk
    unfold f_X9_layFirst_118 at hf
    exact j123   S ((1 : Int32)) hf hk
  have j84 : ∀ (k59 : St → Int32 → Int32 → Option (Int32 × St)) (hk59 : ∀ (S : St) (x1 : Int32) (x2 : Int32), k59 S x1 x2 = some (r, S2) → Keeps wr_X9_layFirst S0 S → Keeps wr_X9_layFirst S0 S2), ∀ (S : St) (x2 : Int32) (t0 : Int32), f_X9_layFirst_84 n k59 S x2 t0 = some (r, S2) → Keeps wr_X9_layFirst S0 S → Keeps wr_X9_layFirst S0 S2 := by
    intro k59 hk59 S x2 t0 hf hk
    unfold f_X9_layFirst_84 at hf
    obtain ⟨x1_8, ex1_8, hf⟩ := bd_inv hf
    obtain ⟨x2_9, ex2_9, hf⟩ := bd_inv hf
    exact hk59 S x1_8 x2_9 hf hk
  have j83 : ∀ (k59 : St → Int32 → Int32 → Option (Int32 × St)) (hk59 : ∀ (S : St) (x1 : Int32) (x2 : Int32), k59 S x1 x2 = some (r, S2) → Keeps wr_X9_layFirst S0 S → Keeps wr_X9_layFirst S0 S2), ∀ (S : St) (x2 : Int32), f_X9_layFirst_83 n k59 S x2 = some (r, S2) → Keeps wr_X9_layFirst S0 S → Keeps wr_X9_layFirst S0 S2 := by
    intro k59 hk59 S x2 hf hk
    unfold f_X9_layFirst_83 at hf
    exact j84  k59 hk59 S x2 ((0 : Int32)) hf hk
  have b59 : ∀ (k59 : St → Int32 → Int32 → Option (Int32 × St)) (hk59 : ∀ (S : St) (x1 : Int32) (x2 : Int32), k59 S x1 x2 = some (r, S2) → Keeps wr_X9_layFirst S0 S → Keeps wr_X9_layFirst S0 S2), ∀ (S : St) (x1 : Int32) (x2 : Int32), f_X9_layFirst_59 n k59 S x1 x2 = some (r, S2) → Keeps wr_X9_layFirst S0 S → Keeps wr_X9_layFirst S0 S2 := by
    intro k59 hk59 S x1 x2 hf hk
    unfold f_X9_layFirst_59 at hf
    rcases (Decidable.em ((S.1 28 2) ≤ x2)) with b_10 | b_10
    · have hf := if_t b_10 hf
      rcases (Decidable.em (x1 = 0)) with b_11 | b_11
      · have hf := if_t b_11 hf
        exact j122   S  hf hk
      · have hf := if_f b_11 hf
        rcases (Decidable.em ((S.1 28 32) = 0)).symm with b_12 | b_12
        · have hf := if_f b_12 hf
          exact j118   S  hf hk
        · have hf := if_t b_12 hf
          obtain ⟨r_13, S_14, hc_15, hf⟩ := bo_inv hf
          have hk := hk.trans ((fr_X9_boundBoth n _ _ _ _ _ _ hc_15).mono (by intro c h; unfold wr_X9_boundBoth at h; unfold wr_X9_layFirst; omega))
          rcases (Decidable.em (r_13 = 0)) with b_16 | b_16
          · have hf := if_t b_16 hf
            exact j122   S_14  hf hk
          · have hf := if_f b_16 hf
            exact j118   S_14  hf hk
    · have hf := if_f b_10 hf
      rcases (Decidable.em (x1 = 0)) with b_17 | b_17
      · have hf := if_t b_17 hf
        exact j83  k59 hk59 S x2 hf hk
      · have hf := if_f b_17 hf
        obtain ⟨r_18, S_19, hc_20, hf⟩ := bo_inv hf
        have hk := hk.trans ((fr_X9_boundLiteral n _ _ _ _ hc_20).mono (by intro c h; unfold wr_X9_boundLiteral at h; unfold wr_X9_layFirst; omega))
        rcases (Decidable.em (r_18 = 0)) with b_21 | b_21
        · have hf := if_t b_21 hf
          exact j83  k59 hk59 S_19 x2 hf hk
        · have hf := if_f b_21 hf
          exact j84  k59 hk59 S_19 x2 ((1 : Int32)) hf hk
  have j59 : ∀ (d : Nat), ∀ (S : St) (x1 : Int32) (x2 : Int32), fixF (fun _ _ _ => none) (f_X9_layFirst_59 n) d S x1 x2 = some (r, S2) → Keeps wr_X9_layFirst S0 S → Keeps wr_X9_layFirst S0 S2 := by
    intro   d
    induction d with
    | zero => intro S x1 x2 hf hk; cases hf
    | succ d ih => exact b59   (fixF (fun _ _ _ => none) (f_X9_layFirst_59 n) d) ih
  have j42 : ∀ (x1 : Int32) (k2 : St → Int32 → Option (Int32 × St)) (hk2 : ∀ (S : St) (x1 : Int32), k2 S x1 = some (r, S2) → Keeps wr_X9_layFirst S0 S → Keeps wr_X9_layFirst S0 S2) (k12 : St → Int32 → Option (Int32 × St)) (hk12 : ∀ (S : St) (x2 : Int32), k12 S x2 = some (r, S2) → Keeps wr_X9_layFirst S0 S → Keeps wr_X9_layFirst S0 S2), ∀ (S : St) (x2 : Int32) (t1 : Int32) (t2 : Int64), f_X9_layFirst_42 n x1 k2 k12 S x2 t1 t2 = some (r, S2) → Keeps wr_X9_layFirst S0 S → Keeps wr_X9_layFirst S0 S2 := by
    intro x1 k2 hk2 k12 hk12 S x2 t1 t2 hf hk
    unfold f_X9_layFirst_42 at hf
    obtain ⟨g_22, hf⟩ := gd_inv hf
    obtain ⟨S_23, eS_23, hf⟩ := bd_inv hf
    have hk := hk.trans (kpL eS_23 (by unfold wr_X9_layFirst; omega))
    obtain ⟨x2_24, ex2_24, hf⟩ := bd_inv hf
    exact hk12 S_23 x2_24 hf hk
  have b12 : ∀ (x1 : Int32) (k2 : St → Int32 → Option (Int32 × St)) (hk2 : ∀ (S : St) (x1 : Int32), k2 S x1 = some (r, S2) → Keeps wr_X9_layFirst S0 S → Keeps wr_X9_layFirst S0 S2) (k12 : St → Int32 → Option (Int32 × St)) (hk12 : ∀ (S : St) (x2 : Int32), k12 S x2 = some (r, S2) → Keeps wr_X9_layFirst S0 S → Keeps wr_X9_layFirst S0 S2), ∀ (S : St) (x2 : Int32), f_X9_layFirst_12 n x1 k2 k12 S x2 = some (r, S2) → Keeps wr_X9_layFirst S0 S → Keeps wr_X9_layFirst S0 S2 := by
    intro x1 k2 hk2 k12 hk12 S x2 hf hk
    unfold f_X9_layFirst_12 at hf
    rcases (Decidable.em ((S.1 28 18) ≤ x2)) with b_25 | b_25
    · have hf := if_t b_25 hf
      obtain ⟨x1_26, ex1_26, hf⟩ := bd_inv hf
      exact hk2 S x1_26 hf hk
    · have hf := if_f b_25 hf
      rcases (Decidable.em (x1 = x2)).symm with b_27 | b_27
      · have hf := if_f b_27 hf
        exact j42 x1 k2 hk2 k12 hk12 S x2 ((((10 : Int32) * x1) + x2)) ((1152921504606846976 : Int64)) hf hk
      · have hf := if_t b_27 hf
        exact j42 x1 k2 hk2 k12 hk12 S x2 ((((10 : Int32) * x1) + x2)) ((0 : Int64)) hf hk
  have j12 : ∀ (x1 : Int32) (k2 : St → Int32 → Option (Int32 × St)) (hk2 : ∀ (S : St) (x1 : Int32), k2 S x1 = some (r, S2) → Keeps wr_X9_layFirst S0 S → Keeps wr_X9_layFirst S0 S2) (d : Nat), ∀ (S : St) (x2 : Int32), fixF (fun _ _ => none) (f_X9_layFirst_12 n x1 k2) d S x2 = some (r, S2) → Keeps wr_X9_layFirst S0 S → Keeps wr_X9_layFirst S0 S2 := by
    intro x1 k2 hk2 d
    induction d with
    | zero => intro S x2 hf hk; cases hf
    | succ d ih => exact b12 x1 k2 hk2 (fixF (fun _ _ => none) (f_X9_layFirst_12 n x1 k2) d) ih
  have b2 : ∀ (k2 : St → Int32 → Option (Int32 × St)) (hk2 : ∀ (S : St) (x1 : Int32), k2 S x1 = some (r, S2) → Keeps wr_X9_layFirst S0 S → Keeps wr_X9_layFirst S0 S2), ∀ (S : St) (x1 : Int32), f_X9_layFirst_2 n k2 S x1 = some (r, S2) → Keeps wr_X9_layFirst S0 S → Keeps wr_X9_layFirst S0 S2 := by
    intro k2 hk2 S x1 hf hk
    unfold f_X9_layFirst_2 at hf
    rcases (Decidable.em ((S.1 28 18) ≤ x1)) with b_28 | b_28
    · have hf := if_t b_28 hf
      obtain ⟨x1_29, ex1_29, hf⟩ := bd_inv hf
      obtain ⟨x2_30, ex2_30, hf⟩ := bd_inv hf
      exact j59   n S x1_29 x2_30 hf hk
    · have hf := if_f b_28 hf
      obtain ⟨x2_31, ex2_31, hf⟩ := bd_inv hf
      exact j12 x1 k2 hk2 n S x2_31 hf hk
  have j2 : ∀ (d : Nat), ∀ (S : St) (x1 : Int32), fixF (fun _ _ => none) (f_X9_layFirst_2 n) d S x1 = some (r, S2) → Keeps wr_X9_layFirst S0 S → Keeps wr_X9_layFirst S0 S2 := by
    intro   d
    induction d with
    | zero => intro S x1 hf hk; cases hf
    | succ d ih => exact b2   (fixF (fun _ _ => none) (f_X9_layFirst_2 n) d) ih
  unfold f_X9_layFirst at hf
  obtain ⟨x1_32, ex1_32, hf⟩ := bd_inv hf
  exact j2   n S x1_32 hf hk
def wr_X9_fill : Nat → Prop := fun c => c = 44
theorem fr_X9_fill (n : Nat) (S : St) (a1 : Int32) (r : Unit) (S2 : St) (hf : f_X9_fill n S a1 = some (r, S2)) : Keeps (wr_X9_fill) S S2 := by
  have hk : Keeps (wr_X9_fill) S S := Keeps.rf
  obtain ⟨S0, hS0⟩ : ∃ S0, S0 = S := ⟨S, rfl⟩
  have hk : Keeps (wr_X9_fill) S0 S := by rw [hS0]; exact hk
  suffices hh : Keeps (wr_X9_fill) S0 S2 by rw [hS0] at hh; exact hh
  have j123 : ∀ (x1 : Int32) (k2 : St → Int32 → Option (Unit × St)) (hk2 : ∀ (S : St) (x2 : Int32), k2 S x2 = some (r, S2) → Keeps wr_X9_fill S0 S → Keeps wr_X9_fill S0 S2), ∀ (S : St) (x2 : Int32) (t1 : Int32) (t2 : Int64), f_X9_fill_123 n x1 k2 S x2 t1 t2 = some (r, S2) → Keeps wr_X9_fill S0 S → Keeps wr_X9_fill S0 S2 := by
    intro x1 k2 hk2 S x2 t1 t2 hf hk
    unfold f_X9_fill_123 at hf
    obtain ⟨g_1, hf⟩ := gd_inv hf
    obtain ⟨S_2, eS_2, hf⟩ := bd_inv hf
    have hk := hk.trans (kpL eS_2 (by unfold wr_X9_fill; omega))
    obtain ⟨x2_3, ex2_3, hf⟩ := bd_inv hf
    exact hk2 S_2 x2_3 hf hk
  have j88 : ∀ (x1 : Int32) (k2 : St → Int32 → Option (Unit × St)) (hk2 : ∀ (S : St) (x2 : Int32), k2 S x2 = some (r, S2) → Keeps wr_X9_fill S0 S → Keeps wr_X9_fill S0 S2), ∀ (S : St) (x2 : Int32) (x3 : Int64) (t0 : Int64), f_X9_fill_88 n x1 k2 S x2 x3 t0 = some (r, S2) → Keeps wr_X9_fill S0 S → Keeps wr_X9_fill S0 S2 := by
    intro x1 k2 hk2 S x2 x3 t0 hf hk
    unfold f_X9_fill_88 at hf
    obtain ⟨x5_4, ex5_4, hf⟩ := bd_inv hf
    rcases (Decidable.em ((S.1 28 38) = (-2000000001 : Int32))).symm with b_5 | b_5
    · have hf := if_f b_5 hf
      obtain ⟨r_6, S_7, hc_8, hf⟩ := bo_inv hf
      have hk := hk.trans ((fr_X9_least n _ _ _ _ _ hc_8).mono (fun _ h => False.elim h))
      exact j123 x1 k2 hk2 S_7 x2 ((((10 : Int32) * x1) + x2)) r_6 hf hk
    · have hf := if_t b_5 hf
      exact j123 x1 k2 hk2 S x2 ((((10 : Int32) * x1) + x2)) x3 hf hk
  have b17 : ∀ (x1 : Int32) (x2 : Int32) (k2 : St → Int32 → Option (Unit × St)) (hk2 : ∀ (S : St) (x2 : Int32), k2 S x2 = some (r, S2) → Keeps wr_X9_fill S0 S → Keeps wr_X9_fill S0 S2) (k17 : St → Int64 → Int32 → Option (Unit × St)) (hk17 : ∀ (S : St) (x3 : Int64) (x5 : Int32), k17 S x3 x5 = some (r, S2) → Keeps wr_X9_fill S0 S → Keeps wr_X9_fill S0 S2), ∀ (S : St) (x3 : Int64) (x5 : Int32), f_X9_fill_17 n x1 x2 k2 k17 S x3 x5 = some (r, S2) → Keeps wr_X9_fill S0 S → Keeps wr_X9_fill S0 S2 := by
    intro x1 x2 k2 hk2 k17 hk17 S x3 x5 hf hk
    unfold f_X9_fill_17 at hf
    rcases (Decidable.em ((S.1 28 18) ≤ x5)) with b_9 | b_9
    · have hf := if_t b_9 hf
      rcases (Decidable.em ((S.1 28 38) = (-2000000001 : Int32))).symm with b_10 | b_10
      · have hf := if_f b_10 hf
        obtain ⟨g_11, hf⟩ := gd_inv hf
        exact j88 x1 k2 hk2 S x2 x3 ((S.2 43 (((((100 : Int32) * x1) + ((10 : Int32) * x2)) + (S.1 28 38))).toNatClampNeg)) hf hk
      · have hf := if_t b_10 hf
        exact j88 x1 k2 hk2 S x2 x3 ((1152921504606846976 : Int64)) hf hk
    · have hf := if_f b_9 hf
      obtain ⟨g_12, hf⟩ := gd_inv hf
      obtain ⟨r_13, S_14, hc_15, hf⟩ := bo_inv hf
      have hk := hk.trans ((fr_X9_least n _ _ _ _ _ hc_15).mono (fun _ h => False.elim h))
      obtain ⟨x3_16, ex3_16, hf⟩ := bd_inv hf
      obtain ⟨x5_17, ex5_17, hf⟩ := bd_inv hf
      exact hk17 S_14 x3_16 x5_17 hf hk
  have j17 : ∀ (x1 : Int32) (x2 : Int32) (k2 : St → Int32 → Option (Unit × St)) (hk2 : ∀ (S : St) (x2 : Int32), k2 S x2 = some (r, S2) → Keeps wr_X9_fill S0 S → Keeps wr_X9_fill S0 S2) (d : Nat), ∀ (S : St) (x3 : Int64) (x5 : Int32), fixF (fun _ _ _ => none) (f_X9_fill_17 n x1 x2 k2) d S x3 x5 = some (r, S2) → Keeps wr_X9_fill S0 S → Keeps wr_X9_fill S0 S2 := by
    intro x1 x2 k2 hk2 d
    induction d with
    | zero => intro S x3 x5 hf hk; cases hf
    | succ d ih => exact b17 x1 x2 k2 hk2 (fixF (fun _ _ _ => none) (f_X9_fill_17 n x1 x2 k2) d) ih
  have b2 : ∀ (x1 : Int32) (k2 : St → Int32 → Option (Unit × St)) (hk2 : ∀ (S : St) (x2 : Int32), k2 S x2 = some (r, S2) → Keeps wr_X9_fill S0 S → Keeps wr_X9_fill S0 S2), ∀ (S : St) (x2 : Int32), f_X9_fill_2 n x1 k2 S x2 = some (r, S2) → Keeps wr_X9_fill S0 S → Keeps wr_X9_fill S0 S2 := by
    intro x1 k2 hk2 S x2 hf hk
    unfold f_X9_fill_2 at hf
    rcases (Decidable.em ((S.1 28 18) ≤ x2)) with b_18 | b_18
    · have hf := if_t b_18 hf
      exact (rt_inv hf).2 ▸ hk
    · have hf := if_f b_18 hf
      obtain ⟨x3_19, ex3_19, hf⟩ := bd_inv hf
      obtain ⟨x5_20, ex5_20, hf⟩ := bd_inv hf
      exact j17 x1 x2 k2 hk2 n S x3_19 x5_20 hf hk
  have j2 : ∀ (x1 : Int32) (d : Nat), ∀ (S : St) (x2 : Int32), fixF (fun _ _ => none) (f_X9_fill_2 n x1) d S x2 = some (r, S2) → Keeps wr_X9_fill S0 S → Keeps wr_X9_fill S0 S2 := by
    intro x1  d
    induction d with
    | zero => intro S x2 hf hk; cases hf
    | succ d ih => exact b2 x1  (fixF (fun _ _ => none) (f_X9_fill_2 n x1) d) ih
  unfold f_X9_fill at hf
  obtain ⟨x2_21, ex2_21, hf⟩ := bd_inv hf
  exact j2 a1  n S x2_21 hf hk
def wr_X9_areEven : Nat → Prop := fun c => False
theorem fr_X9_areEven (n : Nat) (S : St) (a1 : Int32) (a2 : Int32) (a3 : Int32) (r : Int32) (S2 : St) (hf : f_X9_areEven n S a1 a2 a3 = some (r, S2)) : Keeps (wr_X9_areEven) S S2 := by
  have hk : Keeps (wr_X9_areEven) S S := Keeps.rf
  unfold f_X9_areEven at hf
  obtain ⟨g_1, hf⟩ := gd_inv hf
  obtain ⟨g_2, hf⟩ := gd_inv hf
  rcases (Decidable.em ((lg_cmp (S.2 44 ((((10 : Int32) * a1) + a2)).toNatClampNeg) (S.2 44 ((((10 : Int32) * a1) + a3)).toNatClampNeg)) = 0)).symm with b_3 | b_3
  · have hf := if_f b_3 hf
    exact (rt_inv hf).2 ▸ hk
  · have hf := if_t b_3 hf
    exact (rt_inv hf).2 ▸ hk
def wr_X9_isBroken : Nat → Prop := fun c => False
theorem fr_X9_isBroken (n : Nat) (S : St) (a1 : Int32) (a2 : Int32) (a3 : Int32) (r : Int32) (S2 : St) (hf : f_X9_isBroken n S a1 a2 a3 = some (r, S2)) : Keeps (wr_X9_isBroken) S S2 := by
  have hk : Keeps (wr_X9_isBroken) S S := Keeps.rf
  obtain ⟨S0, hS0⟩ : ∃ S0, S0 = S := ⟨S, rfl⟩
  have hk : Keeps (wr_X9_isBroken) S0 S := by rw [hS0]; exact hk
  suffices hh : Keeps (wr_X9_isBroken) S0 S2 by rw [hS0] at hh; exact hh
  have j96 : ∀ (S : St), f_X9_isBroken_96 n S = some (r, S2) → Keeps wr_X9_isBroken S0 S → Keeps wr_X9_isBroken S0 S2 := by
    intro S hf hk
    unfold f_X9_isBroken_96 at hf
    exact (rt_inv hf).2 ▸ hk
  have j59 : ∀ (S : St) (x1 : Int32) (x2 : Int32) (x3 : Int32) (t0 : Int32), f_X9_isBroken_59 n S x1 x2 x3 t0 = some (r, S2) → Keeps wr_X9_isBroken S0 S → Keeps wr_X9_isBroken S0 S2 := by
    intro S x1 x2 x3 t0 hf hk
    unfold f_X9_isBroken_59 at hf
    obtain ⟨x4_1, ex4_1, hf⟩ := bd_inv hf
    rcases (Decidable.em (x4_1 = 0)) with b_2 | b_2
    · have hf := if_t b_2 hf
      exact (rt_inv hf).2 ▸ hk
    · have hf := if_f b_2 hf
      obtain ⟨g_3, hf⟩ := gd_inv hf
      rcases (Decidable.em ((S.1 35 (x2).toNatClampNeg) = (1 : Int32))) with b_4 | b_4
      · have hf := if_t b_4 hf
        exact j96   S  hf hk
      · have hf := if_f b_4 hf
        obtain ⟨g_5, hf⟩ := gd_inv hf
        obtain ⟨g_6, hf⟩ := gd_inv hf
        obtain ⟨r_7, S_8, hc_9, hf⟩ := bo_inv hf
        have hk := hk.trans ((fr_X9_areEven n _ _ _ _ _ _ hc_9).mono (fun _ h => False.elim h))
        rcases (Decidable.em (r_7 = 0)) with b_10 | b_10
        · have hf := if_t b_10 hf
          exact (rt_inv hf).2 ▸ hk
        · have hf := if_f b_10 hf
          exact j96   S_8  hf hk
  have j58 : ∀ (S : St) (x1 : Int32) (x2 : Int32) (x3 : Int32), f_X9_isBroken_58 n S x1 x2 x3 = some (r, S2) → Keeps wr_X9_isBroken S0 S → Keeps wr_X9_isBroken S0 S2 := by
    intro S x1 x2 x3 hf hk
    unfold f_X9_isBroken_58 at hf
    exact j59   S x1 x2 x3 ((0 : Int32)) hf hk
  unfold f_X9_isBroken at hf
  obtain ⟨g_11, hf⟩ := gd_inv hf
  rcases (Decidable.em ((S.1 35 (a2).toNatClampNeg) ≤ 0)) with b_12 | b_12
  · have hf := if_t b_12 hf
    exact j58   S a1 a2 a3 hf hk
  · have hf := if_f b_12 hf
    obtain ⟨g_13, hf⟩ := gd_inv hf
    obtain ⟨g_14, hf⟩ := gd_inv hf
    rcases (Decidable.em ((S.1 35 (a2).toNatClampNeg) = (S.1 35 (a3).toNatClampNeg))).symm with b_15 | b_15
    · have hf := if_f b_15 hf
      exact j58   S a1 a2 a3 hf hk
    · have hf := if_t b_15 hf
      obtain ⟨r_16, S_17, hc_18, hf⟩ := bo_inv hf
      have hk := hk.trans ((fr_X9_areEven n _ _ _ _ _ _ hc_18).mono (fun _ h => False.elim h))
      rcases (Decidable.em (r_16 = 0)).symm with b_19 | b_19
      · have hf := if_f b_19 hf
        exact j58   S_17 a1 a2 a3 hf hk
      · have hf := if_t b_19 hf
        obtain ⟨g_20, hf⟩ := gd_inv hf
        obtain ⟨g_21, hf⟩ := gd_inv hf
        obtain ⟨r_22, S_23, hc_24, hf⟩ := bo_inv hf
        have hk := hk.trans ((fr_X9_areEven n _ _ _ _ _ _ hc_24).mono (fun _ h => False.elim h))
        rcases (Decidable.em (r_22 = 0)) with b_25 | b_25
        · have hf := if_t b_25 hf
          exact j58   S_23 a1 a2 a3 hf hk
        · have hf := if_f b_25 hf
          exact j59   S_23 a1 a2 a3 ((1 : Int32)) hf hk
def wr_X9_splits : Nat → Prop := fun c => c = 45 ∨ c = 46 ∨ c = 47
theorem fr_X9_splits (n : Nat) (S : St) (a1 : Int32) (a2 : Int32) (a3 : Int32) (a4 : Int32) (r : Int32) (S2 : St) (hf : f_X9_splits n S a1 a2 a3 a4 = some (r, S2)) : Keeps (wr_X9_splits) S S2 := by
  have hk : Keeps (wr_X9_splits) S S := Keeps.rf
  unfold f_X9_splits at hf
  obtain ⟨g_1, hf⟩ := gd_inv hf
  obtain ⟨S_2, eS_2, hf⟩ := bd_inv hf
  have hk := hk.trans (kpI eS_2 (by unfold wr_X9_splits; omega))
  obtain ⟨g_3, hf⟩ := gd_inv hf
  obtain ⟨S_4, eS_4, hf⟩ := bd_inv hf
  have hk := hk.trans (kpI eS_4 (by unfold wr_X9_splits; omega))
  obtain ⟨g_5, hf⟩ := gd_inv hf
  obtain ⟨S_6, eS_6, hf⟩ := bd_inv hf
  have hk := hk.trans (kpI eS_6 (by unfold wr_X9_splits; omega))
  exact (rt_inv hf).2 ▸ hk
def wr_X9_findsSplit : Nat → Prop := fun c => c = 45 ∨ c = 46 ∨ c = 47
theorem fr_X9_findsSplit (n : Nat) (S : St) (a1 : Int32) (r : Int32) (S2 : St) (hf : f_X9_findsSplit n S a1 = some (r, S2)) : Keeps (wr_X9_findsSplit) S S2 := by
  have hk : Keeps (wr_X9_findsSplit) S S := Keeps.rf
  obtain ⟨S0, hS0⟩ : ∃ S0, S0 = S := ⟨S, rfl⟩
  have hk : Keeps (wr_X9_findsSplit) S0 S := by rw [hS0]; exact hk
  suffices hh : Keeps (wr_X9_findsSplit) S0 S2 by rw [hS0] at hh; exact hh
  have b167 : ∀ (x1 : Int32) (x2 : Int32) (k157 : St → Int32 → Option (Int32 × St)) (hk157 : ∀ (S : St) (x2 : Int32), k157 S x2 = some (r, S2) → Keeps wr_X9_findsSplit S0 S → Keeps wr_X9_findsSplit S0 S2) (k167 : St → Int32 → Option (Int32 × St)) (hk167 : ∀ (S : St) (x3 : Int32), k167 S x3 = some (r, S2) → Keeps wr_X9_findsSplit S0 S → Keeps wr_X9_findsSplit S0 S2), ∀ (S : St) (x3 : Int32), f_X9_findsSplit_167 n x1 x2 k157 k167 S x3 = some (r, S2) → Keeps wr_X9_findsSplit S0 S → Keeps wr_X9_findsSplit S0 S2 := by
    intro x1 x2 k157 hk157 k167 hk167 S x3 hf hk
    unfold f_X9_findsSplit_167 at hf
    rcases (Decidable.em (x2 ≤ x3)) with b_1 | b_1
    · have hf := if_t b_1 hf
      obtain ⟨x2_2, ex2_2, hf⟩ := bd_inv hf
      exact hk157 S x2_2 hf hk
    · have hf := if_f b_1 hf
      obtain ⟨r_3, S_4, hc_5, hf⟩ := bo_inv hf
      have hk := hk.trans ((fr_X9_isBroken n _ _ _ _ _ _ hc_5).mono (fun _ h => False.elim h))
      rcases (Decidable.em (r_3 = 0)) with b_6 | b_6
      · have hf := if_t b_6 hf
        obtain ⟨x3_7, ex3_7, hf⟩ := bd_inv hf
        exact hk167 S_4 x3_7 hf hk
      · have hf := if_f b_6 hf
        obtain ⟨r_8, S_9, hc_10, hf⟩ := bo_inv hf
        have hk := hk.trans ((fr_X9_splits n _ _ _ _ _ _ _ hc_10).mono (by intro c h; unfold wr_X9_splits at h; unfold wr_X9_findsSplit; omega))
        obtain ⟨g_11, hf⟩ := gd_inv hf
        exact (rt_inv hf).2 ▸ hk
  have j167 : ∀ (x1 : Int32) (x2 : Int32) (k157 : St → Int32 → Option (Int32 × St)) (hk157 : ∀ (S : St) (x2 : Int32), k157 S x2 = some (r, S2) → Keeps wr_X9_findsSplit S0 S → Keeps wr_X9_findsSplit S0 S2) (d : Nat), ∀ (S : St) (x3 : Int32), fixF (fun _ _ => none) (f_X9_findsSplit_167 n x1 x2 k157) d S x3 = some (r, S2) → Keeps wr_X9_findsSplit S0 S → Keeps wr_X9_findsSplit S0 S2 := by
    intro x1 x2 k157 hk157 d
    induction d with
    | zero => intro S x3 hf hk; cases hf
    | succ d ih => exact b167 x1 x2 k157 hk157 (fixF (fun _ _ => none) (f_X9_findsSplit_167 n x1 x2 k157) d) ih
  have b157 : ∀ (x1 : Int32) (k157 : St → Int32 → Option (Int32 × St)) (hk157 : ∀ (S : St) (x2 : Int32), k157 S x2 = some (r, S2) → Keeps wr_X9_findsSplit S0 S → Keeps wr_X9_findsSplit S0 S2), ∀ (S : St) (x2 : Int32), f_X9_findsSplit_157 n x1 k157 S x2 = some (r, S2) → Keeps wr_X9_findsSplit S0 S → Keeps wr_X9_findsSplit S0 S2 := by
    intro x1 k157 hk157 S x2 hf hk
    unfold f_X9_findsSplit_157 at hf
    rcases (Decidable.em ((S.1 28 18) ≤ x2)) with b_12 | b_12
    · have hf := if_t b_12 hf
      exact (rt_inv hf).2 ▸ hk
    · have hf := if_f b_12 hf
      obtain ⟨x3_13, ex3_13, hf⟩ := bd_inv hf
      exact j167 x1 x2 k157 hk157 n S x3_13 hf hk
  have j157 : ∀ (x1 : Int32) (d : Nat), ∀ (S : St) (x2 : Int32), fixF (fun _ _ => none) (f_X9_findsSplit_157 n x1) d S x2 = some (r, S2) → Keeps wr_X9_findsSplit S0 S → Keeps wr_X9_findsSplit S0 S2 := by
    intro x1  d
    induction d with
    | zero => intro S x2 hf hk; cases hf
    | succ d ih => exact b157 x1  (fixF (fun _ _ => none) (f_X9_findsSplit_157 n x1) d) ih
  have j155 : ∀ (S : St) (x1 : Int32), f_X9_findsSplit_155 n S x1 = some (r, S2) → Keeps wr_X9_findsSplit S0 S → Keeps wr_X9_findsSplit S0 S2 := by
    intro S x1 hf hk
    unfold f_X9_findsSplit_155 at hf
    obtain ⟨x2_14, ex2_14, hf⟩ := bd_inv hf
    exact j157 x1  n S x2_14 hf hk
  have j115 : ∀ (S : St) (x1 : Int32), f_X9_findsSplit_115 n S x1 = some (r, S2) → Keeps wr_X9_findsSplit S0 S → Keeps wr_X9_findsSplit S0 S2 := by
    intro S x1 hf hk
    unfold f_X9_findsSplit_115 at hf
    rcases (Decidable.em ((S.1 28 35) = (-2000000001 : Int32))) with b_15 | b_15
    · have hf := if_t b_15 hf
      exact j155   S x1 hf hk
    · have hf := if_f b_15 hf
      obtain ⟨r_16, S_17, hc_18, hf⟩ := bo_inv hf
      have hk := hk.trans ((fr_X9_areEven n _ _ _ _ _ _ hc_18).mono (fun _ h => False.elim h))
      rcases (Decidable.em (r_16 = 0)) with b_19 | b_19
      · have hf := if_t b_19 hf
        exact j155   S_17 x1 hf hk
      · have hf := if_f b_19 hf
        obtain ⟨r_20, S_21, hc_22, hf⟩ := bo_inv hf
        have hk := hk.trans ((fr_X9_splits n _ _ _ _ _ _ _ hc_22).mono (by intro c h; unfold wr_X9_splits at h; unfold wr_X9_findsSplit; omega))
        obtain ⟨g_23, hf⟩ := gd_inv hf
        exact (rt_inv hf).2 ▸ hk
  have j70 : ∀ (x1 : Int32) (k2 : St → Int32 → Option (Int32 × St)) (hk2 : ∀ (S : St) (x2 : Int32), k2 S x2 = some (r, S2) → Keeps wr_X9_findsSplit S0 S → Keeps wr_X9_findsSplit S0 S2), ∀ (S : St) (x2 : Int32), f_X9_findsSplit_70 n x1 k2 S x2 = some (r, S2) → Keeps wr_X9_findsSplit S0 S → Keeps wr_X9_findsSplit S0 S2 := by
    intro x1 k2 hk2 S x2 hf hk
    unfold f_X9_findsSplit_70 at hf
    obtain ⟨x2_24, ex2_24, hf⟩ := bd_inv hf
    exact hk2 S x2_24 hf hk
  have b2 : ∀ (x1 : Int32) (k2 : St → Int32 → Option (Int32 × St)) (hk2 : ∀ (S : St) (x2 : Int32), k2 S x2 = some (r, S2) → Keeps wr_X9_findsSplit S0 S → Keeps wr_X9_findsSplit S0 S2), ∀ (S : St) (x2 : Int32), f_X9_findsSplit_2 n x1 k2 S x2 = some (r, S2) → Keeps wr_X9_findsSplit S0 S → Keeps wr_X9_findsSplit S0 S2 := by
    intro x1 k2 hk2 S x2 hf hk
    unfold f_X9_findsSplit_2 at hf
    rcases (Decidable.em ((S.1 28 2) ≤ x2)) with b_25 | b_25
    · have hf := if_t b_25 hf
      rcases (Decidable.em ((S.1 28 32) = (1 : Int32))).symm with b_26 | b_26
      · have hf := if_f b_26 hf
        exact j115   S x1 hf hk
      · have hf := if_t b_26 hf
        obtain ⟨r_27, S_28, hc_29, hf⟩ := bo_inv hf
        have hk := hk.trans ((fr_X9_areEven n _ _ _ _ _ _ hc_29).mono (fun _ h => False.elim h))
        rcases (Decidable.em (r_27 = 0)) with b_30 | b_30
        · have hf := if_t b_30 hf
          exact j115   S_28 x1 hf hk
        · have hf := if_f b_30 hf
          obtain ⟨r_31, S_32, hc_33, hf⟩ := bo_inv hf
          have hk := hk.trans ((fr_X9_splits n _ _ _ _ _ _ _ hc_33).mono (by intro c h; unfold wr_X9_splits at h; unfold wr_X9_findsSplit; omega))
          obtain ⟨g_34, hf⟩ := gd_inv hf
          exact (rt_inv hf).2 ▸ hk
    · have hf := if_f b_25 hf
      obtain ⟨r_35, S_36, hc_37, hf⟩ := bo_inv hf
      have hk := hk.trans ((fr_X9_has n _ _ _ _ _ hc_37).mono (fun _ h => False.elim h))
      rcases (Decidable.em (r_35 = 0)) with b_38 | b_38
      · have hf := if_t b_38 hf
        exact j70 x1 k2 hk2 S_36 x2 hf hk
      · have hf := if_f b_38 hf
        obtain ⟨g_39, hf⟩ := gd_inv hf
        rcases (Decidable.em ((S_36.1 32 (x2).toNatClampNeg) = (1 : Int32))).symm with b_40 | b_40
        · have hf := if_f b_40 hf
          exact j70 x1 k2 hk2 S_36 x2 hf hk
        · have hf := if_t b_40 hf
          obtain ⟨g_41, hf⟩ := gd_inv hf
          obtain ⟨g_42, hf⟩ := gd_inv hf
          obtain ⟨r_43, S_44, hc_45, hf⟩ := bo_inv hf
          have hk := hk.trans ((fr_X9_areEven n _ _ _ _ _ _ hc_45).mono (fun _ h => False.elim h))
          rcases (Decidable.em (r_43 = 0)) with b_46 | b_46
          · have hf := if_t b_46 hf
            exact j70 x1 k2 hk2 S_44 x2 hf hk
          · have hf := if_f b_46 hf
            obtain ⟨g_47, hf⟩ := gd_inv hf
            obtain ⟨g_48, hf⟩ := gd_inv hf
            obtain ⟨r_49, S_50, hc_51, hf⟩ := bo_inv hf
            have hk := hk.trans ((fr_X9_splits n _ _ _ _ _ _ _ hc_51).mono (by intro c h; unfold wr_X9_splits at h; unfold wr_X9_findsSplit; omega))
            obtain ⟨g_52, hf⟩ := gd_inv hf
            exact (rt_inv hf).2 ▸ hk
  have j2 : ∀ (x1 : Int32) (d : Nat), ∀ (S : St) (x2 : Int32), fixF (fun _ _ => none) (f_X9_findsSplit_2 n x1) d S x2 = some (r, S2) → Keeps wr_X9_findsSplit S0 S → Keeps wr_X9_findsSplit S0 S2 := by
    intro x1  d
    induction d with
    | zero => intro S x2 hf hk; cases hf
    | succ d ih => exact b2 x1  (fixF (fun _ _ => none) (f_X9_findsSplit_2 n x1) d) ih
  unfold f_X9_findsSplit at hf
  obtain ⟨x2_53, ex2_53, hf⟩ := bd_inv hf
  exact j2 a1  n S x2_53 hf hk
def wr_X9_takesSide : Nat → Prop := fun c => c = 43
theorem fr_X9_takesSide (n : Nat) (S : St) (a1 : Int32) (a2 : Int32) (r : Int32) (S2 : St) (hf : f_X9_takesSide n S a1 a2 = some (r, S2)) : Keeps (wr_X9_takesSide) S S2 := by
  have hk : Keeps (wr_X9_takesSide) S S := Keeps.rf
  obtain ⟨S0, hS0⟩ : ∃ S0, S0 = S := ⟨S, rfl⟩
  have hk : Keeps (wr_X9_takesSide) S0 S := by rw [hS0]; exact hk
  suffices hh : Keeps (wr_X9_takesSide) S0 S2 by rw [hS0] at hh; exact hh
  have j191 : ∀ (S : St) (x1 : Int32) (x2 : Int32) (x5 : Int32) (t0 : Int32), f_X9_takesSide_191 n S x1 x2 x5 t0 = some (r, S2) → Keeps wr_X9_takesSide S0 S → Keeps wr_X9_takesSide S0 S2 := by
    intro S x1 x2 x5 t0 hf hk
    unfold f_X9_takesSide_191 at hf
    obtain ⟨x6_1, ex6_1, hf⟩ := bd_inv hf
    rcases (Decidable.em ((x2 - x2 / (2 : Int32) * (2 : Int32)) = 0)).symm with b_2 | b_2
    · have hf := if_f b_2 hf
      obtain ⟨r_3, S_4, hc_5, hf⟩ := bo_inv hf
      have hk := hk.trans ((fr_X9_bound n _ _ _ _ _ _ _ hc_5).mono (by intro c h; unfold wr_X9_bound at h; unfold wr_X9_takesSide; omega))
      obtain ⟨g_6, hf⟩ := gd_inv hf
      exact (rt_inv hf).2 ▸ hk
    · have hf := if_t b_2 hf
      obtain ⟨r_7, S_8, hc_9, hf⟩ := bo_inv hf
      have hk := hk.trans ((fr_X9_bound n _ _ _ _ _ _ _ hc_9).mono (by intro c h; unfold wr_X9_bound at h; unfold wr_X9_takesSide; omega))
      obtain ⟨g_10, hf⟩ := gd_inv hf
      exact (rt_inv hf).2 ▸ hk
  have j167 : ∀ (S : St) (x1 : Int32) (x2 : Int32) (x4 : Int32) (t0 : Int32), f_X9_takesSide_167 n S x1 x2 x4 t0 = some (r, S2) → Keeps wr_X9_takesSide S0 S → Keeps wr_X9_takesSide S0 S2 := by
    intro S x1 x2 x4 t0 hf hk
    unfold f_X9_takesSide_167 at hf
    obtain ⟨x5_11, ex5_11, hf⟩ := bd_inv hf
    rcases (Decidable.em ((2 : Int32) ≤ x2)) with b_12 | b_12
    · have hf := if_t b_12 hf
      obtain ⟨g_13, hf⟩ := gd_inv hf
      exact j191   S x1 x2 x5_11 ((S.1 37 (x4).toNatClampNeg)) hf hk
    · have hf := if_f b_12 hf
      obtain ⟨g_14, hf⟩ := gd_inv hf
      exact j191   S x1 x2 x5_11 ((S.1 36 (x4).toNatClampNeg)) hf hk
  have j147 : ∀ (S : St) (x1 : Int32) (x2 : Int32) (x3 : Int32) (x4 : Int32), f_X9_takesSide_147 n S x1 x2 x3 x4 = some (r, S2) → Keeps wr_X9_takesSide S0 S → Keeps wr_X9_takesSide S0 S2 := by
    intro S x1 x2 x3 x4 hf hk
    unfold f_X9_takesSide_147 at hf
    rcases (Decidable.em ((2 : Int32) ≤ x2)) with b_15 | b_15
    · have hf := if_t b_15 hf
      obtain ⟨g_16, hf⟩ := gd_inv hf
      exact j167   S x1 x2 x4 ((S.1 37 (x3).toNatClampNeg)) hf hk
    · have hf := if_f b_15 hf
      obtain ⟨g_17, hf⟩ := gd_inv hf
      exact j167   S x1 x2 x4 ((S.1 36 (x3).toNatClampNeg)) hf hk
  have b18 : ∀ (x1 : Int32) (x2 : Int32) (x3 : Int32) (x4 : Int32) (k18 : St → Int32 → Option (Int32 × St)) (hk18 : ∀ (S : St) (x5 : Int32), k18 S x5 = some (r, S2) → Keeps wr_X9_takesSide S0 S → Keeps wr_X9_takesSide S0 S2), ∀ (S : St) (x5 : Int32), f_X9_takesSide_18 n x1 x2 x3 x4 k18 S x5 = some (r, S2) → Keeps wr_X9_takesSide S0 S → Keeps wr_X9_takesSide S0 S2 := by
    intro x1 x2 x3 x4 k18 hk18 S x5 hf hk
    unfold f_X9_takesSide_18 at hf
    rcases (Decidable.em ((100 : Int32) ≤ x5)) with b_18 | b_18
    · have hf := if_t b_18 hf
      obtain ⟨g_19, hf⟩ := gd_inv hf
      rcases (Decidable.em ((S.1 45 (x1).toNatClampNeg) = 0)).symm with b_20 | b_20
      · have hf := if_f b_20 hf
        rcases (Decidable.em (x2 = (4 : Int32))).symm with b_21 | b_21
        · have hf := if_f b_21 hf
          rcases (Decidable.em (x2 ≤ (1 : Int32))) with b_22 | b_22
          · have hf := if_t b_22 hf
            exact j147   S x1 x2 x3 x4 hf hk
          · have hf := if_f b_22 hf
            obtain ⟨g_23, hf⟩ := gd_inv hf
            rcases (Decidable.em ((S.1 35 (x3).toNatClampNeg) = (1 : Int32))).symm with b_24 | b_24
            · have hf := if_f b_24 hf
              exact j147   S x1 x2 x3 x4 hf hk
            · have hf := if_t b_24 hf
              exact (rt_inv hf).2 ▸ hk
        · have hf := if_t b_21 hf
          obtain ⟨r_25, S_26, hc_27, hf⟩ := bo_inv hf
          have hk := hk.trans ((fr_X9_boundBoth n _ _ _ _ _ _ hc_27).mono (by intro c h; unfold wr_X9_boundBoth at h; unfold wr_X9_takesSide; omega))
          obtain ⟨g_28, hf⟩ := gd_inv hf
          exact (rt_inv hf).2 ▸ hk
      · have hf := if_t b_20 hf
        rcases (Decidable.em (x2 = 0)).symm with b_29 | b_29
        · have hf := if_f b_29 hf
          rcases (Decidable.em (x2 = (1 : Int32))).symm with b_30 | b_30
          · have hf := if_f b_30 hf
            exact (rt_inv hf).2 ▸ hk
          · have hf := if_t b_30 hf
            obtain ⟨r_31, S_32, hc_33, hf⟩ := bo_inv hf
            have hk := hk.trans ((fr_X9_bound n _ _ _ _ _ _ _ hc_33).mono (by intro c h; unfold wr_X9_bound at h; unfold wr_X9_takesSide; omega))
            rcases (Decidable.em (r_31 = 0)) with b_34 | b_34
            · have hf := if_t b_34 hf
              exact (rt_inv hf).2 ▸ hk
            · have hf := if_f b_34 hf
              exact (rt_inv hf).2 ▸ hk
        · have hf := if_t b_29 hf
          obtain ⟨r_35, S_36, hc_37, hf⟩ := bo_inv hf
          have hk := hk.trans ((fr_X9_bound n _ _ _ _ _ _ _ hc_37).mono (by intro c h; unfold wr_X9_bound at h; unfold wr_X9_takesSide; omega))
          obtain ⟨g_38, hf⟩ := gd_inv hf
          exact (rt_inv hf).2 ▸ hk
    · have hf := if_f b_18 hf
      obtain ⟨g_39, hf⟩ := gd_inv hf
      obtain ⟨g_40, hf⟩ := gd_inv hf
      obtain ⟨S_41, eS_41, hf⟩ := bd_inv hf
      have hk := hk.trans (kpL eS_41 (by unfold wr_X9_takesSide; omega))
      obtain ⟨x5_42, ex5_42, hf⟩ := bd_inv hf
      exact hk18 S_41 x5_42 hf hk
  have j18 : ∀ (x1 : Int32) (x2 : Int32) (x3 : Int32) (x4 : Int32) (d : Nat), ∀ (S : St) (x5 : Int32), fixF (fun _ _ => none) (f_X9_takesSide_18 n x1 x2 x3 x4) d S x5 = some (r, S2) → Keeps wr_X9_takesSide S0 S → Keeps wr_X9_takesSide S0 S2 := by
    intro x1 x2 x3 x4  d
    induction d with
    | zero => intro S x5 hf hk; cases hf
    | succ d ih => exact b18 x1 x2 x3 x4  (fixF (fun _ _ => none) (f_X9_takesSide_18 n x1 x2 x3 x4) d) ih
  unfold f_X9_takesSide at hf
  obtain ⟨g_43, hf⟩ := gd_inv hf
  obtain ⟨x3_44, ex3_44, hf⟩ := bd_inv hf
  obtain ⟨g_45, hf⟩ := gd_inv hf
  obtain ⟨x4_46, ex4_46, hf⟩ := bd_inv hf
  obtain ⟨x5_47, ex5_47, hf⟩ := bd_inv hf
  exact j18 a1 a2 x3_44 x4_46  n S x5_47 hf hk
def wr_X9_soughtBy : Nat → Prop := fun c => False
theorem fr_X9_soughtBy (n : Nat) (S : St) (a1 : Int32) (r : Int64) (S2 : St) (hf : f_X9_soughtBy n S a1 = some (r, S2)) : Keeps (wr_X9_soughtBy) S S2 := by
  have hk : Keeps (wr_X9_soughtBy) S S := Keeps.rf
  unfold f_X9_soughtBy at hf
  obtain ⟨g_1, hf⟩ := gd_inv hf
  exact (rt_inv hf).2 ▸ hk
def wr_X9_isDone : Nat → Prop := fun c => False
theorem fr_X9_isDone (n : Nat) (S : St) (r : Int32) (S2 : St) (hf : f_X9_isDone n S = some (r, S2)) : Keeps (wr_X9_isDone) S S2 := by
  have hk : Keeps (wr_X9_isDone) S S := Keeps.rf
  obtain ⟨S0, hS0⟩ : ∃ S0, S0 = S := ⟨S, rfl⟩
  have hk : Keeps (wr_X9_isDone) S0 S := by rw [hS0]; exact hk
  suffices hh : Keeps (wr_X9_isDone) S0 S2 by rw [hS0] at hh; exact hh
  have j23 : ∀ (S : St), f_X9_isDone_23 n S = some (r, S2) → Keeps wr_X9_isDone S0 S → Keeps wr_X9_isDone S0 S2 := by
    intro S hf hk
    unfold f_X9_isDone_23 at hf
    exact (rt_inv hf).2 ▸ hk
  unfold f_X9_isDone at hf
  rcases (Decidable.em ((S.1 28 40) = 0)).symm with b_1 | b_1
  · have hf := if_f b_1 hf
    exact j23   S  hf hk
  · have hf := if_t b_1 hf
    rcases (Decidable.em ((S.1 28 39) = 0)) with b_2 | b_2
    · have hf := if_t b_2 hf
      exact (rt_inv hf).2 ▸ hk
    · have hf := if_f b_2 hf
      rcases (Decidable.em ((S.1 28 38) = (-2000000001 : Int32))).symm with b_3 | b_3
      · have hf := if_f b_3 hf
        exact (rt_inv hf).2 ▸ hk
      · have hf := if_t b_3 hf
        exact j23   S  hf hk
def wr_X9_opens : Nat → Prop := fun c => c = 28 ∨ c = 44 ∨ c = 45 ∨ c = 46 ∨ c = 47
theorem fr_X9_opens (n : Nat) (S : St) (a1 : Int32) (r : Int32) (S2 : St) (hf : f_X9_opens n S a1 = some (r, S2)) : Keeps (wr_X9_opens) S S2 := by
  have hk : Keeps (wr_X9_opens) S S := Keeps.rf
  obtain ⟨S0, hS0⟩ : ∃ S0, S0 = S := ⟨S, rfl⟩
  have hk : Keeps (wr_X9_opens) S0 S := by rw [hS0]; exact hk
  suffices hh : Keeps (wr_X9_opens) S0 S2 by rw [hS0] at hh; exact hh
  have j100 : ∀ (S : St) (t1 : Int64), f_X9_opens_100 n S t1 = some (r, S2) → Keeps wr_X9_opens S0 S → Keeps wr_X9_opens S0 S2 := by
    intro S t1 hf hk
    unfold f_X9_opens_100 at hf
    obtain ⟨S_1, eS_1, hf⟩ := bd_inv hf
    have hk := hk.trans (kpL eS_1 (by unfold wr_X9_opens; omega))
    exact (rt_inv hf).2 ▸ hk
  have j78 : ∀ (S : St) (x1 : Int32) (t1 : Int32), f_X9_opens_78 n S x1 t1 = some (r, S2) → Keeps wr_X9_opens S0 S → Keeps wr_X9_opens S0 S2 := by
    intro S x1 t1 hf hk
    unfold f_X9_opens_78 at hf
    obtain ⟨g_3, hf⟩ := gd_inv hf
    obtain ⟨S_2, eS_2, hf⟩ := bd_inv hf
    have hk := hk.trans (kpI eS_2 (by unfold wr_X9_opens; omega))
    rcases (Decidable.em ((S_2.1 28 38) = (-2000000001 : Int32))) with b_4 | b_4
    · have hf := if_t b_4 hf
      exact j100   S_2 ((0 : Int64)) hf hk
    · have hf := if_f b_4 hf
      obtain ⟨r_5, S_6, hc_7, hf⟩ := bo_inv hf
      have hk := hk.trans ((fr_X9_soughtBy n _ _ _ _ hc_7).mono (fun _ h => False.elim h))
      exact j100   S_6 r_5 hf hk
  have j77 : ∀ (S : St) (x1 : Int32), f_X9_opens_77 n S x1 = some (r, S2) → Keeps wr_X9_opens S0 S → Keeps wr_X9_opens S0 S2 := by
    intro S x1 hf hk
    unfold f_X9_opens_77 at hf
    exact j78   S x1 ((0 : Int32)) hf hk
  have j31 : ∀ (S : St) (x1 : Int32), f_X9_opens_31 n S x1 = some (r, S2) → Keeps wr_X9_opens S0 S → Keeps wr_X9_opens S0 S2 := by
    intro S x1 hf hk
    unfold f_X9_opens_31 at hf
    obtain ⟨r_8, S_9, hc_10, hf⟩ := bo_inv hf
    have hk := hk.trans ((fr_X9_fill n _ _ _ _ hc_10).mono (by intro c h; unfold wr_X9_fill at h; unfold wr_X9_opens; omega))
    obtain ⟨r_11, S_12, hc_13, hf⟩ := bo_inv hf
    have hk := hk.trans ((fr_X9_findsSplit n _ _ _ _ hc_13).mono (by intro c h; unfold wr_X9_findsSplit at h; unfold wr_X9_opens; omega))
    rcases (Decidable.em (r_11 = 0)) with b_14 | b_14
    · have hf := if_t b_14 hf
      obtain ⟨S_15, eS_15, hf⟩ := bd_inv hf
      have hk := hk.trans (kpI eS_15 (by unfold wr_X9_opens; omega))
      rcases (Decidable.em ((S_15.1 28 38) = (-2000000001 : Int32))) with b_16 | b_16
      · have hf := if_t b_16 hf
        exact j77   S_15 x1 hf hk
      · have hf := if_f b_16 hf
        obtain ⟨r_17, S_18, hc_19, hf⟩ := bo_inv hf
        have hk := hk.trans ((fr_X9_soughtBy n _ _ _ _ hc_19).mono (fun _ h => False.elim h))
        rcases (Decidable.em ((lg_cmp r_17 (1152921504606846976 : Int64)) = 0)).symm with b_20 | b_20
        · have hf := if_f b_20 hf
          exact j77   S_18 x1 hf hk
        · have hf := if_t b_20 hf
          exact j78   S_18 x1 ((1 : Int32)) hf hk
    · have hf := if_f b_14 hf
      exact (rt_inv hf).2 ▸ hk
  unfold f_X9_opens at hf
  rcases (Decidable.em ((S.1 28 38) = (-2000000001 : Int32))) with b_21 | b_21
  · have hf := if_t b_21 hf
    exact j31   S a1 hf hk
  · have hf := if_f b_21 hf
    rcases (Decidable.em ((S.1 28 39) = 0)) with b_22 | b_22
    · have hf := if_t b_22 hf
      exact j31   S a1 hf hk
    · have hf := if_f b_22 hf
      obtain ⟨r_23, S_24, hc_25, hf⟩ := bo_inv hf
      have hk := hk.trans ((fr_X9_soughtBy n _ _ _ _ hc_25).mono (fun _ h => False.elim h))
      rcases (Decidable.em (0 < (lg_cmp r_23 (S_24.2 28 41)))) with b_26 | b_26
      · have hf := if_t b_26 hf
        exact j31   S_24 a1 hf hk
      · have hf := if_f b_26 hf
        exact (rt_inv hf).2 ▸ hk
def wr_X9_explore : Nat → Prop := fun c => c = 28 ∨ c = 43 ∨ c = 44 ∨ c = 45 ∨ c = 46 ∨ c = 47 ∨ c = 48
theorem fr_X9_explore (n : Nat) (S : St) (r : Unit) (S2 : St) (hf : f_X9_explore n S = some (r, S2)) : Keeps (wr_X9_explore) S S2 := by
  have hk : Keeps (wr_X9_explore) S S := Keeps.rf
  obtain ⟨S0, hS0⟩ : ∃ S0, S0 = S := ⟨S, rfl⟩
  have hk : Keeps (wr_X9_explore) S0 S := by rw [hS0]; exact hk
  suffices hh : Keeps (wr_X9_explore) S0 S2 by rw [hS0] at hh; exact hh
  have j107 : ∀ (k10 : St → Int32 → Option (Unit × St)) (hk10 : ∀ (S : St) (x1 : Int32), k10 S x1 = some (r, S2) → Keeps wr_X9_explore S0 S → Keeps wr_X9_explore S0 S2), ∀ (S : St) (x1 : Int32), f_X9_explore_107 n k10 S x1 = some (r, S2) → Keeps wr_X9_explore S0 S → Keeps wr_X9_explore S0 S2 := by
    intro k10 hk10 S x1 hf hk
    unfold f_X9_explore_107 at hf
    exact hk10 S x1 hf hk
  have j50 : ∀ (k10 : St → Int32 → Option (Unit × St)) (hk10 : ∀ (S : St) (x1 : Int32), k10 S x1 = some (r, S2) → Keeps wr_X9_explore S0 S → Keeps wr_X9_explore S0 S2), ∀ (S : St) (x1 : Int32) (t1 : Int32) (t2 : Int32), f_X9_explore_50 n k10 S x1 t1 t2 = some (r, S2) → Keeps wr_X9_explore S0 S → Keeps wr_X9_explore S0 S2 := by
    intro k10 hk10 S x1 t1 t2 hf hk
    unfold f_X9_explore_50 at hf
    obtain ⟨g_1, hf⟩ := gd_inv hf
    obtain ⟨S_2, eS_2, hf⟩ := bd_inv hf
    have hk := hk.trans (kpI eS_2 (by unfold wr_X9_explore; omega))
    exact hk10 S_2 x1 hf hk
  have b10 : ∀ (k10 : St → Int32 → Option (Unit × St)) (hk10 : ∀ (S : St) (x1 : Int32), k10 S x1 = some (r, S2) → Keeps wr_X9_explore S0 S → Keeps wr_X9_explore S0 S2), ∀ (S : St) (x1 : Int32), f_X9_explore_10 n k10 S x1 = some (r, S2) → Keeps wr_X9_explore S0 S → Keeps wr_X9_explore S0 S2 := by
    intro k10 hk10 S x1 hf hk
    unfold f_X9_explore_10 at hf
    rcases (Decidable.em (x1 < 0)) with b_3 | b_3
    · have hf := if_t b_3 hf
      exact (rt_inv hf).2 ▸ hk
    · have hf := if_f b_3 hf
      obtain ⟨r_4, S_5, hc_6, hf⟩ := bo_inv hf
      have hk := hk.trans ((fr_X9_isDone n _ _ _ hc_6).mono (fun _ h => False.elim h))
      rcases (Decidable.em (r_4 = 0)).symm with b_7 | b_7
      · have hf := if_f b_7 hf
        exact (rt_inv hf).2 ▸ hk
      · have hf := if_t b_7 hf
        obtain ⟨g_8, hf⟩ := gd_inv hf
        rcases (Decidable.em ((S_5.1 48 (x1).toNatClampNeg) = (-2000000001 : Int32))).symm with b_9 | b_9
        · have hf := if_f b_9 hf
          obtain ⟨g_10, hf⟩ := gd_inv hf
          rcases (Decidable.em ((S_5.1 48 (x1).toNatClampNeg) ≤ (4 : Int32))) with b_11 | b_11
          · have hf := if_t b_11 hf
            obtain ⟨g_12, hf⟩ := gd_inv hf
            obtain ⟨r_13, S_14, hc_15, hf⟩ := bo_inv hf
            have hk := hk.trans ((fr_X9_takesSide n _ _ _ _ _ hc_15).mono (by intro c h; unfold wr_X9_takesSide at h; unfold wr_X9_explore; omega))
            obtain ⟨x2_16, ex2_16, hf⟩ := bd_inv hf
            obtain ⟨g_17, hf⟩ := gd_inv hf
            obtain ⟨g_18, hf⟩ := gd_inv hf
            obtain ⟨S_19, eS_19, hf⟩ := bd_inv hf
            have hk := hk.trans (kpI eS_19 (by unfold wr_X9_explore; omega))
            rcases (Decidable.em (x2_16 = 0)) with b_20 | b_20
            · have hf := if_t b_20 hf
              exact j107  k10 hk10 S_19 x1 hf hk
            · have hf := if_f b_20 hf
              obtain ⟨x1_21, ex1_21, hf⟩ := bd_inv hf
              obtain ⟨g_22, hf⟩ := gd_inv hf
              obtain ⟨S_23, eS_23, hf⟩ := bd_inv hf
              have hk := hk.trans (kpI eS_23 (by unfold wr_X9_explore; omega))
              exact j107  k10 hk10 S_23 x1_21 hf hk
          · have hf := if_f b_11 hf
            obtain ⟨x1_24, ex1_24, hf⟩ := bd_inv hf
            exact hk10 S_5 x1_24 hf hk
        · have hf := if_t b_9 hf
          obtain ⟨r_25, S_26, hc_27, hf⟩ := bo_inv hf
          have hk := hk.trans ((fr_X9_opens n _ _ _ _ hc_27).mono (by intro c h; unfold wr_X9_opens at h; unfold wr_X9_explore; omega))
          rcases (Decidable.em (r_25 = 0)) with b_28 | b_28
          · have hf := if_t b_28 hf
            exact j50  k10 hk10 S_26 x1 x1 ((5 : Int32)) hf hk
          · have hf := if_f b_28 hf
            exact j50  k10 hk10 S_26 x1 x1 ((0 : Int32)) hf hk
  have j10 : ∀ (d : Nat), ∀ (S : St) (x1 : Int32), fixF (fun _ _ => none) (f_X9_explore_10 n) d S x1 = some (r, S2) → Keeps wr_X9_explore S0 S → Keeps wr_X9_explore S0 S2 := by
    intro   d
    induction d with
    | zero => intro S x1 hf hk; cases hf
    | succ d ih => exact b10   (fixF (fun _ _ => none) (f_X9_explore_10 n) d) ih
  unfold f_X9_explore at hf
  obtain ⟨x1_29, ex1_29, hf⟩ := bd_inv hf
  obtain ⟨g_30, hf⟩ := gd_inv hf
  obtain ⟨S_31, eS_31, hf⟩ := bd_inv hf
  have hk := hk.trans (kpI eS_31 (by unfold wr_X9_explore; omega))
  exact j10   n S_31 x1_29 hf hk
def wr_X9_seek : Nat → Prop := fun c => c = 28 ∨ c = 43 ∨ c = 44 ∨ c = 45 ∨ c = 46 ∨ c = 47 ∨ c = 48
theorem fr_X9_seek (n : Nat) (S : St) (a1 : Int32) (r : Unit) (S2 : St) (hf : f_X9_seek n S a1 = some (r, S2)) : Keeps (wr_X9_seek) S S2 := by
  have hk : Keeps (wr_X9_seek) S S := Keeps.rf
  unfold f_X9_seek at hf
  obtain ⟨S_1, eS_1, hf⟩ := bd_inv hf
  have hk := hk.trans (kpI eS_1 (by unfold wr_X9_seek; omega))
  obtain ⟨S_2, eS_2, hf⟩ := bd_inv hf
  have hk := hk.trans (kpI eS_2 (by unfold wr_X9_seek; omega))
  obtain ⟨S_3, eS_3, hf⟩ := bd_inv hf
  have hk := hk.trans (kpI eS_3 (by unfold wr_X9_seek; omega))
  obtain ⟨S_4, eS_4, hf⟩ := bd_inv hf
  have hk := hk.trans (kpL eS_4 (by unfold wr_X9_seek; omega))
  obtain ⟨r_5, S_6, hc_7, hf⟩ := bo_inv hf
  have hk := hk.trans ((fr_X9_layFirst n _ _ _ hc_7).mono (by intro c h; unfold wr_X9_layFirst at h; unfold wr_X9_seek; omega))
  rcases (Decidable.em (r_5 = 0)) with b_8 | b_8
  · have hf := if_t b_8 hf
    exact (rt_inv hf).2 ▸ hk
  · have hf := if_f b_8 hf
    obtain ⟨r_9, S_10, hc_11, hf⟩ := bo_inv hf
    have hk := hk.trans ((fr_X9_explore n _ _ _ hc_11).mono (by intro c h; unfold wr_X9_explore at h; unfold wr_X9_seek; omega))
    exact (rt_inv hf).2 ▸ hk
def wr_X9_asksPlain : Nat → Prop := fun c => c = 28
theorem fr_X9_asksPlain (n : Nat) (S : St) (r : Unit) (S2 : St) (hf : f_X9_asksPlain n S = some (r, S2)) : Keeps (wr_X9_asksPlain) S S2 := by
  have hk : Keeps (wr_X9_asksPlain) S S := Keeps.rf
  unfold f_X9_asksPlain at hf
  obtain ⟨S_1, eS_1, hf⟩ := bd_inv hf
  have hk := hk.trans (kpI eS_1 (by unfold wr_X9_asksPlain; omega))
  obtain ⟨S_2, eS_2, hf⟩ := bd_inv hf
  have hk := hk.trans (kpI eS_2 (by unfold wr_X9_asksPlain; omega))
  obtain ⟨S_3, eS_3, hf⟩ := bd_inv hf
  have hk := hk.trans (kpI eS_3 (by unfold wr_X9_asksPlain; omega))
  obtain ⟨S_4, eS_4, hf⟩ := bd_inv hf
  have hk := hk.trans (kpI eS_4 (by unfold wr_X9_asksPlain; omega))
  exact (rt_inv hf).2 ▸ hk
def wr_X9_all : Nat → Prop := fun c => False
theorem fr_X9_all (n : Nat) (S : St) (r : Int32) (S2 : St) (hf : f_X9_all n S = some (r, S2)) : Keeps (wr_X9_all) S S2 := by
  have hk : Keeps (wr_X9_all) S S := Keeps.rf
  unfold f_X9_all at hf
  exact (rt_inv hf).2 ▸ hk
def wr_X9_holdsWith : Nat → Prop := fun c => c = 28 ∨ c = 43 ∨ c = 44 ∨ c = 45 ∨ c = 46 ∨ c = 47 ∨ c = 48
theorem fr_X9_holdsWith (n : Nat) (S : St) (a1 : Int32) (r : Int32) (S2 : St) (hf : f_X9_holdsWith n S a1 = some (r, S2)) : Keeps (wr_X9_holdsWith) S S2 := by
  have hk : Keeps (wr_X9_holdsWith) S S := Keeps.rf
  unfold f_X9_holdsWith at hf
  obtain ⟨r_1, S_2, hc_3, hf⟩ := bo_inv hf
  have hk := hk.trans ((fr_X9_asksPlain n _ _ _ hc_3).mono (by intro c h; unfold wr_X9_asksPlain at h; unfold wr_X9_holdsWith; omega))
  obtain ⟨r_4, S_5, hc_6, hf⟩ := bo_inv hf
  have hk := hk.trans ((fr_X9_seek n _ _ _ _ hc_6).mono (by intro c h; unfold wr_X9_seek at h; unfold wr_X9_holdsWith; omega))
  obtain ⟨g_7, hf⟩ := gd_inv hf
  exact (rt_inv hf).2 ▸ hk
def wr_X9_holdsMore : Nat → Prop := fun c => c = 28 ∨ c = 43 ∨ c = 44 ∨ c = 45 ∨ c = 46 ∨ c = 47 ∨ c = 48
theorem fr_X9_holdsMore (n : Nat) (S : St) (a1 : Int32) (a2 : Int32) (a3 : Int32) (r : Int32) (S2 : St) (hf : f_X9_holdsMore n S a1 a2 a3 = some (r, S2)) : Keeps (wr_X9_holdsMore) S S2 := by
  have hk : Keeps (wr_X9_holdsMore) S S := Keeps.rf
  unfold f_X9_holdsMore at hf
  obtain ⟨r_1, S_2, hc_3, hf⟩ := bo_inv hf
  have hk := hk.trans ((fr_X9_asksPlain n _ _ _ hc_3).mono (by intro c h; unfold wr_X9_asksPlain at h; unfold wr_X9_holdsMore; omega))
  obtain ⟨S_4, eS_4, hf⟩ := bd_inv hf
  have hk := hk.trans (kpI eS_4 (by unfold wr_X9_holdsMore; omega))
  obtain ⟨S_5, eS_5, hf⟩ := bd_inv hf
  have hk := hk.trans (kpI eS_5 (by unfold wr_X9_holdsMore; omega))
  obtain ⟨S_6, eS_6, hf⟩ := bd_inv hf
  have hk := hk.trans (kpI eS_6 (by unfold wr_X9_holdsMore; omega))
  obtain ⟨r_7, S_8, hc_9, hf⟩ := bo_inv hf
  have hk := hk.trans ((fr_X9_all n _ _ _ hc_9).mono (fun _ h => False.elim h))
  obtain ⟨r_10, S_11, hc_12, hf⟩ := bo_inv hf
  have hk := hk.trans ((fr_X9_seek n _ _ _ _ hc_12).mono (by intro c h; unfold wr_X9_seek at h; unfold wr_X9_holdsMore; omega))
  obtain ⟨g_13, hf⟩ := gd_inv hf
  exact (rt_inv hf).2 ▸ hk
def wr_X9_holds : Nat → Prop := fun c => c = 28 ∨ c = 43 ∨ c = 44 ∨ c = 45 ∨ c = 46 ∨ c = 47 ∨ c = 48
theorem fr_X9_holds (n : Nat) (S : St) (r : Int32) (S2 : St) (hf : f_X9_holds n S = some (r, S2)) : Keeps (wr_X9_holds) S S2 := by
  have hk : Keeps (wr_X9_holds) S S := Keeps.rf
  unfold f_X9_holds at hf
  obtain ⟨r_1, S_2, hc_3, hf⟩ := bo_inv hf
  have hk := hk.trans ((fr_X9_all n _ _ _ hc_3).mono (fun _ h => False.elim h))
  obtain ⟨r_4, S_5, hc_6, hf⟩ := bo_inv hf
  have hk := hk.trans ((fr_X9_holdsWith n _ _ _ _ hc_6).mono (by intro c h; unfold wr_X9_holdsWith at h; unfold wr_X9_holds; omega))
  rcases (Decidable.em (r_4 = 0)) with b_7 | b_7
  · have hf := if_t b_7 hf
    exact (rt_inv hf).2 ▸ hk
  · have hf := if_f b_7 hf
    exact (rt_inv hf).2 ▸ hk
def wr_X9_apartNow : Nat → Prop := fun c => c = 28 ∨ c = 43 ∨ c = 44 ∨ c = 45 ∨ c = 46 ∨ c = 47 ∨ c = 48
theorem fr_X9_apartNow (n : Nat) (S : St) (a1 : Int32) (a2 : Int32) (r : Int32) (S2 : St) (hf : f_X9_apartNow n S a1 a2 = some (r, S2)) : Keeps (wr_X9_apartNow) S S2 := by
  have hk : Keeps (wr_X9_apartNow) S S := Keeps.rf
  unfold f_X9_apartNow at hf
  obtain ⟨r_1, S_2, hc_3, hf⟩ := bo_inv hf
  have hk := hk.trans ((fr_X9_asksPlain n _ _ _ hc_3).mono (by intro c h; unfold wr_X9_asksPlain at h; unfold wr_X9_apartNow; omega))
  obtain ⟨S_4, eS_4, hf⟩ := bd_inv hf
  have hk := hk.trans (kpI eS_4 (by unfold wr_X9_apartNow; omega))
  obtain ⟨S_5, eS_5, hf⟩ := bd_inv hf
  have hk := hk.trans (kpI eS_5 (by unfold wr_X9_apartNow; omega))
  obtain ⟨r_6, S_7, hc_8, hf⟩ := bo_inv hf
  have hk := hk.trans ((fr_X9_all n _ _ _ hc_8).mono (fun _ h => False.elim h))
  obtain ⟨r_9, S_10, hc_11, hf⟩ := bo_inv hf
  have hk := hk.trans ((fr_X9_seek n _ _ _ _ hc_11).mono (by intro c h; unfold wr_X9_seek at h; unfold wr_X9_apartNow; omega))
  rcases (Decidable.em ((S_10.1 28 39) = 0)).symm with b_12 | b_12
  · have hf := if_f b_12 hf
    rcases (Decidable.em ((S_10.1 28 40) = 0)) with b_13 | b_13
    · have hf := if_t b_13 hf
      obtain ⟨r_14, S_15, hc_16, hf⟩ := bo_inv hf
      have hk := hk.trans ((fr_X9_told n _ _ _ _ hc_16).mono (fun _ h => False.elim h))
      exact (rt_inv hf).2 ▸ hk
    · have hf := if_f b_13 hf
      exact (rt_inv hf).2 ▸ hk
  · have hf := if_t b_12 hf
    exact (rt_inv hf).2 ▸ hk
def wr_X9_apart : Nat → Prop := fun c => c = 28 ∨ c = 43 ∨ c = 44 ∨ c = 45 ∨ c = 46 ∨ c = 47 ∨ c = 48
theorem fr_X9_apart (n : Nat) (S : St) (a1 : Int32) (a2 : Int32) (r : Int32) (S2 : St) (hf : f_X9_apart n S a1 a2 = some (r, S2)) : Keeps (wr_X9_apart) S S2 := by
  have hk : Keeps (wr_X9_apart) S S := Keeps.rf
  unfold f_X9_apart at hf
  obtain ⟨r_1, S_2, hc_3, hf⟩ := bo_inv hf
  have hk := hk.trans ((fr_X9_areTerms n _ _ _ _ _ hc_3).mono (fun _ h => False.elim h))
  rcases (Decidable.em (r_1 = 0)) with b_4 | b_4
  · have hf := if_t b_4 hf
    exact (rt_inv hf).2 ▸ hk
  · have hf := if_f b_4 hf
    obtain ⟨r_5, S_6, hc_7, hf⟩ := bo_inv hf
    have hk := hk.trans ((fr_X9_apartNow n _ _ _ _ _ hc_7).mono (by intro c h; unfold wr_X9_apartNow at h; unfold wr_X9_apart; omega))
    exact (rt_inv hf).2 ▸ hk
def wr_X9_impliedNow : Nat → Prop := fun c => c = 28 ∨ c = 43 ∨ c = 44 ∨ c = 45 ∨ c = 46 ∨ c = 47 ∨ c = 48
theorem fr_X9_impliedNow (n : Nat) (S : St) (a1 : Int32) (a2 : Int32) (a3 : Int32) (r : Int32) (S2 : St) (hf : f_X9_impliedNow n S a1 a2 a3 = some (r, S2)) : Keeps (wr_X9_impliedNow) S S2 := by
  have hk : Keeps (wr_X9_impliedNow) S S := Keeps.rf
  obtain ⟨S0, hS0⟩ : ∃ S0, S0 = S := ⟨S, rfl⟩
  have hk : Keeps (wr_X9_impliedNow) S0 S := by rw [hS0]; exact hk
  suffices hh : Keeps (wr_X9_impliedNow) S0 S2 by rw [hS0] at hh; exact hh
  have j50 : ∀ (S : St) (t0 : Int32), f_X9_impliedNow_50 n S t0 = some (r, S2) → Keeps wr_X9_impliedNow S0 S → Keeps wr_X9_impliedNow S0 S2 := by
    intro S t0 hf hk
    unfold f_X9_impliedNow_50 at hf
    obtain ⟨x4_1, ex4_1, hf⟩ := bd_inv hf
    rcases (Decidable.em (x4_1 = 0)) with b_2 | b_2
    · have hf := if_t b_2 hf
      exact (rt_inv hf).2 ▸ hk
    · have hf := if_f b_2 hf
      exact (rt_inv hf).2 ▸ hk
  unfold f_X9_impliedNow at hf
  obtain ⟨r_3, S_4, hc_5, hf⟩ := bo_inv hf
  have hk := hk.trans ((fr_X9_all n _ _ _ hc_5).mono (fun _ h => False.elim h))
  obtain ⟨r_6, S_7, hc_8, hf⟩ := bo_inv hf
  have hk := hk.trans ((fr_X9_holdsWith n _ _ _ _ hc_8).mono (by intro c h; unfold wr_X9_holdsWith at h; unfold wr_X9_impliedNow; omega))
  rcases (Decidable.em (r_6 = 0)).symm with b_9 | b_9
  · have hf := if_f b_9 hf
    rcases (Decidable.em (a3 = 0)).symm with b_10 | b_10
    · have hf := if_f b_10 hf
      rcases (Decidable.em (a3 = (1 : Int32))).symm with b_11 | b_11
      · have hf := if_f b_11 hf
        obtain ⟨r_12, S_13, hc_14, hf⟩ := bo_inv hf
        have hk := hk.trans ((fr_X9_holdsMore n _ _ _ _ _ _ hc_14).mono (by intro c h; unfold wr_X9_holdsMore at h; unfold wr_X9_impliedNow; omega))
        exact j50   S_13 r_12 hf hk
      · have hf := if_t b_11 hf
        obtain ⟨r_15, S_16, hc_17, hf⟩ := bo_inv hf
        have hk := hk.trans ((fr_X9_holdsMore n _ _ _ _ _ _ hc_17).mono (by intro c h; unfold wr_X9_holdsMore at h; unfold wr_X9_impliedNow; omega))
        exact j50   S_16 r_15 hf hk
    · have hf := if_t b_10 hf
      obtain ⟨r_18, S_19, hc_20, hf⟩ := bo_inv hf
      have hk := hk.trans ((fr_X9_holdsMore n _ _ _ _ _ _ hc_20).mono (by intro c h; unfold wr_X9_holdsMore at h; unfold wr_X9_impliedNow; omega))
      exact j50   S_19 r_18 hf hk
  · have hf := if_t b_9 hf
    exact (rt_inv hf).2 ▸ hk
def wr_X9_implied : Nat → Prop := fun c => c = 28 ∨ c = 43 ∨ c = 44 ∨ c = 45 ∨ c = 46 ∨ c = 47 ∨ c = 48
theorem fr_X9_implied (n : Nat) (S : St) (a1 : Int32) (a2 : Int32) (a3 : Int32) (r : Int32) (S2 : St) (hf : f_X9_implied n S a1 a2 a3 = some (r, S2)) : Keeps (wr_X9_implied) S S2 := by
  have hk : Keeps (wr_X9_implied) S S := Keeps.rf
  unfold f_X9_implied at hf
  obtain ⟨r_1, S_2, hc_3, hf⟩ := bo_inv hf
  have hk := hk.trans ((fr_X9_areTerms n _ _ _ _ _ hc_3).mono (fun _ h => False.elim h))
  rcases (Decidable.em (r_1 = 0)).symm with b_4 | b_4
  · have hf := if_f b_4 hf
    obtain ⟨r_5, S_6, hc_7, hf⟩ := bo_inv hf
    have hk := hk.trans ((fr_X9_within n _ _ _ _ _ _ hc_7).mono (fun _ h => False.elim h))
    rcases (Decidable.em (r_5 = 0)) with b_8 | b_8
    · have hf := if_t b_8 hf
      exact (rt_inv hf).2 ▸ hk
    · have hf := if_f b_8 hf
      obtain ⟨r_9, S_10, hc_11, hf⟩ := bo_inv hf
      have hk := hk.trans ((fr_X9_impliedNow n _ _ _ _ _ _ hc_11).mono (by intro c h; unfold wr_X9_impliedNow at h; unfold wr_X9_implied; omega))
      exact (rt_inv hf).2 ▸ hk
  · have hf := if_t b_4 hf
    exact (rt_inv hf).2 ▸ hk
def wr_X9_whyNow : Nat → Prop := fun c => c = 28 ∨ c = 43 ∨ c = 44 ∨ c = 45 ∨ c = 46 ∨ c = 47 ∨ c = 48
theorem fr_X9_whyNow (n : Nat) (S : St) (r : Int32) (S2 : St) (hf : f_X9_whyNow n S = some (r, S2)) : Keeps (wr_X9_whyNow) S S2 := by
  have hk : Keeps (wr_X9_whyNow) S S := Keeps.rf
  obtain ⟨S0, hS0⟩ : ∃ S0, S0 = S := ⟨S, rfl⟩
  have hk : Keeps (wr_X9_whyNow) S0 S := by rw [hS0]; exact hk
  suffices hh : Keeps (wr_X9_whyNow) S0 S2 by rw [hS0] at hh; exact hh
  have j41 : ∀ (k12 : St → Int32 → Int32 → Option (Int32 × St)) (hk12 : ∀ (S : St) (x1 : Int32) (x2 : Int32), k12 S x1 x2 = some (r, S2) → Keeps wr_X9_whyNow S0 S → Keeps wr_X9_whyNow S0 S2), ∀ (S : St) (x2 : Int32) (t0 : Int32), f_X9_whyNow_41 n k12 S x2 t0 = some (r, S2) → Keeps wr_X9_whyNow S0 S → Keeps wr_X9_whyNow S0 S2 := by
    intro k12 hk12 S x2 t0 hf hk
    unfold f_X9_whyNow_41 at hf
    obtain ⟨x1_1, ex1_1, hf⟩ := bd_inv hf
    obtain ⟨x2_2, ex2_2, hf⟩ := bd_inv hf
    exact hk12 S x1_1 x2_2 hf hk
  have b12 : ∀ (k12 : St → Int32 → Int32 → Option (Int32 × St)) (hk12 : ∀ (S : St) (x1 : Int32) (x2 : Int32), k12 S x1 x2 = some (r, S2) → Keeps wr_X9_whyNow S0 S → Keeps wr_X9_whyNow S0 S2), ∀ (S : St) (x1 : Int32) (x2 : Int32), f_X9_whyNow_12 n k12 S x1 x2 = some (r, S2) → Keeps wr_X9_whyNow S0 S → Keeps wr_X9_whyNow S0 S2 := by
    intro k12 hk12 S x1 x2 hf hk
    unfold f_X9_whyNow_12 at hf
    rcases (Decidable.em (x2 < 0)) with b_3 | b_3
    · have hf := if_t b_3 hf
      exact (rt_inv hf).2 ▸ hk
    · have hf := if_f b_3 hf
      obtain ⟨r_4, S_5, hc_6, hf⟩ := bo_inv hf
      have hk := hk.trans ((fr_X9_holdsWith n _ _ _ _ hc_6).mono (by intro c h; unfold wr_X9_holdsWith at h; unfold wr_X9_whyNow; omega))
      rcases (Decidable.em (r_4 = 0)) with b_7 | b_7
      · have hf := if_t b_7 hf
        exact j41  k12 hk12 S_5 x2 ((x1 &&& (((1 : Int32) <<< (x2 &&& 31)) ^^^ (-1 : Int32)))) hf hk
      · have hf := if_f b_7 hf
        exact j41  k12 hk12 S_5 x2 x1 hf hk
  have j12 : ∀ (d : Nat), ∀ (S : St) (x1 : Int32) (x2 : Int32), fixF (fun _ _ _ => none) (f_X9_whyNow_12 n) d S x1 x2 = some (r, S2) → Keeps wr_X9_whyNow S0 S → Keeps wr_X9_whyNow S0 S2 := by
    intro   d
    induction d with
    | zero => intro S x1 x2 hf hk; cases hf
    | succ d ih => exact b12   (fixF (fun _ _ _ => none) (f_X9_whyNow_12 n) d) ih
  unfold f_X9_whyNow at hf
  obtain ⟨r_8, S_9, hc_10, hf⟩ := bo_inv hf
  have hk := hk.trans ((fr_X9_all n _ _ _ hc_10).mono (fun _ h => False.elim h))
  obtain ⟨x1_11, ex1_11, hf⟩ := bd_inv hf
  obtain ⟨x2_12, ex2_12, hf⟩ := bd_inv hf
  exact j12   n S_9 x1_11 x2_12 hf hk
def wr_X9_why : Nat → Prop := fun c => c = 28 ∨ c = 43 ∨ c = 44 ∨ c = 45 ∨ c = 46 ∨ c = 47 ∨ c = 48
theorem fr_X9_why (n : Nat) (S : St) (r : Int32) (S2 : St) (hf : f_X9_why n S = some (r, S2)) : Keeps (wr_X9_why) S S2 := by
  have hk : Keeps (wr_X9_why) S S := Keeps.rf
  unfold f_X9_why at hf
  obtain ⟨r_1, S_2, hc_3, hf⟩ := bo_inv hf
  have hk := hk.trans ((fr_X9_all n _ _ _ hc_3).mono (fun _ h => False.elim h))
  obtain ⟨r_4, S_5, hc_6, hf⟩ := bo_inv hf
  have hk := hk.trans ((fr_X9_holdsWith n _ _ _ _ hc_6).mono (by intro c h; unfold wr_X9_holdsWith at h; unfold wr_X9_why; omega))
  rcases (Decidable.em (r_4 = 0)) with b_7 | b_7
  · have hf := if_t b_7 hf
    obtain ⟨r_8, S_9, hc_10, hf⟩ := bo_inv hf
    have hk := hk.trans ((fr_X9_whyNow n _ _ _ hc_10).mono (by intro c h; unfold wr_X9_whyNow at h; unfold wr_X9_why; omega))
    exact (rt_inv hf).2 ▸ hk
  · have hf := if_f b_7 hf
    exact (rt_inv hf).2 ▸ hk
def wr_X9_canBothBeUnlike : Nat → Prop := fun c => c = 28 ∨ c = 43 ∨ c = 44 ∨ c = 45 ∨ c = 46 ∨ c = 47 ∨ c = 48
theorem fr_X9_canBothBeUnlike (n : Nat) (S : St) (a1 : Int32) (a2 : Int32) (r : Int32) (S2 : St) (hf : f_X9_canBothBeUnlike n S a1 a2 = some (r, S2)) : Keeps (wr_X9_canBothBeUnlike) S S2 := by
  have hk : Keeps (wr_X9_canBothBeUnlike) S S := Keeps.rf
  unfold f_X9_canBothBeUnlike at hf
  obtain ⟨r_1, S_2, hc_3, hf⟩ := bo_inv hf
  have hk := hk.trans ((fr_X9_asksPlain n _ _ _ hc_3).mono (by intro c h; unfold wr_X9_asksPlain at h; unfold wr_X9_canBothBeUnlike; omega))
  obtain ⟨S_4, eS_4, hf⟩ := bd_inv hf
  have hk := hk.trans (kpI eS_4 (by unfold wr_X9_canBothBeUnlike; omega))
  obtain ⟨S_5, eS_5, hf⟩ := bd_inv hf
  have hk := hk.trans (kpI eS_5 (by unfold wr_X9_canBothBeUnlike; omega))
  obtain ⟨S_6, eS_6, hf⟩ := bd_inv hf
  have hk := hk.trans (kpI eS_6 (by unfold wr_X9_canBothBeUnlike; omega))
  obtain ⟨S_7, eS_7, hf⟩ := bd_inv hf
  have hk := hk.trans (kpI eS_7 (by unfold wr_X9_canBothBeUnlike; omega))
  obtain ⟨S_8, eS_8, hf⟩ := bd_inv hf
  have hk := hk.trans (kpI eS_8 (by unfold wr_X9_canBothBeUnlike; omega))
  obtain ⟨r_9, S_10, hc_11, hf⟩ := bo_inv hf
  have hk := hk.trans ((fr_X9_all n _ _ _ hc_11).mono (fun _ h => False.elim h))
  obtain ⟨r_12, S_13, hc_14, hf⟩ := bo_inv hf
  have hk := hk.trans ((fr_X9_seek n _ _ _ _ hc_14).mono (by intro c h; unfold wr_X9_seek at h; unfold wr_X9_canBothBeUnlike; omega))
  obtain ⟨g_15, hf⟩ := gd_inv hf
  exact (rt_inv hf).2 ▸ hk
def wr_X9_eitherNow : Nat → Prop := fun c => c = 28 ∨ c = 43 ∨ c = 44 ∨ c = 45 ∨ c = 46 ∨ c = 47 ∨ c = 48
theorem fr_X9_eitherNow (n : Nat) (S : St) (a1 : Int32) (r : Int32) (S2 : St) (hf : f_X9_eitherNow n S a1 = some (r, S2)) : Keeps (wr_X9_eitherNow) S S2 := by
  have hk : Keeps (wr_X9_eitherNow) S S := Keeps.rf
  obtain ⟨S0, hS0⟩ : ∃ S0, S0 = S := ⟨S, rfl⟩
  have hk : Keeps (wr_X9_eitherNow) S0 S := by rw [hS0]; exact hk
  suffices hh : Keeps (wr_X9_eitherNow) S0 S2 by rw [hS0] at hh; exact hh
  have j105 : ∀ (x1 : Int32) (x2 : Int32) (k2 : St → Int32 → Option (Int32 × St)) (hk2 : ∀ (S : St) (x2 : Int32), k2 S x2 = some (r, S2) → Keeps wr_X9_eitherNow S0 S → Keeps wr_X9_eitherNow S0 S2) (k12 : St → Int32 → Option (Int32 × St)) (hk12 : ∀ (S : St) (x3 : Int32), k12 S x3 = some (r, S2) → Keeps wr_X9_eitherNow S0 S → Keeps wr_X9_eitherNow S0 S2), ∀ (S : St) (x3 : Int32), f_X9_eitherNow_105 n x1 x2 k2 k12 S x3 = some (r, S2) → Keeps wr_X9_eitherNow S0 S → Keeps wr_X9_eitherNow S0 S2 := by
    intro x1 x2 k2 hk2 k12 hk12 S x3 hf hk
    unfold f_X9_eitherNow_105 at hf
    obtain ⟨x3_1, ex3_1, hf⟩ := bd_inv hf
    exact hk12 S x3_1 hf hk
  have j61 : ∀ (x1 : Int32) (x2 : Int32) (k2 : St → Int32 → Option (Int32 × St)) (hk2 : ∀ (S : St) (x2 : Int32), k2 S x2 = some (r, S2) → Keeps wr_X9_eitherNow S0 S → Keeps wr_X9_eitherNow S0 S2) (k12 : St → Int32 → Option (Int32 × St)) (hk12 : ∀ (S : St) (x3 : Int32), k12 S x3 = some (r, S2) → Keeps wr_X9_eitherNow S0 S → Keeps wr_X9_eitherNow S0 S2), ∀ (S : St) (x3 : Int32) (t0 : Int32), f_X9_eitherNow_61 n x1 x2 k2 k12 S x3 t0 = some (r, S2) → Keeps wr_X9_eitherNow S0 S → Keeps wr_X9_eitherNow S0 S2 := by
    intro x1 x2 k2 hk2 k12 hk12 S x3 t0 hf hk
    unfold f_X9_eitherNow_61 at hf
    obtain ⟨x4_2, ex4_2, hf⟩ := bd_inv hf
    rcases (Decidable.em (x4_2 = 0)) with b_3 | b_3
    · have hf := if_t b_3 hf
      exact j105 x1 x2 k2 hk2 k12 hk12 S x3 hf hk
    · have hf := if_f b_3 hf
      obtain ⟨r_4, S_5, hc_6, hf⟩ := bo_inv hf
      have hk := hk.trans ((fr_X9_canBothBeUnlike n _ _ _ _ _ hc_6).mono (by intro c h; unfold wr_X9_canBothBeUnlike at h; unfold wr_X9_eitherNow; omega))
      rcases (Decidable.em (r_4 = 0)).symm with b_7 | b_7
      · have hf := if_f b_7 hf
        exact j105 x1 x2 k2 hk2 k12 hk12 S_5 x3 hf hk
      · have hf := if_t b_7 hf
        obtain ⟨r_8, S_9, hc_10, hf⟩ := bo_inv hf
        have hk := hk.trans ((fr_X9_canBothBeUnlike n _ _ _ _ _ hc_10).mono (by intro c h; unfold wr_X9_canBothBeUnlike at h; unfold wr_X9_eitherNow; omega))
        rcases (Decidable.em (r_8 = 0)) with b_11 | b_11
        · have hf := if_t b_11 hf
          exact j105 x1 x2 k2 hk2 k12 hk12 S_9 x3 hf hk
        · have hf := if_f b_11 hf
          obtain ⟨r_12, S_13, hc_14, hf⟩ := bo_inv hf
          have hk := hk.trans ((fr_X9_canBothBeUnlike n _ _ _ _ _ hc_14).mono (by intro c h; unfold wr_X9_canBothBeUnlike at h; unfold wr_X9_eitherNow; omega))
          rcases (Decidable.em (r_12 = 0)) with b_15 | b_15
          · have hf := if_t b_15 hf
            exact j105 x1 x2 k2 hk2 k12 hk12 S_13 x3 hf hk
          · have hf := if_f b_15 hf
            rcases (Decidable.em (x1 = 0)).symm with b_16 | b_16
            · have hf := if_f b_16 hf
              exact (rt_inv hf).2 ▸ hk
            · have hf := if_t b_16 hf
              exact (rt_inv hf).2 ▸ hk
  have j60 : ∀ (x1 : Int32) (x2 : Int32) (k2 : St → Int32 → Option (Int32 × St)) (hk2 : ∀ (S : St) (x2 : Int32), k2 S x2 = some (r, S2) → Keeps wr_X9_eitherNow S0 S → Keeps wr_X9_eitherNow S0 S2) (k12 : St → Int32 → Option (Int32 × St)) (hk12 : ∀ (S : St) (x3 : Int32), k12 S x3 = some (r, S2) → Keeps wr_X9_eitherNow S0 S → Keeps wr_X9_eitherNow S0 S2), ∀ (S : St) (x3 : Int32), f_X9_eitherNow_60 n x1 x2 k2 k12 S x3 = some (r, S2) → Keeps wr_X9_eitherNow S0 S → Keeps wr_X9_eitherNow S0 S2 := by
    intro x1 x2 k2 hk2 k12 hk12 S x3 hf hk
    unfold f_X9_eitherNow_60 at hf
    exact j61 x1 x2 k2 hk2 k12 hk12 S x3 ((0 : Int32)) hf hk
  have b12 : ∀ (x1 : Int32) (x2 : Int32) (k2 : St → Int32 → Option (Int32 × St)) (hk2 : ∀ (S : St) (x2 : Int32), k2 S x2 = some (r, S2) → Keeps wr_X9_eitherNow S0 S → Keeps wr_X9_eitherNow S0 S2) (k12 : St → Int32 → Option (Int32 × St)) (hk12 : ∀ (S : St) (x3 : Int32), k12 S x3 = some (r, S2) → Keeps wr_X9_eitherNow S0 S → Keeps wr_X9_eitherNow S0 S2), ∀ (S : St) (x3 : Int32), f_X9_eitherNow_12 n x1 x2 k2 k12 S x3 = some (r, S2) → Keeps wr_X9_eitherNow S0 S → Keeps wr_X9_eitherNow S0 S2 := by
    intro x1 x2 k2 hk2 k12 hk12 S x3 hf hk
    unfold f_X9_eitherNow_12 at hf
    rcases (Decidable.em ((50 : Int32) ≤ x3)) with b_17 | b_17
    · have hf := if_t b_17 hf
      obtain ⟨x2_18, ex2_18, hf⟩ := bd_inv hf
      exact hk2 S x2_18 hf hk
    · have hf := if_f b_17 hf
      rcases (Decidable.em ((x2 - x2 / (10 : Int32) * (10 : Int32)) ≤ (x2 / (10 : Int32)))) with b_19 | b_19
      · have hf := if_t b_19 hf
        exact j60 x1 x2 k2 hk2 k12 hk12 S x3 hf hk
      · have hf := if_f b_19 hf
        rcases (Decidable.em ((5 : Int32) ≤ (x2 - x2 / (10 : Int32) * (10 : Int32)))) with b_20 | b_20
        · have hf := if_t b_20 hf
          exact j60 x1 x2 k2 hk2 k12 hk12 S x3 hf hk
        · have hf := if_f b_20 hf
          rcases (Decidable.em ((x3 - x3 / (10 : Int32) * (10 : Int32)) ≤ (x3 / (10 : Int32)))) with b_21 | b_21
          · have hf := if_t b_21 hf
            exact j60 x1 x2 k2 hk2 k12 hk12 S x3 hf hk
          · have hf := if_f b_21 hf
            rcases (Decidable.em ((5 : Int32) ≤ (x3 - x3 / (10 : Int32) * (10 : Int32)))) with b_22 | b_22
            · have hf := if_t b_22 hf
              exact j60 x1 x2 k2 hk2 k12 hk12 S x3 hf hk
            · have hf := if_f b_22 hf
              exact j61 x1 x2 k2 hk2 k12 hk12 S x3 ((1 : Int32)) hf hk
  have j12 : ∀ (x1 : Int32) (x2 : Int32) (k2 : St → Int32 → Option (Int32 × St)) (hk2 : ∀ (S : St) (x2 : Int32), k2 S x2 = some (r, S2) → Keeps wr_X9_eitherNow S0 S → Keeps wr_X9_eitherNow S0 S2) (d : Nat), ∀ (S : St) (x3 : Int32), fixF (fun _ _ => none) (f_X9_eitherNow_12 n x1 x2 k2) d S x3 = some (r, S2) → Keeps wr_X9_eitherNow S0 S → Keeps wr_X9_eitherNow S0 S2 := by
    intro x1 x2 k2 hk2 d
    induction d with
    | zero => intro S x3 hf hk; cases hf
    | succ d ih => exact b12 x1 x2 k2 hk2 (fixF (fun _ _ => none) (f_X9_eitherNow_12 n x1 x2 k2) d) ih
  have b2 : ∀ (x1 : Int32) (k2 : St → Int32 → Option (Int32 × St)) (hk2 : ∀ (S : St) (x2 : Int32), k2 S x2 = some (r, S2) → Keeps wr_X9_eitherNow S0 S → Keeps wr_X9_eitherNow S0 S2), ∀ (S : St) (x2 : Int32), f_X9_eitherNow_2 n x1 k2 S x2 = some (r, S2) → Keeps wr_X9_eitherNow S0 S → Keeps wr_X9_eitherNow S0 S2 := by
    intro x1 k2 hk2 S x2 hf hk
    unfold f_X9_eitherNow_2 at hf
    rcases (Decidable.em ((50 : Int32) ≤ x2)) with b_23 | b_23
    · have hf := if_t b_23 hf
      exact (rt_inv hf).2 ▸ hk
    · have hf := if_f b_23 hf
      obtain ⟨x3_24, ex3_24, hf⟩ := bd_inv hf
      exact j12 x1 x2 k2 hk2 n S x3_24 hf hk
  have j2 : ∀ (x1 : Int32) (d : Nat), ∀ (S : St) (x2 : Int32), fixF (fun _ _ => none) (f_X9_eitherNow_2 n x1) d S x2 = some (r, S2) → Keeps wr_X9_eitherNow S0 S → Keeps wr_X9_eitherNow S0 S2 := by
    intro x1  d
    induction d with
    | zero => intro S x2 hf hk; cases hf
    | succ d ih => exact b2 x1  (fixF (fun _ _ => none) (f_X9_eitherNow_2 n x1) d) ih
  unfold f_X9_eitherNow at hf
  obtain ⟨x2_25, ex2_25, hf⟩ := bd_inv hf
  exact j2 a1  n S x2_25 hf hk
def wr_X9_either : Nat → Prop := fun c => c = 28 ∨ c = 43 ∨ c = 44 ∨ c = 45 ∨ c = 46 ∨ c = 47 ∨ c = 48
theorem fr_X9_either (n : Nat) (S : St) (a1 : Int32) (r : Int32) (S2 : St) (hf : f_X9_either n S a1 = some (r, S2)) : Keeps (wr_X9_either) S S2 := by
  have hk : Keeps (wr_X9_either) S S := Keeps.rf
  unfold f_X9_either at hf
  obtain ⟨r_1, S_2, hc_3, hf⟩ := bo_inv hf
  have hk := hk.trans ((fr_X9_within n _ _ _ _ _ _ hc_3).mono (fun _ h => False.elim h))
  rcases (Decidable.em (r_1 = 0)).symm with b_4 | b_4
  · have hf := if_f b_4 hf
    obtain ⟨r_5, S_6, hc_7, hf⟩ := bo_inv hf
    have hk := hk.trans ((fr_X9_all n _ _ _ hc_7).mono (fun _ h => False.elim h))
    obtain ⟨r_8, S_9, hc_10, hf⟩ := bo_inv hf
    have hk := hk.trans ((fr_X9_holdsWith n _ _ _ _ hc_10).mono (by intro c h; unfold wr_X9_holdsWith at h; unfold wr_X9_either; omega))
    rcases (Decidable.em (r_8 = 0)) with b_11 | b_11
    · have hf := if_t b_11 hf
      exact (rt_inv hf).2 ▸ hk
    · have hf := if_f b_11 hf
      rcases (Decidable.em ((S_9.1 28 9) = (12 : Int32))).symm with b_12 | b_12
      · have hf := if_f b_12 hf
        obtain ⟨S_13, eS_13, hf⟩ := bd_inv hf
        have hk := hk.trans (kpI eS_13 (by unfold wr_X9_either; omega))
        obtain ⟨r_14, S_15, hc_16, hf⟩ := bo_inv hf
        have hk := hk.trans ((fr_X9_eitherNow n _ _ _ _ hc_16).mono (by intro c h; unfold wr_X9_eitherNow at h; unfold wr_X9_either; omega))
        exact (rt_inv hf).2 ▸ hk
      · have hf := if_t b_12 hf
        exact (rt_inv hf).2 ▸ hk
  · have hf := if_t b_4 hf
    exact (rt_inv hf).2 ▸ hk
def wr_X9_literalNow : Nat → Prop := fun c => False
theorem fr_X9_literalNow (n : Nat) (S : St) (a1 : Int32) (a2 : Int32) (r : Int32) (S2 : St) (hf : f_X9_literalNow n S a1 a2 = some (r, S2)) : Keeps (wr_X9_literalNow) S S2 := by
  have hk : Keeps (wr_X9_literalNow) S S := Keeps.rf
  unfold f_X9_literalNow at hf
  rcases (Decidable.em (a2 = 0)).symm with b_1 | b_1
  · have hf := if_f b_1 hf
    rcases (Decidable.em (a2 = (1 : Int32))).symm with b_2 | b_2
    · have hf := if_f b_2 hf
      rcases (Decidable.em (a2 = (2 : Int32))).symm with b_3 | b_3
      · have hf := if_f b_3 hf
        obtain ⟨g_4, hf⟩ := gd_inv hf
        exact (rt_inv hf).2 ▸ hk
      · have hf := if_t b_3 hf
        obtain ⟨g_5, hf⟩ := gd_inv hf
        exact (rt_inv hf).2 ▸ hk
    · have hf := if_t b_2 hf
      obtain ⟨g_6, hf⟩ := gd_inv hf
      exact (rt_inv hf).2 ▸ hk
  · have hf := if_t b_1 hf
    obtain ⟨g_7, hf⟩ := gd_inv hf
    exact (rt_inv hf).2 ▸ hk
def wr_X9_literal : Nat → Prop := fun c => False
theorem fr_X9_literal (n : Nat) (S : St) (a1 : Int32) (a2 : Int32) (r : Int32) (S2 : St) (hf : f_X9_literal n S a1 a2 = some (r, S2)) : Keeps (wr_X9_literal) S S2 := by
  have hk : Keeps (wr_X9_literal) S S := Keeps.rf
  unfold f_X9_literal at hf
  obtain ⟨r_1, S_2, hc_3, hf⟩ := bo_inv hf
  have hk := hk.trans ((fr_X9_isLiteral n _ _ _ _ hc_3).mono (fun _ h => False.elim h))
  rcases (Decidable.em (r_1 = 0)).symm with b_4 | b_4
  · have hf := if_f b_4 hf
    obtain ⟨r_5, S_6, hc_7, hf⟩ := bo_inv hf
    have hk := hk.trans ((fr_X9_within n _ _ _ _ _ _ hc_7).mono (fun _ h => False.elim h))
    rcases (Decidable.em (r_5 = 0)) with b_8 | b_8
    · have hf := if_t b_8 hf
      exact (rt_inv hf).2 ▸ hk
    · have hf := if_f b_8 hf
      obtain ⟨r_9, S_10, hc_11, hf⟩ := bo_inv hf
      have hk := hk.trans ((fr_X9_literalNow n _ _ _ _ _ hc_11).mono (fun _ h => False.elim h))
      exact (rt_inv hf).2 ▸ hk
  · have hf := if_t b_4 hf
    exact (rt_inv hf).2 ▸ hk
def wr_X9_lettersIn : Nat → Prop := fun c => c = 49
theorem fr_X9_lettersIn (n : Nat) (S : St) (a1 : Int32) (r : Int32) (S2 : St) (hf : f_X9_lettersIn n S a1 = some (r, S2)) : Keeps (wr_X9_lettersIn) S S2 := by
  have hk : Keeps (wr_X9_lettersIn) S S := Keeps.rf
  obtain ⟨S0, hS0⟩ : ∃ S0, S0 = S := ⟨S, rfl⟩
  have hk : Keeps (wr_X9_lettersIn) S0 S := by rw [hS0]; exact hk
  suffices hh : Keeps (wr_X9_lettersIn) S0 S2 by rw [hS0] at hh; exact hh
  have j76 : ∀ (x1 : Int32) (k2 : St → Int32 → Option (Int32 × St)) (hk2 : ∀ (S : St) (x2 : Int32), k2 S x2 = some (r, S2) → Keeps wr_X9_lettersIn S0 S → Keeps wr_X9_lettersIn S0 S2), ∀ (S : St) (x2 : Int32) (t1 : Int32) (t2 : Int32), f_X9_lettersIn_76 n x1 k2 S x2 t1 t2 = some (r, S2) → Keeps wr_X9_lettersIn S0 S → Keeps wr_X9_lettersIn S0 S2 := by
    intro x1 k2 hk2 S x2 t1 t2 hf hk
    unfold f_X9_lettersIn_76 at hf
    obtain ⟨g_1, hf⟩ := gd_inv hf
    obtain ⟨S_2, eS_2, hf⟩ := bd_inv hf
    have hk := hk.trans (kpI eS_2 (by unfold wr_X9_lettersIn; omega))
    obtain ⟨x2_3, ex2_3, hf⟩ := bd_inv hf
    exact hk2 S_2 x2_3 hf hk
  have b2 : ∀ (x1 : Int32) (k2 : St → Int32 → Option (Int32 × St)) (hk2 : ∀ (S : St) (x2 : Int32), k2 S x2 = some (r, S2) → Keeps wr_X9_lettersIn S0 S → Keeps wr_X9_lettersIn S0 S2), ∀ (S : St) (x2 : Int32), f_X9_lettersIn_2 n x1 k2 S x2 = some (r, S2) → Keeps wr_X9_lettersIn S0 S → Keeps wr_X9_lettersIn S0 S2 := by
    intro x1 k2 hk2 S x2 hf hk
    unfold f_X9_lettersIn_2 at hf
    rcases (Decidable.em (x1 < x2)) with b_4 | b_4
    · have hf := if_t b_4 hf
      obtain ⟨g_5, hf⟩ := gd_inv hf
      exact (rt_inv hf).2 ▸ hk
    · have hf := if_f b_4 hf
      obtain ⟨g_6, hf⟩ := gd_inv hf
      rcases (Decidable.em ((S.1 35 (x2).toNatClampNeg) = 0)).symm with b_7 | b_7
      · have hf := if_f b_7 hf
        obtain ⟨g_8, hf⟩ := gd_inv hf
        rcases (Decidable.em ((S.1 35 (x2).toNatClampNeg) = (1 : Int32))).symm with b_9 | b_9
        · have hf := if_f b_9 hf
          obtain ⟨g_10, hf⟩ := gd_inv hf
          obtain ⟨g_11, hf⟩ := gd_inv hf
          obtain ⟨g_12, hf⟩ := gd_inv hf
          obtain ⟨g_13, hf⟩ := gd_inv hf
          exact j76 x1 k2 hk2 S x2 x2 ((((4 : Int32) + (S.1 49 ((S.1 36 (x2).toNatClampNeg)).toNatClampNeg)) + (S.1 49 ((S.1 37 (x2).toNatClampNeg)).toNatClampNeg))) hf hk
        · have hf := if_t b_9 hf
          obtain ⟨g_14, hf⟩ := gd_inv hf
          obtain ⟨g_15, hf⟩ := gd_inv hf
          exact j76 x1 k2 hk2 S x2 x2 (((3 : Int32) + (S.1 49 ((S.1 36 (x2).toNatClampNeg)).toNatClampNeg))) hf hk
      · have hf := if_t b_7 hf
        exact j76 x1 k2 hk2 S x2 x2 ((1 : Int32)) hf hk
  have j2 : ∀ (x1 : Int32) (d : Nat), ∀ (S : St) (x2 : Int32), fixF (fun _ _ => none) (f_X9_lettersIn_2 n x1) d S x2 = some (r, S2) → Keeps wr_X9_lettersIn S0 S → Keeps wr_X9_lettersIn S0 S2 := by
    intro x1  d
    induction d with
    | zero => intro S x2 hf hk; cases hf
    | succ d ih => exact b2 x1  (fixF (fun _ _ => none) (f_X9_lettersIn_2 n x1) d) ih
  unfold f_X9_lettersIn at hf
  obtain ⟨x2_16, ex2_16, hf⟩ := bd_inv hf
  exact j2 a1  n S x2_16 hf hk
def wr_X9_sameAs : Nat → Prop := fun c => c = 28 ∨ c = 41 ∨ c = 42
theorem fr_X9_sameAs (n : Nat) (S : St) (a1 : Int32) (r : Int32) (S2 : St) (hf : f_X9_sameAs n S a1 = some (r, S2)) : Keeps (wr_X9_sameAs) S S2 := by
  have hk : Keeps (wr_X9_sameAs) S S := Keeps.rf
  unfold f_X9_sameAs at hf
  obtain ⟨r_1, S_2, hc_3, hf⟩ := bo_inv hf
  have hk := hk.trans ((fr_X9_layExchange n _ _ _ hc_3).mono (by intro c h; unfold wr_X9_layExchange at h; unfold wr_X9_sameAs; omega))
  obtain ⟨g_4, hf⟩ := gd_inv hf
  exact (rt_inv hf).2 ▸ hk
def wr_X9_literalsWith : Nat → Prop := fun c => False
theorem fr_X9_literalsWith (n : Nat) (S : St) (a1 : Int32) (r : Int32) (S2 : St) (hf : f_X9_literalsWith n S a1 = some (r, S2)) : Keeps (wr_X9_literalsWith) S S2 := by
  have hk : Keeps (wr_X9_literalsWith) S S := Keeps.rf
  obtain ⟨S0, hS0⟩ : ∃ S0, S0 = S := ⟨S, rfl⟩
  have hk : Keeps (wr_X9_literalsWith) S0 S := by rw [hS0]; exact hk
  suffices hh : Keeps (wr_X9_literalsWith) S0 S2 by rw [hS0] at hh; exact hh
  have j38 : ∀ (x1 : Int32) (k4 : St → Int32 → Int32 → Option (Int32 × St)) (hk4 : ∀ (S : St) (x2 : Int32) (x3 : Int32), k4 S x2 x3 = some (r, S2) → Keeps wr_X9_literalsWith S0 S → Keeps wr_X9_literalsWith S0 S2), ∀ (S : St) (x3 : Int32) (t0 : Int32) (t1 : Int32), f_X9_literalsWith_38 n x1 k4 S x3 t0 t1 = some (r, S2) → Keeps wr_X9_literalsWith S0 S → Keeps wr_X9_literalsWith S0 S2 := by
    intro x1 k4 hk4 S x3 t0 t1 hf hk
    unfold f_X9_literalsWith_38 at hf
    obtain ⟨x2_1, ex2_1, hf⟩ := bd_inv hf
    obtain ⟨x3_2, ex3_2, hf⟩ := bd_inv hf
    exact hk4 S x2_1 x3_2 hf hk
  have j33 : ∀ (x1 : Int32) (k4 : St → Int32 → Int32 → Option (Int32 × St)) (hk4 : ∀ (S : St) (x2 : Int32) (x3 : Int32), k4 S x2 x3 = some (r, S2) → Keeps wr_X9_literalsWith S0 S → Keeps wr_X9_literalsWith S0 S2), ∀ (S : St) (x3 : Int32) (t0 : Int32), f_X9_literalsWith_33 n x1 k4 S x3 t0 = some (r, S2) → Keeps wr_X9_literalsWith S0 S → Keeps wr_X9_literalsWith S0 S2 := by
    intro x1 k4 hk4 S x3 t0 hf hk
    unfold f_X9_literalsWith_33 at hf
    exact j38 x1 k4 hk4 S x3 t0 ((1 : Int32)) hf hk
  have b4 : ∀ (x1 : Int32) (k4 : St → Int32 → Int32 → Option (Int32 × St)) (hk4 : ∀ (S : St) (x2 : Int32) (x3 : Int32), k4 S x2 x3 = some (r, S2) → Keeps wr_X9_literalsWith S0 S → Keeps wr_X9_literalsWith S0 S2), ∀ (S : St) (x2 : Int32) (x3 : Int32), f_X9_literalsWith_4 n x1 k4 S x2 x3 = some (r, S2) → Keeps wr_X9_literalsWith S0 S → Keeps wr_X9_literalsWith S0 S2 := by
    intro x1 k4 hk4 S x2 x3 hf hk
    unfold f_X9_literalsWith_4 at hf
    rcases (Decidable.em ((S.1 28 2) ≤ x3)) with b_3 | b_3
    · have hf := if_t b_3 hf
      exact (rt_inv hf).2 ▸ hk
    · have hf := if_f b_3 hf
      obtain ⟨g_4, hf⟩ := gd_inv hf
      rcases (Decidable.em ((S.1 38 (x3).toNatClampNeg) = x1)) with b_5 | b_5
      · have hf := if_t b_5 hf
        exact j33 x1 k4 hk4 S x3 x2 hf hk
      · have hf := if_f b_5 hf
        obtain ⟨g_6, hf⟩ := gd_inv hf
        rcases (Decidable.em ((S.1 39 (x3).toNatClampNeg) = x1)).symm with b_7 | b_7
        · have hf := if_f b_7 hf
          exact j38 x1 k4 hk4 S x3 x2 ((0 : Int32)) hf hk
        · have hf := if_t b_7 hf
          exact j33 x1 k4 hk4 S x3 x2 hf hk
  have j4 : ∀ (x1 : Int32) (d : Nat), ∀ (S : St) (x2 : Int32) (x3 : Int32), fixF (fun _ _ _ => none) (f_X9_literalsWith_4 n x1) d S x2 x3 = some (r, S2) → Keeps wr_X9_literalsWith S0 S → Keeps wr_X9_literalsWith S0 S2 := by
    intro x1  d
    induction d with
    | zero => intro S x2 x3 hf hk; cases hf
    | succ d ih => exact b4 x1  (fixF (fun _ _ _ => none) (f_X9_literalsWith_4 n x1) d) ih
  unfold f_X9_literalsWith at hf
  obtain ⟨x2_8, ex2_8, hf⟩ := bd_inv hf
  obtain ⟨x3_9, ex3_9, hf⟩ := bd_inv hf
  exact j4 a1  n S x2_8 x3_9 hf hk
def wr_X9_termNow : Nat → Prop := fun c => c = 28 ∨ c = 41 ∨ c = 42 ∨ c = 49
theorem fr_X9_termNow (n : Nat) (S : St) (a1 : Int32) (a2 : Int32) (r : Int32) (S2 : St) (hf : f_X9_termNow n S a1 a2 = some (r, S2)) : Keeps (wr_X9_termNow) S S2 := by
  have hk : Keeps (wr_X9_termNow) S S := Keeps.rf
  unfold f_X9_termNow at hf
  by_cases b_1 : a2 = (0 : Int32)
  · have hf := if_t b_1 hf
    obtain ⟨g_2, hf⟩ := gd_inv hf
    exact (rt_inv hf).2 ▸ hk
  · have hf := if_f b_1 hf
    by_cases b_3 : a2 = (1 : Int32)
    · have hf := if_t b_3 hf
      obtain ⟨g_4, hf⟩ := gd_inv hf
      exact (rt_inv hf).2 ▸ hk
    · have hf := if_f b_3 hf
      by_cases b_5 : a2 = (2 : Int32)
      · have hf := if_t b_5 hf
        obtain ⟨g_6, hf⟩ := gd_inv hf
        exact (rt_inv hf).2 ▸ hk
      · have hf := if_f b_5 hf
        by_cases b_7 : a2 = (3 : Int32)
        · have hf := if_t b_7 hf
          obtain ⟨r_8, S_9, hc_10, hf⟩ := bo_inv hf
          have hk := hk.trans ((fr_X9_lettersIn n _ _ _ _ hc_10).mono (by intro c h; unfold wr_X9_lettersIn at h; unfold wr_X9_termNow; omega))
          exact (rt_inv hf).2 ▸ hk
        · have hf := if_f b_7 hf
          by_cases b_11 : a2 = (4 : Int32)
          · have hf := if_t b_11 hf
            obtain ⟨r_12, S_13, hc_14, hf⟩ := bo_inv hf
            have hk := hk.trans ((fr_X9_sameAs n _ _ _ _ hc_14).mono (by intro c h; unfold wr_X9_sameAs at h; unfold wr_X9_termNow; omega))
            exact (rt_inv hf).2 ▸ hk
          · have hf := if_f b_11 hf
            obtain ⟨r_15, S_16, hc_17, hf⟩ := bo_inv hf
            have hk := hk.trans ((fr_X9_literalsWith n _ _ _ _ hc_17).mono (fun _ h => False.elim h))
            exact (rt_inv hf).2 ▸ hk
def wr_X9_term : Nat → Prop := fun c => c = 28 ∨ c = 41 ∨ c = 42 ∨ c = 49
theorem fr_X9_term (n : Nat) (S : St) (a1 : Int32) (a2 : Int32) (r : Int32) (S2 : St) (hf : f_X9_term n S a1 a2 = some (r, S2)) : Keeps (wr_X9_term) S S2 := by
  have hk : Keeps (wr_X9_term) S S := Keeps.rf
  unfold f_X9_term at hf
  obtain ⟨r_1, S_2, hc_3, hf⟩ := bo_inv hf
  have hk := hk.trans ((fr_X9_within n _ _ _ _ _ _ hc_3).mono (fun _ h => False.elim h))
  rcases (Decidable.em (r_1 = 0)).symm with b_4 | b_4
  · have hf := if_f b_4 hf
    obtain ⟨r_5, S_6, hc_7, hf⟩ := bo_inv hf
    have hk := hk.trans ((fr_X9_within n _ _ _ _ _ _ hc_7).mono (fun _ h => False.elim h))
    rcases (Decidable.em (r_5 = 0)) with b_8 | b_8
    · have hf := if_t b_8 hf
      exact (rt_inv hf).2 ▸ hk
    · have hf := if_f b_8 hf
      obtain ⟨r_9, S_10, hc_11, hf⟩ := bo_inv hf
      have hk := hk.trans ((fr_X9_termNow n _ _ _ _ _ hc_11).mono (by intro c h; unfold wr_X9_termNow at h; unfold wr_X9_term; omega))
      exact (rt_inv hf).2 ▸ hk
  · have hf := if_t b_4 hf
    exact (rt_inv hf).2 ▸ hk
def wr_X9_howMany : Nat → Prop := fun c => False
theorem fr_X9_howMany (n : Nat) (S : St) (a1 : Int32) (r : Int32) (S2 : St) (hf : f_X9_howMany n S a1 = some (r, S2)) : Keeps (wr_X9_howMany) S S2 := by
  have hk : Keeps (wr_X9_howMany) S S := Keeps.rf
  unfold f_X9_howMany at hf
  by_cases b_1 : a1 = (0 : Int32)
  · have hf := if_t b_1 hf
    exact (rt_inv hf).2 ▸ hk
  · have hf := if_f b_1 hf
    by_cases b_2 : a1 = (1 : Int32)
    · have hf := if_t b_2 hf
      exact (rt_inv hf).2 ▸ hk
    · have hf := if_f b_2 hf
      by_cases b_3 : a1 = (2 : Int32)
      · have hf := if_t b_3 hf
        exact (rt_inv hf).2 ▸ hk
      · have hf := if_f b_3 hf
        by_cases b_4 : a1 = (3 : Int32)
        · have hf := if_t b_4 hf
          exact (rt_inv hf).2 ▸ hk
        · have hf := if_f b_4 hf
          by_cases b_5 : a1 = (4 : Int32)
          · have hf := if_t b_5 hf
            exact (rt_inv hf).2 ▸ hk
          · have hf := if_f b_5 hf
            by_cases b_6 : a1 = (5 : Int32)
            · have hf := if_t b_6 hf
              exact (rt_inv hf).2 ▸ hk
            · have hf := if_f b_6 hf
              exact (rt_inv hf).2 ▸ hk
def wr_X9_count : Nat → Prop := fun c => False
theorem fr_X9_count (n : Nat) (S : St) (a1 : Int32) (r : Int32) (S2 : St) (hf : f_X9_count n S a1 = some (r, S2)) : Keeps (wr_X9_count) S S2 := by
  have hk : Keeps (wr_X9_count) S S := Keeps.rf
  unfold f_X9_count at hf
  obtain ⟨r_1, S_2, hc_3, hf⟩ := bo_inv hf
  have hk := hk.trans ((fr_X9_howMany n _ _ _ _ hc_3).mono (fun _ h => False.elim h))
  exact (rt_inv hf).2 ▸ hk
def wr_X9_mix : Nat → Prop := fun c => c = 28
theorem fr_X9_mix (n : Nat) (S : St) (a1 : Int64) (r : Unit) (S2 : St) (hf : f_X9_mix n S a1 = some (r, S2)) : Keeps (wr_X9_mix) S S2 := by
  have hk : Keeps (wr_X9_mix) S S := Keeps.rf
  unfold f_X9_mix at hf
  obtain ⟨S_1, eS_1, hf⟩ := bd_inv hf
  have hk := hk.trans (kpL eS_1 (by unfold wr_X9_mix; omega))
  exact (rt_inv hf).2 ▸ hk
def wr_X9_digest : Nat → Prop := fun c => c = 28 ∨ c = 41 ∨ c = 42 ∨ c = 43 ∨ c = 44 ∨ c = 45 ∨ c = 46 ∨ c = 47 ∨ c = 48 ∨ c = 49
theorem fr_X9_digest (n : Nat) (S : St) (r : Int64) (S2 : St) (hf : f_X9_digest n S = some (r, S2)) : Keeps (wr_X9_digest) S S2 := by
  have hk : Keeps (wr_X9_digest) S S := Keeps.rf
  obtain ⟨S0, hS0⟩ : ∃ S0, S0 = S := ⟨S, rfl⟩
  have hk : Keeps (wr_X9_digest) S0 S := by rw [hS0]; exact hk
  suffices hh : Keeps (wr_X9_digest) S0 S2 by rw [hS0] at hh; exact hh
  have b137 : ∀ (k137 : St → Int32 → Option (Int64 × St)) (hk137 : ∀ (S : St) (x1 : Int32), k137 S x1 = some (r, S2) → Keeps wr_X9_digest S0 S → Keeps wr_X9_digest S0 S2), ∀ (S : St) (x1 : Int32), f_X9_digest_137 n k137 S x1 = some (r, S2) → Keeps wr_X9_digest S0 S → Keeps wr_X9_digest S0 S2 := by
    intro k137 hk137 S x1 hf hk
    unfold f_X9_digest_137 at hf
    rcases (Decidable.em ((6 : Int32) ≤ x1)) with b_1 | b_1
    · have hf := if_t b_1 hf
      exact (rt_inv hf).2 ▸ hk
    · have hf := if_f b_1 hf
      obtain ⟨r_2, S_3, hc_4, hf⟩ := bo_inv hf
      have hk := hk.trans ((fr_X9_howMany n _ _ _ _ hc_4).mono (fun _ h => False.elim h))
      obtain ⟨r_5, S_6, hc_7, hf⟩ := bo_inv hf
      have hk := hk.trans ((fr_X9_mix n _ _ _ _ hc_7).mono (by intro c h; unfold wr_X9_mix at h; unfold wr_X9_digest; omega))
      obtain ⟨x1_8, ex1_8, hf⟩ := bd_inv hf
      exact hk137 S_6 x1_8 hf hk
  have j137 : ∀ (d : Nat), ∀ (S : St) (x1 : Int32), fixF (fun _ _ => none) (f_X9_digest_137 n) d S x1 = some (r, S2) → Keeps wr_X9_digest S0 S → Keeps wr_X9_digest S0 S2 := by
    intro   d
    induction d with
    | zero => intro S x1 hf hk; cases hf
    | succ d ih => exact b137   (fixF (fun _ _ => none) (f_X9_digest_137 n) d) ih
  have b110 : ∀ (k110 : St → Int32 → Option (Int64 × St)) (hk110 : ∀ (S : St) (x1 : Int32), k110 S x1 = some (r, S2) → Keeps wr_X9_digest S0 S → Keeps wr_X9_digest S0 S2), ∀ (S : St) (x1 : Int32), f_X9_digest_110 n k110 S x1 = some (r, S2) → Keeps wr_X9_digest S0 S → Keeps wr_X9_digest S0 S2 := by
    intro k110 hk110 S x1 hf hk
    unfold f_X9_digest_110 at hf
    rcases (Decidable.em ((S.1 28 0) ≤ x1)) with b_9 | b_9
    · have hf := if_t b_9 hf
      obtain ⟨x1_10, ex1_10, hf⟩ := bd_inv hf
      exact j137   n S x1_10 hf hk
    · have hf := if_f b_9 hf
      obtain ⟨g_11, hf⟩ := gd_inv hf
      obtain ⟨r_12, S_13, hc_14, hf⟩ := bo_inv hf
      have hk := hk.trans ((fr_X9_mix n _ _ _ _ hc_14).mono (by intro c h; unfold wr_X9_mix at h; unfold wr_X9_digest; omega))
      obtain ⟨x1_15, ex1_15, hf⟩ := bd_inv hf
      exact hk110 S_13 x1_15 hf hk
  have j110 : ∀ (d : Nat), ∀ (S : St) (x1 : Int32), fixF (fun _ _ => none) (f_X9_digest_110 n) d S x1 = some (r, S2) → Keeps wr_X9_digest S0 S → Keeps wr_X9_digest S0 S2 := by
    intro   d
    induction d with
    | zero => intro S x1 hf hk; cases hf
    | succ d ih => exact b110   (fixF (fun _ _ => none) (f_X9_digest_110 n) d) ih
  have b78 : ∀ (k78 : St → Int32 → Option (Int64 × St)) (hk78 : ∀ (S : St) (x1 : Int32), k78 S x1 = some (r, S2) → Keeps wr_X9_digest S0 S → Keeps wr_X9_digest S0 S2), ∀ (S : St) (x1 : Int32), f_X9_digest_78 n k78 S x1 = some (r, S2) → Keeps wr_X9_digest S0 S → Keeps wr_X9_digest S0 S2 := by
    intro k78 hk78 S x1 hf hk
    unfold f_X9_digest_78 at hf
    rcases (Decidable.em ((3 : Int32) ≤ x1)) with b_16 | b_16
    · have hf := if_t b_16 hf
      obtain ⟨r_17, S_18, hc_19, hf⟩ := bo_inv hf
      have hk := hk.trans ((fr_X9_holds n _ _ _ hc_19).mono (by intro c h; unfold wr_X9_holds at h; unfold wr_X9_digest; omega))
      obtain ⟨r_20, S_21, hc_22, hf⟩ := bo_inv hf
      have hk := hk.trans ((fr_X9_mix n _ _ _ _ hc_22).mono (by intro c h; unfold wr_X9_mix at h; unfold wr_X9_digest; omega))
      obtain ⟨x1_23, ex1_23, hf⟩ := bd_inv hf
      exact j110   n S_21 x1_23 hf hk
    · have hf := if_f b_16 hf
      obtain ⟨r_24, S_25, hc_26, hf⟩ := bo_inv hf
      have hk := hk.trans ((fr_X9_exchangeNow n _ _ _ _ hc_26).mono (by intro c h; unfold wr_X9_exchangeNow at h; unfold wr_X9_digest; omega))
      obtain ⟨r_27, S_28, hc_29, hf⟩ := bo_inv hf
      have hk := hk.trans ((fr_X9_mix n _ _ _ _ hc_29).mono (by intro c h; unfold wr_X9_mix at h; unfold wr_X9_digest; omega))
      obtain ⟨x1_30, ex1_30, hf⟩ := bd_inv hf
      exact hk78 S_28 x1_30 hf hk
  have j78 : ∀ (d : Nat), ∀ (S : St) (x1 : Int32), fixF (fun _ _ => none) (f_X9_digest_78 n) d S x1 = some (r, S2) → Keeps wr_X9_digest S0 S → Keeps wr_X9_digest S0 S2 := by
    intro   d
    induction d with
    | zero => intro S x1 hf hk; cases hf
    | succ d ih => exact b78   (fixF (fun _ _ => none) (f_X9_digest_78 n) d) ih
  have b42 : ∀ (k42 : St → Int32 → Option (Int64 × St)) (hk42 : ∀ (S : St) (x1 : Int32), k42 S x1 = some (r, S2) → Keeps wr_X9_digest S0 S → Keeps wr_X9_digest S0 S2), ∀ (S : St) (x1 : Int32), f_X9_digest_42 n k42 S x1 = some (r, S2) → Keeps wr_X9_digest S0 S → Keeps wr_X9_digest S0 S2 := by
    intro k42 hk42 S x1 hf hk
    unfold f_X9_digest_42 at hf
    rcases (Decidable.em (((6 : Int32) * (S.1 28 18)) ≤ x1)) with b_31 | b_31
    · have hf := if_t b_31 hf
      obtain ⟨x1_32, ex1_32, hf⟩ := bd_inv hf
      exact j78   n S x1_32 hf hk
    · have hf := if_f b_31 hf
      obtain ⟨r_33, S_34, hc_35, hf⟩ := bo_inv hf
      have hk := hk.trans ((fr_X9_termNow n _ _ _ _ _ hc_35).mono (by intro c h; unfold wr_X9_termNow at h; unfold wr_X9_digest; omega))
      obtain ⟨r_36, S_37, hc_38, hf⟩ := bo_inv hf
      have hk := hk.trans ((fr_X9_mix n _ _ _ _ hc_38).mono (by intro c h; unfold wr_X9_mix at h; unfold wr_X9_digest; omega))
      obtain ⟨x1_39, ex1_39, hf⟩ := bd_inv hf
      exact hk42 S_37 x1_39 hf hk
  have j42 : ∀ (d : Nat), ∀ (S : St) (x1 : Int32), fixF (fun _ _ => none) (f_X9_digest_42 n) d S x1 = some (r, S2) → Keeps wr_X9_digest S0 S → Keeps wr_X9_digest S0 S2 := by
    intro   d
    induction d with
    | zero => intro S x1 hf hk; cases hf
    | succ d ih => exact b42   (fixF (fun _ _ => none) (f_X9_digest_42 n) d) ih
  have b9 : ∀ (k9 : St → Int32 → Option (Int64 × St)) (hk9 : ∀ (S : St) (x1 : Int32), k9 S x1 = some (r, S2) → Keeps wr_X9_digest S0 S → Keeps wr_X9_digest S0 S2), ∀ (S : St) (x1 : Int32), f_X9_digest_9 n k9 S x1 = some (r, S2) → Keeps wr_X9_digest S0 S → Keeps wr_X9_digest S0 S2 := by
    intro k9 hk9 S x1 hf hk
    unfold f_X9_digest_9 at hf
    rcases (Decidable.em (((4 : Int32) * (S.1 28 2)) ≤ x1)) with b_40 | b_40
    · have hf := if_t b_40 hf
      obtain ⟨x1_41, ex1_41, hf⟩ := bd_inv hf
      exact j42   n S x1_41 hf hk
    · have hf := if_f b_40 hf
      obtain ⟨r_42, S_43, hc_44, hf⟩ := bo_inv hf
      have hk := hk.trans ((fr_X9_literalNow n _ _ _ _ _ hc_44).mono (fun _ h => False.elim h))
      obtain ⟨r_45, S_46, hc_47, hf⟩ := bo_inv hf
      have hk := hk.trans ((fr_X9_mix n _ _ _ _ hc_47).mono (by intro c h; unfold wr_X9_mix at h; unfold wr_X9_digest; omega))
      obtain ⟨x1_48, ex1_48, hf⟩ := bd_inv hf
      exact hk9 S_46 x1_48 hf hk
  have j9 : ∀ (d : Nat), ∀ (S : St) (x1 : Int32), fixF (fun _ _ => none) (f_X9_digest_9 n) d S x1 = some (r, S2) → Keeps wr_X9_digest S0 S → Keeps wr_X9_digest S0 S2 := by
    intro   d
    induction d with
    | zero => intro S x1 hf hk; cases hf
    | succ d ih => exact b9   (fixF (fun _ _ => none) (f_X9_digest_9 n) d) ih
  unfold f_X9_digest at hf
  obtain ⟨S_49, eS_49, hf⟩ := bd_inv hf
  have hk := hk.trans (kpL eS_49 (by unfold wr_X9_digest; omega))
  obtain ⟨x1_50, ex1_50, hf⟩ := bd_inv hf
  exact j9   n S_49 x1_50 hf hk
