set_option maxHeartbeats 4000000 in
set_option maxRecDepth 100000 in
theorem c_X9_takesFigure (l : Launch) (D : va_G) (y : y4) (ad : Nat → Nat) (aL aU : Nat) (hI : Inj ad) (n : Nat) (S : St) (a1 : Int32) (r : Int32) (S2 : St) (hf : f_X9_takesFigure n S a1 = some (r, S2)) : KI l D y ad aL aU yX9_takesFigure wsX9_takesFigure ({ frames := 2, cells := 0, slots := 0, locals := 42 }) [.ref (ad 28), .int a1] S r S2 := by
  refine Met.ofW (cc := cX9_takesFigure) (maxL := 3) (ret := (some .boolean)) (by decide) rfl ?_
  intro p e s m args below meth c s₁ B hml hv
  obtain ⟨rfl, hP, hK, hZ⟩ := hv
  have hx := B.exec
  have hb := B.bytes
  have hr := B.returns
  have hts := atoms_spec (ws := wsX9_takesFigure) B.pre
  have hown : s.vm.findClass RX9 = some m.cls := findClass_of_methodNamed B.named
  have hlocks := B.notSynchronized
  have hS : va_S (AA ad) s.heap s.heap [] := va_S.rf
  have L100 := hts (.fieldLink RX9 100 "JoinedTheoriesModel" "number" "I") (by decide +kernel)
  have K110 := hts (.constant RX9 110 (1000000)) (by decide +kernel)
  have n9 : ∀ w ∈ wsX90, w ∈ wsX9_takesFigure := by decide +kernel
  have hl := lv_entry ([.ref (ad 28), .int a1]) (n := 3) (Nat.le_of_ble_eq_true rfl)
  rw [lg_entry_eq]
  generalize (lg_sl ([.ref (ad 28), .int a1]) ++ List.replicate (3 - (lg_sl ([.ref (ad 28), .int a1])).length) Slot.unset).toArray = ls at hl ⊢
  have hl : lv_has ls 3 [(0, .ref (ad 28)), (1, .int a1)] := hl
  have j71 : ∀ (S : St) (x2 : Int32) (t1 : Int32) (H : Heap) (locs : List Loc) (ls : Array Slot), f_X9_takesFigure_71 n S x2 t1 = some (r, S2) → PW D y ad S H → va_S (AA ad) s.heap H locs → lv_has ls 3 [(0, .ref (ad 28)), (2, .int x2)] → W p l e (headSpec wsX9_takesFigure ({ frames := 2, cells := 0, slots := 0, locals := 42 })).room s m ([.ref (ad 28), .int a1] : List Value).toArray below meth c H locs 0 0 (QI below r S2 D y ad ([.ref (ad 28), .int a1] : List Value).toArray s) (F0 m 71 ls [.int t1, .ref (ad 28)]) := by
    intro  S x2 t1 H locs ls hf hP hS hl
    unfold f_X9_takesFigure_71 at hf
    obtain ⟨S_1, eS_1, hf⟩ := bd_inv hf
    refine w_pI (ty := .int) (C := RX9) (T := TX9) hx hb hts n9 tyX9 tyX9_ok nmX9 hown hK hI hP hS t_28 rfl 15 (by decide) L100 rfl rfl rfl ⟨rfl, rfl⟩ dX9_takesFigure_71 (fun H locs hP hS => ?_)
    rw [← eS_1] at hP
    refine lv_iload_n hx hb dX9_takesFigure_74 rfl (lv_at hl 1 rfl) ?_
    obtain ⟨g_2, hf⟩ := gd_inv hf
    exact w_zret hx hb hr hlocks g_2 hP hS (rt_inv hf) dX9_takesFigure_75
  have j46 : ∀ (S : St) (x1 : Int32) (t0 : Int32) (H : Heap) (locs : List Loc) (ls : Array Slot), f_X9_takesFigure_46 n S x1 t0 = some (r, S2) → PW D y ad S H → va_S (AA ad) s.heap H locs → lv_has ls 3 [(0, .ref (ad 28)), (1, .int x1)] → W p l e (headSpec wsX9_takesFigure ({ frames := 2, cells := 0, slots := 0, locals := 42 })).room s m ([.ref (ad 28), .int a1] : List Value).toArray below meth c H locs 0 0 (QI below r S2 D y ad ([.ref (ad 28), .int a1] : List Value).toArray s) (F0 m 46 ls [.int t0]) := by
    intro  S x1 t0 H locs ls hf hP hS hl
    unfold f_X9_takesFigure_46 at hf
    obtain ⟨x2_3, ex2_3, hf⟩ := bd_inv hf
    refine w_topI ex2_3 ?_
    refine lv_istore_n (lv' := [(2, .int x2_3), (0, .ref (ad 28)), (1, .int x1)]) hx hb dX9_takesFigure_46 rfl hl (by decide) rfl (fun ls hl => ?_)
    refine lv_aload_n hx hb dX9_takesFigure_47 rfl (lv_at hl 1 rfl) ?_
    refine lv_iload_n hx hb dX9_takesFigure_48 rfl (lv_at hl 0 rfl) ?_
    refine lv_if_eq (tgt := 67) hx hb dX9_takesFigure_49 (by decide) (fun b_4 => ?_) (fun b_4 => ?_)
    · have hf := if_t b_4 hf
      refine lv_aload_n hx hb dX9_takesFigure_67 rfl (lv_at hl 1 rfl) ?_
      refine w_gI (C := RX9) (T := TX9) hx hb hts n9 hown hK hP t_28 rfl 15 (by decide) L100 rfl dX9_takesFigure_68 ?_
      exact j71   S x2_3 ((S.1 28 15)) _ _ _ hf hP hS (lv_sub hl [1, 0] rfl)
    · have hf := if_f b_4 hf
      refine lv_bipush (v := (10)) hx hb dX9_takesFigure_52 (by decide) ?_
      refine lv_aload_n hx hb dX9_takesFigure_54 rfl (lv_at hl 1 rfl) ?_
      refine w_gI (C := RX9) (T := TX9) hx hb hts n9 hown hK hP t_28 rfl 15 (by decide) L100 rfl dX9_takesFigure_55 ?_
      refine lv_imul hx hb dX9_takesFigure_58 ?_
      refine lv_iload_n hx hb dX9_takesFigure_59 rfl (lv_at hl 2 rfl) ?_
      refine lv_iadd hx hb dX9_takesFigure_60 ?_
      refine lv_bipush (v := (48)) hx hb dX9_takesFigure_61 (by decide) ?_
      refine lv_isub hx hb dX9_takesFigure_63 ?_
      refine lv_goto (tgt := 71) hx hb dX9_takesFigure_64 (by decide) ?_
      exact j71   S x2_3 (((((10 : Int32) * (S.1 28 15)) + x1) - (48 : Int32))) _ _ _ hf hP hS (lv_sub hl [1, 0] rfl)
  have j45 : ∀ (S : St) (x1 : Int32) (H : Heap) (locs : List Loc) (ls : Array Slot), f_X9_takesFigure_45 n S x1 = some (r, S2) → PW D y ad S H → va_S (AA ad) s.heap H locs → lv_has ls 3 [(0, .ref (ad 28)), (1, .int x1)] → W p l e (headSpec wsX9_takesFigure ({ frames := 2, cells := 0, slots := 0, locals := 42 })).room s m ([.ref (ad 28), .int a1] : List Value).toArray below meth c H locs 0 0 (QI below r S2 D y ad ([.ref (ad 28), .int a1] : List Value).toArray s) (F0 m 45 ls []) := by
    intro  S x1 H locs ls hf hP hS hl
    unfold f_X9_takesFigure_45 at hf
    refine lv_iconst (v := 0) hx hb dX9_takesFigure_45 (by decide) ?_
    exact j46   S x1 ((0 : Int32)) _ _ _ hf hP hS (lv_sub hl [0, 1] rfl)
  have j24 : ∀ (S : St) (x1 : Int32) (H : Heap) (locs : List Loc) (ls : Array Slot), f_X9_takesFigure_24 n S x1 = some (r, S2) → PW D y ad S H → va_S (AA ad) s.heap H locs → lv_has ls 3 [(0, .ref (ad 28)), (1, .int x1)] → W p l e (headSpec wsX9_takesFigure ({ frames := 2, cells := 0, slots := 0, locals := 42 })).room s m ([.ref (ad 28), .int a1] : List Value).toArray below meth c H locs 0 0 (QI below r S2 D y ad ([.ref (ad 28), .int a1] : List Value).toArray s) (F0 m 24 ls []) := by
    intro  S x1 H locs ls hf hP hS hl
    unfold f_X9_takesFigure_24 at hf
    refine lv_bipush (v := (10)) hx hb dX9_takesFigure_24 (by decide) ?_
    refine lv_aload_n hx hb dX9_takesFigure_26 rfl (lv_at hl 0 rfl) ?_
    refine w_gI (C := RX9) (T := TX9) hx hb hts n9 hown hK hP t_28 rfl 15 (by decide) L100 rfl dX9_takesFigure_27 ?_
    refine lv_imul hx hb dX9_takesFigure_30 ?_
    refine lv_iload_n hx hb dX9_takesFigure_31 rfl (lv_at hl 1 rfl) ?_
    refine lv_iadd hx hb dX9_takesFigure_32 ?_
    refine lv_bipush (v := (48)) hx hb dX9_takesFigure_33 (by decide) ?_
    refine lv_isub hx hb dX9_takesFigure_35 ?_
    refine lv_ldc (v := (1000000)) hx hb hown K110 dX9_takesFigure_36 ?_
    refine lv_icmp_ge (tgt := 45) hx hb dX9_takesFigure_38 (by decide) (fun b_5 => ?_) (fun b_5 => ?_)
    · have hf := if_t b_5 hf
      exact j45   S x1 _ _ _ hf hP hS (lv_sub hl [0, 1] rfl)
    · have hf := if_f b_5 hf
      refine lv_iconst (v := 1) hx hb dX9_takesFigure_41 (by decide) ?_
      refine lv_goto (tgt := 46) hx hb dX9_takesFigure_42 (by decide) ?_
      exact j46   S x1 ((1 : Int32)) _ _ _ hf hP hS (lv_sub hl [0, 1] rfl)
  unfold f_X9_takesFigure at hf
  refine lv_iload_n hx hb dX9_takesFigure_0 rfl (lv_at hl 1 rfl) ?_
  refine lv_bipush (v := (48)) hx hb dX9_takesFigure_1 (by decide) ?_
  refine lv_bipush (v := (57)) hx hb dX9_takesFigure_3 (by decide) ?_
  obtain ⟨r_6, S_7, hc_8, hf⟩ := bo_inv hf
  refine w_ci (va_runS (As := [.int a1, .int (48 : Int32), .int (57 : Int32)]) (rest := []) ⟨hx, hb, hml, hown, hts⟩ (c_X9_within l D y ad aL aU hI n S a1 (48 : Int32) (57 : Int32) _ _ hc_8) (cwS 3 hts gX9_takesFigure_X9_within rfl rfl rfl (by decide +kernel) ⟨Nat.le_of_ble_eq_true rfl, Nat.le_of_ble_eq_true rfl⟩) (pwu_S hP hK hZ hS) rfl rfl hl.1 rfl (lv_room (Nat.le_of_ble_eq_true rfl)) dX9_takesFigure_5 ⟨Nat.zero_le _, Nat.zero_le _⟩) hS (fun H locs hP hS => ?_)
  refine lv_if_eq (tgt := 45) hx hb dX9_takesFigure_8 (by decide) (fun b_9 => ?_) (fun b_9 => ?_)
  · have hf := if_t b_9 hf
    exact j45   S_7 a1 _ _ _ hf hP hS (lv_sub hl [0, 1] rfl)
  · have hf := if_f b_9 hf
    refine lv_aload_n hx hb dX9_takesFigure_11 rfl (lv_at hl 0 rfl) ?_
    refine w_gI (C := RX9) (T := TX9) hx hb hts n9 hown hK hP t_28 rfl 15 (by decide) L100 rfl dX9_takesFigure_12 ?_
    refine lv_if_gt (tgt := 24) hx hb dX9_takesFigure_15 (by decide) (fun b_10 => ?_) (fun b_10 => ?_)
    · have hf := if_t b_10 hf
      exact j24   S_7 a1 _ _ _ hf hP hS (lv_sub hl [0, 1] rfl)
    · have hf := if_f b_10 hf
      refine lv_iload_n hx hb dX9_takesFigure_18 rfl (lv_at hl 1 rfl) ?_
      refine lv_bipush (v := (48)) hx hb dX9_takesFigure_19 (by decide) ?_
      refine lv_icmp_le (tgt := 45) hx hb dX9_takesFigure_21 (by decide) (fun b_11 => ?_) (fun b_11 => ?_)
      · have hf := if_t b_11 hf
        exact j45   S_7 a1 _ _ _ hf hP hS (lv_sub hl [0, 1] rfl)
      · have hf := if_f b_11 hf
        exact j24   S_7 a1 _ _ _ hf hP hS (lv_sub hl [0, 1] rfl)
set_option maxHeartbeats 4000000 in
set_option maxRecDepth 100000 in
theorem c_X9_takes (l : Launch) (D : va_G) (y : y4) (ad : Nat → Nat) (aL aU : Nat) (hI : Inj ad) (n : Nat) (S : St) (a1 : Int32) (r : Int32) (S2 : St) (hf : f_X9_takes n S a1 = some (r, S2)) : KI l D y ad aL aU yX9_takes wsX9_takes ({ frames := 3, cells := 0, slots := 0, locals := 64 }) [.ref (ad 28), .int a1] S r S2 := by
  refine Met.ofW (cc := cX9_takes) (maxL := 2) (ret := (some .boolean)) (by decide) rfl ?_
  intro p e s m args below meth c s₁ B hml hv
  obtain ⟨rfl, hP, hK, hZ⟩ := hv
  have hx := B.exec
  have hb := B.bytes
  have hr := B.returns
  have hts := atoms_spec (ws := wsX9_takes) B.pre
  have hown : s.vm.findClass RX9 = some m.cls := findClass_of_methodNamed B.named
  have hlocks := B.notSynchronized
  have hS : va_S (AA ad) s.heap s.heap [] := va_S.rf
  have L87 := hts (.fieldLink RX9 87 "JoinedTheoriesModel" "waits" "I") (by decide +kernel)
  have n9 : ∀ w ∈ wsX90, w ∈ wsX9_takes := by decide +kernel
  have hl := lv_entry ([.ref (ad 28), .int a1]) (n := 2) (Nat.le_of_ble_eq_true rfl)
  rw [lg_entry_eq]
  generalize (lg_sl ([.ref (ad 28), .int a1]) ++ List.replicate (2 - (lg_sl ([.ref (ad 28), .int a1])).length) Slot.unset).toArray = ls at hl ⊢
  have hl : lv_has ls 2 [(0, .ref (ad 28)), (1, .int a1)] := hl
  have j36 : ∀ (S : St) (x1 : Int32) (t1 : Int32) (H : Heap) (locs : List Loc) (ls : Array Slot), f_X9_takes_36 n S x1 t1 = some (r, S2) → PW D y ad S H → va_S (AA ad) s.heap H locs → lv_has ls 2 [(0, .ref (ad 28)), (1, .int x1)] → W p l e (headSpec wsX9_takes ({ frames := 3, cells := 0, slots := 0, locals := 64 })).room s m ([.ref (ad 28), .int a1] : List Value).toArray below meth c H locs 0 0 (QI below r S2 D y ad ([.ref (ad 28), .int a1] : List Value).toArray s) (F0 m 36 ls [.int t1, .ref (ad 28)]) := by
    intro  S x1 t1 H locs ls hf hP hS hl
    unfold f_X9_takes_36 at hf
    obtain ⟨S_1, eS_1, hf⟩ := bd_inv hf
    refine w_pI (ty := .int) (C := RX9) (T := TX9) hx hb hts n9 tyX9 tyX9_ok nmX9 hown hK hI hP hS t_28 rfl 10 (by decide) L87 rfl rfl rfl ⟨rfl, rfl⟩ dX9_takes_36 (fun H locs hP hS => ?_)
    rw [← eS_1] at hP
    refine lv_iload_n hx hb dX9_takes_39 rfl (lv_at hl 1 rfl) ?_
    refine lv_bipush (v := (40)) hx hb dX9_takes_40 (by decide) ?_
    refine lv_icmp_ne (tgt := 49) hx hb dX9_takes_42 (by decide) (fun b_2 => ?_) (fun b_2 => ?_)
    · have hf := if_f b_2 hf
      refine lv_iconst (v := 0) hx hb dX9_takes_49 (by decide) ?_
      exact w_zret hx hb hr hlocks (fun h => h (by decide)) hP hS (rt_inv hf) dX9_takes_50
    · have hf := if_t b_2 hf
      refine lv_iconst (v := 1) hx hb dX9_takes_45 (by decide) ?_
      refine lv_goto (tgt := 50) hx hb dX9_takes_46 (by decide) ?_
      exact w_zret hx hb hr hlocks (fun h => h (by decide)) hP hS (rt_inv hf) dX9_takes_50
  unfold f_X9_takes at hf
  refine lv_aload_n hx hb dX9_takes_0 rfl (lv_at hl 0 rfl) ?_
  refine w_gI (C := RX9) (T := TX9) hx hb hts n9 hown hK hP t_28 rfl 10 (by decide) L87 rfl dX9_takes_1 ?_
  refine lv_if_ne (tgt := 13) hx hb dX9_takes_4 (by decide) (fun b_3 => ?_) (fun b_3 => ?_)
  · have hf := if_f b_3 hf
    refine lv_aload_n hx hb dX9_takes_13 rfl (lv_at hl 0 rfl) ?_
    refine w_gI (C := RX9) (T := TX9) hx hb hts n9 hown hK hP t_28 rfl 10 (by decide) L87 rfl dX9_takes_14 ?_
    refine lv_iconst (v := 1) hx hb dX9_takes_17 (by decide) ?_
    refine lv_icmp_ne (tgt := 51) hx hb dX9_takes_18 (by decide) (fun b_4 => ?_) (fun b_4 => ?_)
    · have hf := if_f b_4 hf
      refine lv_aload_n hx hb dX9_takes_51 rfl (lv_at hl 0 rfl) ?_
      refine w_gI (C := RX9) (T := TX9) hx hb hts n9 hown hK hP t_28 rfl 10 (by decide) L87 rfl dX9_takes_52 ?_
      refine lv_iconst (v := 2) hx hb dX9_takes_55 (by decide) ?_
      refine lv_icmp_ne (tgt := 67) hx hb dX9_takes_56 (by decide) (fun b_5 => ?_) (fun b_5 => ?_)
      · have hf := if_f b_5 hf
        refine lv_aload_n hx hb dX9_takes_67 rfl (lv_at hl 0 rfl) ?_
        refine lv_iload_n hx hb dX9_takes_68 rfl (lv_at hl 1 rfl) ?_
        obtain ⟨r_6, S_7, hc_8, hf⟩ := bo_inv hf
        refine w_ci (va_runV (As := [.int a1]) (rest := []) ⟨hx, hb, hml, hown, hts⟩ (c_X9_takesFigure l D y ad aL aU hI n S a1 _ _ hc_8) (cwV 1 hts gX9_takes_X9_takesFigure rfl rfl rfl (by decide +kernel) ⟨Nat.le_of_ble_eq_true rfl, Nat.le_of_ble_eq_true rfl⟩) (pwu_V t_28 rfl hP hK hZ hS) rfl rfl hl.1 rfl (lv_room (Nat.le_of_ble_eq_true rfl)) dX9_takes_69 ⟨Nat.zero_le _, Nat.zero_le _⟩) hS (fun H locs hP hS => ?_)
        obtain ⟨g_9, hf⟩ := gd_inv hf
        exact w_zret hx hb hr hlocks g_9 hP hS (rt_inv hf) dX9_takes_72
      · have hf := if_t b_5 hf
        refine lv_aload_n hx hb dX9_takes_59 rfl (lv_at hl 0 rfl) ?_
        refine lv_iload_n hx hb dX9_takes_60 rfl (lv_at hl 1 rfl) ?_
        obtain ⟨r_10, S_11, hc_12, hf⟩ := bo_inv hf
        refine w_ci (va_runV (As := [.int a1]) (rest := []) ⟨hx, hb, hml, hown, hts⟩ (c_X9_takesBehind l D y ad aL aU hI n S a1 _ _ hc_12) (cwV 1 hts gX9_takes_X9_takesBehind rfl rfl rfl (by decide +kernel) ⟨Nat.le_of_ble_eq_true rfl, Nat.le_of_ble_eq_true rfl⟩) (pwu_V t_28 rfl hP hK hZ hS) rfl rfl hl.1 rfl (lv_room (Nat.le_of_ble_eq_true rfl)) dX9_takes_61 ⟨Nat.zero_le _, Nat.zero_le _⟩) hS (fun H locs hP hS => ?_)
        refine lv_goto (tgt := 72) hx hb dX9_takes_64 (by decide) ?_
        obtain ⟨g_13, hf⟩ := gd_inv hf
        exact w_zret hx hb hr hlocks g_13 hP hS (rt_inv hf) dX9_takes_72
    · have hf := if_t b_4 hf
      refine lv_aload_n hx hb dX9_takes_21 rfl (lv_at hl 0 rfl) ?_
      refine lv_iload_n hx hb dX9_takes_22 rfl (lv_at hl 1 rfl) ?_
      refine lv_bipush (v := (40)) hx hb dX9_takes_23 (by decide) ?_
      refine lv_icmp_ne (tgt := 32) hx hb dX9_takes_25 (by decide) (fun b_14 => ?_) (fun b_14 => ?_)
      · have hf := if_f b_14 hf
        refine lv_aload_n hx hb dX9_takes_32 rfl (lv_at hl 0 rfl) ?_
        refine w_gI (C := RX9) (T := TX9) hx hb hts n9 hown hK hP t_28 rfl 10 (by decide) L87 rfl dX9_takes_33 ?_
        exact j36   S a1 ((S.1 28 10)) _ _ _ hf hP hS (lv_sub hl [0, 1] rfl)
      · have hf := if_t b_14 hf
        refine lv_iconst (v := 0) hx hb dX9_takes_28 (by decide) ?_
        refine lv_goto (tgt := 36) hx hb dX9_takes_29 (by decide) ?_
        exact j36   S a1 ((0 : Int32)) _ _ _ hf hP hS (lv_sub hl [0, 1] rfl)
  · have hf := if_t b_3 hf
    refine lv_aload_n hx hb dX9_takes_7 rfl (lv_at hl 0 rfl) ?_
    refine lv_iload_n hx hb dX9_takes_8 rfl (lv_at hl 1 rfl) ?_
    obtain ⟨r_15, S_16, hc_17, hf⟩ := bo_inv hf
    refine w_ci (va_runV (As := [.int a1]) (rest := []) ⟨hx, hb, hml, hown, hts⟩ (c_X9_takesTerm l D y ad aL aU hI n S a1 _ _ hc_17) (cwV 1 hts gX9_takes_X9_takesTerm rfl rfl rfl (by decide +kernel) ⟨Nat.le_of_ble_eq_true rfl, Nat.le_of_ble_eq_true rfl⟩) (pwu_V t_28 rfl hP hK hZ hS) rfl rfl hl.1 rfl (lv_room (Nat.le_of_ble_eq_true rfl)) dX9_takes_9 ⟨Nat.zero_le _, Nat.zero_le _⟩) hS (fun H locs hP hS => ?_)
    obtain ⟨g_18, hf⟩ := gd_inv hf
    exact w_zret hx hb hr hlocks g_18 hP hS (rt_inv hf) dX9_takes_12
set_option maxHeartbeats 4000000 in
set_option maxRecDepth 100000 in
theorem c_X9_goAlong (l : Launch) (D : va_G) (y : y4) (ad : Nat → Nat) (aL aU : Nat) (hI : Inj ad) (n : Nat) (S : St) (r : Int32) (S2 : St) (hf : f_X9_goAlong n S = some (r, S2)) : KI l D y ad aL aU yX9_goAlong wsX9_goAlong ({ frames := 4, cells := 0, slots := 0, locals := 85 }) [.ref (ad 28)] S r S2 := by
  refine Met.ofW (cc := cX9_goAlong) (maxL := 2) (ret := (some .int)) (by decide) rfl ?_
  intro p e s m args below meth c s₁ B hml hv
  obtain ⟨rfl, hP, hK, hZ⟩ := hv
  have hx := B.exec
  have hb := B.bytes
  have hr := B.returns
  have hts := atoms_spec (ws := wsX9_goAlong) B.pre
  have hown : s.vm.findClass RX9 = some m.cls := findClass_of_methodNamed B.named
  have hlocks := B.notSynchronized
  have hS : va_S (AA ad) s.heap s.heap [] := va_S.rf
  have L7 := hts (.fieldLink RX9 7 "JoinedTheoriesModel" "page" "[I") (by decide +kernel)
  have L82 := hts (.fieldLink RX9 82 "JoinedTheoriesModel" "pageLength" "I") (by decide +kernel)
  have L87 := hts (.fieldLink RX9 87 "JoinedTheoriesModel" "waits" "I") (by decide +kernel)
  have L123 := hts (.fieldLink RX9 123 "JoinedTheoriesModel" "sidesEnd" "I") (by decide +kernel)
  have n9 : ∀ w ∈ wsX90, w ∈ wsX9_goAlong := by decide +kernel
  have hl := lv_entry ([.ref (ad 28)]) (n := 2) (Nat.le_of_ble_eq_true rfl)
  rw [lg_entry_eq]
  generalize (lg_sl ([.ref (ad 28)]) ++ List.replicate (2 - (lg_sl ([.ref (ad 28)])).length) Slot.unset).toArray = ls at hl ⊢
  have hl : lv_has ls 2 [(0, .ref (ad 28))] := hl
  have j52 : ∀ (k11 : St → Int32 → Option (Int32 × St)) (hk11 : ∀ (S : St) (x1 : Int32) (H : Heap) (locs : List Loc) (ls : Array Slot), k11 S x1 = some (r, S2) → PW D y ad S H → va_S (AA ad) s.heap H locs → lv_has ls 2 [(0, .ref (ad 28)), (1, .int x1)] → W p l e (headSpec wsX9_goAlong ({ frames := 4, cells := 0, slots := 0, locals := 85 })).room s m ([.ref (ad 28)] : List Value).toArray below meth c H locs 0 0 (QI below r S2 D y ad ([.ref (ad 28)] : List Value).toArray s) (F0 m 11 ls [])), ∀ (S : St) (x1 : Int32) (t1 : Int32) (H : Heap) (locs : List Loc) (ls : Array Slot), f_X9_goAlong_52 n k11 S x1 t1 = some (r, S2) → PW D y ad S H → va_S (AA ad) s.heap H locs → lv_has ls 2 [(0, .ref (ad 28)), (1, .int x1)] → W p l e (headSpec wsX9_goAlong ({ frames := 4, cells := 0, slots := 0, locals := 85 })).room s m ([.ref (ad 28)] : List Value).toArray below meth c H locs 0 0 (QI below r S2 D y ad ([.ref (ad 28)] : List Value).toArray s) (F0 m 52 ls [.int t1, .ref (ad 28)]) := by
    intro  k11 hk11 S x1 t1 H locs ls hf hP hS hl
    unfold f_X9_goAlong_52 at hf
    obtain ⟨S_1, eS_1, hf⟩ := bd_inv hf
    refine w_pI (ty := .int) (C := RX9) (T := TX9) hx hb hts n9 tyX9 tyX9_ok nmX9 hown hK hI hP hS t_28 rfl 17 (by decide) L123 rfl rfl rfl ⟨rfl, rfl⟩ dX9_goAlong_52 (fun H locs hP hS => ?_)
    rw [← eS_1] at hP
    refine lv_goto (tgt := 11) hx hb dX9_goAlong_55 (by decide) ?_
    exact hk11 S_1 x1 _ _ _ hf hP hS (lv_sub hl [0, 1] rfl)
  have b11 : ∀ (k11 : St → Int32 → Option (Int32 × St)) (hk11 : ∀ (S : St) (x1 : Int32) (H : Heap) (locs : List Loc) (ls : Array Slot), k11 S x1 = some (r, S2) → PW D y ad S H → va_S (AA ad) s.heap H locs → lv_has ls 2 [(0, .ref (ad 28)), (1, .int x1)] → W p l e (headSpec wsX9_goAlong ({ frames := 4, cells := 0, slots := 0, locals := 85 })).room s m ([.ref (ad 28)] : List Value).toArray below meth c H locs 0 0 (QI below r S2 D y ad ([.ref (ad 28)] : List Value).toArray s) (F0 m 11 ls [])), ∀ (S : St) (x1 : Int32) (H : Heap) (locs : List Loc) (ls : Array Slot), f_X9_goAlong_11 n k11 S x1 = some (r, S2) → PW D y ad S H → va_S (AA ad) s.heap H locs → lv_has ls 2 [(0, .ref (ad 28)), (1, .int x1)] → W p l e (headSpec wsX9_goAlong ({ frames := 4, cells := 0, slots := 0, locals := 85 })).room s m ([.ref (ad 28)] : List Value).toArray below meth c H locs 0 0 (QI below r S2 D y ad ([.ref (ad 28)] : List Value).toArray s) (F0 m 11 ls []) := by
    intro  k11 hk11 S x1 H locs ls hf hP hS hl
    unfold f_X9_goAlong_11 at hf
    refine lv_iload_n hx hb dX9_goAlong_11 rfl (lv_at hl 1 rfl) ?_
    refine lv_aload_n hx hb dX9_goAlong_12 rfl (lv_at hl 0 rfl) ?_
    refine w_gI (C := RX9) (T := TX9) hx hb hts n9 hown hK hP t_28 rfl 0 (by decide) L82 rfl dX9_goAlong_13 ?_
    refine lv_icmp_ge (tgt := 58) hx hb dX9_goAlong_16 (by decide) (fun b_2 => ?_) (fun b_2 => ?_)
    · have hf := if_t b_2 hf
      refine lv_iload_n hx hb dX9_goAlong_58 rfl (lv_at hl 1 rfl) ?_
      exact w_iret hx hb hr hlocks hP hS (rt_inv hf) dX9_goAlong_59
    · have hf := if_f b_2 hf
      refine lv_aload_n hx hb dX9_goAlong_19 rfl (lv_at hl 0 rfl) ?_
      refine lv_aload_n hx hb dX9_goAlong_20 rfl (lv_at hl 0 rfl) ?_
      refine w_gR (z := 29) (C := RX9) (T := TX9) hx hb hts n9 hown hK hP t_28 rfl 1 (by decide) L7 rfl rfl dX9_goAlong_21 ?_
      refine lv_iload_n hx hb dX9_goAlong_24 rfl (lv_at hl 1 rfl) ?_
      obtain ⟨g_3, hf⟩ := gd_inv hf
      refine w_iald hx hb hK hP t_29 g_3 dX9_goAlong_25 ?_
      obtain ⟨r_4, S_5, hc_6, hf⟩ := bo_inv hf
      refine w_ci (va_runV (As := [.int (S.1 29 (x1).toNatClampNeg)]) (rest := []) ⟨hx, hb, hml, hown, hts⟩ (c_X9_takes l D y ad aL aU hI n S ((S.1 29 (x1).toNatClampNeg)) _ _ hc_6) (cwV 1 hts gX9_goAlong_X9_takes rfl rfl rfl (by decide +kernel) ⟨Nat.le_of_ble_eq_true rfl, Nat.le_of_ble_eq_true rfl⟩) (pwu_V t_28 rfl hP hK hZ hS) rfl rfl hl.1 rfl (lv_room (Nat.le_of_ble_eq_true rfl)) dX9_goAlong_26 ⟨Nat.zero_le _, Nat.zero_le _⟩) hS (fun H locs hP hS => ?_)
      refine lv_if_eq (tgt := 58) hx hb dX9_goAlong_29 (by decide) (fun b_7 => ?_) (fun b_7 => ?_)
      · have hf := if_t b_7 hf
        refine lv_iload_n hx hb dX9_goAlong_58 rfl (lv_at hl 1 rfl) ?_
        exact w_iret hx hb hr hlocks hP hS (rt_inv hf) dX9_goAlong_59
      · have hf := if_f b_7 hf
        obtain ⟨x1_8, ex1_8, hf⟩ := bd_inv hf
        refine lv_iinc (v := x1_8) (lv' := [(1, .int x1_8), (0, .ref (ad 28))]) hx hb dX9_goAlong_32 hl (k := 1) rfl (by rw [ex1_8]; rfl) (by decide) rfl (fun ls hl => ?_)
        refine lv_aload_n hx hb dX9_goAlong_35 rfl (lv_at hl 1 rfl) ?_
        refine lv_aload_n hx hb dX9_goAlong_36 rfl (lv_at hl 1 rfl) ?_
        refine w_gI (C := RX9) (T := TX9) hx hb hts n9 hown hK hP t_28 rfl 10 (by decide) L87 rfl dX9_goAlong_37 ?_
        refine lv_iconst (v := 3) hx hb dX9_goAlong_40 (by decide) ?_
        refine lv_icmp_ne (tgt := 51) hx hb dX9_goAlong_41 (by decide) (fun b_9 => ?_) (fun b_9 => ?_)
        · have hf := if_f b_9 hf
          refine lv_iload_n hx hb dX9_goAlong_51 rfl (lv_at hl 0 rfl) ?_
          exact j52  k11 hk11 S_5 x1_8 x1_8 _ _ _ hf hP hS (lv_sub hl [1, 0] rfl)
        · have hf := if_t b_9 hf
          refine lv_aload_n hx hb dX9_goAlong_44 rfl (lv_at hl 1 rfl) ?_
          refine w_gI (C := RX9) (T := TX9) hx hb hts n9 hown hK hP t_28 rfl 17 (by decide) L123 rfl dX9_goAlong_45 ?_
          refine lv_goto (tgt := 52) hx hb dX9_goAlong_48 (by decide) ?_
          exact j52  k11 hk11 S_5 x1_8 ((S_5.1 28 17)) _ _ _ hf hP hS (lv_sub hl [1, 0] rfl)
  have j11 : ∀ (fu : Nat), ∀ (S : St) (x1 : Int32) (H : Heap) (locs : List Loc) (ls : Array Slot), fixF (fun _ _ => none) (f_X9_goAlong_11 n) fu S x1 = some (r, S2) → PW D y ad S H → va_S (AA ad) s.heap H locs → lv_has ls 2 [(0, .ref (ad 28)), (1, .int x1)] → W p l e (headSpec wsX9_goAlong ({ frames := 4, cells := 0, slots := 0, locals := 85 })).room s m ([.ref (ad 28)] : List Value).toArray below meth c H locs 0 0 (QI below r S2 D y ad ([.ref (ad 28)] : List Value).toArray s) (F0 m 11 ls []) := by
    intro   fu
    induction fu with
    | zero => intro S x1 H locs ls hf hP hS hl; cases hf
    | succ fu ih => exact b11   (fixF (fun _ _ => none) (f_X9_goAlong_11 n) fu) ih
  unfold f_X9_goAlong at hf
  refine lv_aload_n hx hb dX9_goAlong_0 rfl (lv_at hl 0 rfl) ?_
  obtain ⟨r_10, S_11, hc_12, hf⟩ := bo_inv hf
  refine w_cv (va_runV (As := []) (rest := []) ⟨hx, hb, hml, hown, hts⟩ (c_X9_begins l D y ad aL aU hI n S  _ _ hc_12) (cwV 0 hts gX9_goAlong_X9_begins rfl rfl rfl (by decide +kernel) ⟨Nat.le_of_ble_eq_true rfl, Nat.le_of_ble_eq_true rfl⟩) (pwu_V t_28 rfl hP hK hZ hS) rfl rfl hl.1 rfl (lv_room (Nat.le_of_ble_eq_true rfl)) dX9_goAlong_1 ⟨Nat.zero_le _, Nat.zero_le _⟩) hS (fun H locs hP hS => ?_)
  refine lv_iconst (v := 0) hx hb dX9_goAlong_4 (by decide) ?_
  obtain ⟨x1_13, ex1_13, hf⟩ := bd_inv hf
  refine w_topI ex1_13 ?_
  refine lv_istore_n (lv' := [(1, .int x1_13), (0, .ref (ad 28))]) hx hb dX9_goAlong_5 rfl hl (by decide) rfl (fun ls hl => ?_)
  refine lv_aload_n hx hb dX9_goAlong_6 rfl (lv_at hl 1 rfl) ?_
  refine lv_iconst (v := 0) hx hb dX9_goAlong_7 (by decide) ?_
  obtain ⟨S_14, eS_14, hf⟩ := bd_inv hf
  refine w_pI (ty := .int) (C := RX9) (T := TX9) hx hb hts n9 tyX9 tyX9_ok nmX9 hown hK hI hP hS t_28 rfl 17 (by decide) L123 rfl rfl rfl ⟨rfl, rfl⟩ dX9_goAlong_8 (fun H locs hP hS => ?_)
  rw [← eS_14] at hP
  exact j11   n S_14 x1_13 _ _ _ hf hP hS (lv_sub hl [1, 0] rfl)
set_option maxHeartbeats 4000000 in
set_option maxRecDepth 100000 in
theorem c_X9_fault (l : Launch) (D : va_G) (y : y4) (ad : Nat → Nat) (aL aU : Nat) (hI : Inj ad) (n : Nat) (S : St) (r : Int32) (S2 : St) (hf : f_X9_fault n S = some (r, S2)) : KI l D y ad aL aU yX9_fault wsX9_fault ({ frames := 5, cells := 0, slots := 0, locals := 106 }) [.ref (ad 28)] S r S2 := by
  refine Met.ofW (cc := cX9_fault) (maxL := 1) (ret := (some .int)) (by decide) rfl ?_
  intro p e s m args below meth c s₁ B hml hv
  obtain ⟨rfl, hP, hK, hZ⟩ := hv
  have hx := B.exec
  have hb := B.bytes
  have hr := B.returns
  have hts := atoms_spec (ws := wsX9_fault) B.pre
  have hown : s.vm.findClass RX9 = some m.cls := findClass_of_methodNamed B.named
  have hlocks := B.notSynchronized
  have hS : va_S (AA ad) s.heap s.heap [] := va_S.rf
  have hl := lv_entry ([.ref (ad 28)]) (n := 1) (Nat.le_of_ble_eq_true rfl)
  rw [lg_entry_eq]
  generalize (lg_sl ([.ref (ad 28)]) ++ List.replicate (1 - (lg_sl ([.ref (ad 28)])).length) Slot.unset).toArray = ls at hl ⊢
  have hl : lv_has ls 1 [(0, .ref (ad 28))] := hl
  unfold f_X9_fault at hf
  refine lv_aload_n hx hb dX9_fault_0 rfl (lv_at hl 0 rfl) ?_
  obtain ⟨r_1, S_2, hc_3, hf⟩ := bo_inv hf
  refine w_ci (va_runV (As := []) (rest := []) ⟨hx, hb, hml, hown, hts⟩ (c_X9_goAlong l D y ad aL aU hI n S  _ _ hc_3) (cwV 0 hts gX9_fault_X9_goAlong rfl rfl rfl (by decide +kernel) ⟨Nat.le_of_ble_eq_true rfl, Nat.le_of_ble_eq_true rfl⟩) (pwu_V t_28 rfl hP hK hZ hS) rfl rfl hl.1 rfl (lv_room (Nat.le_of_ble_eq_true rfl)) dX9_fault_1 ⟨Nat.zero_le _, Nat.zero_le _⟩) hS (fun H locs hP hS => ?_)
  exact w_iret hx hb hr hlocks hP hS (rt_inv hf) dX9_fault_4
set_option maxHeartbeats 4000000 in
set_option maxRecDepth 100000 in
theorem c_X9_isWhole (l : Launch) (D : va_G) (y : y4) (ad : Nat → Nat) (aL aU : Nat) (hI : Inj ad) (n : Nat) (S : St) (r : Int32) (S2 : St) (hf : f_X9_isWhole n S = some (r, S2)) : KI l D y ad aL aU yX9_isWhole wsX9_isWhole ({ frames := 1, cells := 0, slots := 0, locals := 20 }) [.ref (ad 28)] S r S2 := by
  refine Met.ofW (cc := cX9_isWhole) (maxL := 1) (ret := (some .boolean)) (by decide) rfl ?_
  intro p e s m args below meth c s₁ B hml hv
  obtain ⟨rfl, hP, hK, hZ⟩ := hv
  have hx := B.exec
  have hb := B.bytes
  have hr := B.returns
  have hts := atoms_spec (ws := wsX9_isWhole) B.pre
  have hown : s.vm.findClass RX9 = some m.cls := findClass_of_methodNamed B.named
  have hlocks := B.notSynchronized
  have hS : va_S (AA ad) s.heap s.heap [] := va_S.rf
  have L87 := hts (.fieldLink RX9 87 "JoinedTheoriesModel" "waits" "I") (by decide +kernel)
  have L90 := hts (.fieldLink RX9 90 "JoinedTheoriesModel" "openMany" "I") (by decide +kernel)
  have L93 := hts (.fieldLink RX9 93 "JoinedTheoriesModel" "isRight" "Z") (by decide +kernel)
  have L100 := hts (.fieldLink RX9 100 "JoinedTheoriesModel" "number" "I") (by decide +kernel)
  have n9 : ∀ w ∈ wsX90, w ∈ wsX9_isWhole := by decide +kernel
  have hl := lv_entry ([.ref (ad 28)]) (n := 1) (Nat.le_of_ble_eq_true rfl)
  rw [lg_entry_eq]
  generalize (lg_sl ([.ref (ad 28)]) ++ List.replicate (1 - (lg_sl ([.ref (ad 28)])).length) Slot.unset).toArray = ls at hl ⊢
  have hl : lv_has ls 1 [(0, .ref (ad 28))] := hl
  have j37 : ∀ (S : St) (H : Heap) (locs : List Loc) (ls : Array Slot), f_X9_isWhole_37 n S = some (r, S2) → PW D y ad S H → va_S (AA ad) s.heap H locs → lv_has ls 1 [(0, .ref (ad 28))] → W p l e (headSpec wsX9_isWhole ({ frames := 1, cells := 0, slots := 0, locals := 20 })).room s m ([.ref (ad 28)] : List Value).toArray below meth c H locs 0 0 (QI below r S2 D y ad ([.ref (ad 28)] : List Value).toArray s) (F0 m 37 ls []) := by
    intro  S H locs ls hf hP hS hl
    unfold f_X9_isWhole_37 at hf
    refine lv_iconst (v := 1) hx hb dX9_isWhole_37 (by decide) ?_
    refine lv_goto (tgt := 42) hx hb dX9_isWhole_38 (by decide) ?_
    exact w_zret hx hb hr hlocks (fun h => h (by decide)) hP hS (rt_inv hf) dX9_isWhole_42
  unfold f_X9_isWhole at hf
  refine lv_aload_n hx hb dX9_isWhole_0 rfl (lv_at hl 0 rfl) ?_
  refine w_gI (C := RX9) (T := TX9) hx hb hts n9 hown hK hP t_28 rfl 13 (by decide) L93 rfl dX9_isWhole_1 ?_
  refine lv_if_eq (tgt := 41) hx hb dX9_isWhole_4 (by decide) (fun b_1 => ?_) (fun b_1 => ?_)
  · have hf := if_t b_1 hf
    refine lv_iconst (v := 0) hx hb dX9_isWhole_41 (by decide) ?_
    exact w_zret hx hb hr hlocks (fun h => h (by decide)) hP hS (rt_inv hf) dX9_isWhole_42
  · have hf := if_f b_1 hf
    refine lv_aload_n hx hb dX9_isWhole_7 rfl (lv_at hl 0 rfl) ?_
    refine w_gI (C := RX9) (T := TX9) hx hb hts n9 hown hK hP t_28 rfl 11 (by decide) L90 rfl dX9_isWhole_8 ?_
    refine lv_if_ne (tgt := 41) hx hb dX9_isWhole_11 (by decide) (fun b_2 => ?_) (fun b_2 => ?_)
    · have hf := if_f b_2 hf
      refine lv_iconst (v := 0) hx hb dX9_isWhole_41 (by decide) ?_
      exact w_zret hx hb hr hlocks (fun h => h (by decide)) hP hS (rt_inv hf) dX9_isWhole_42
    · have hf := if_t b_2 hf
      refine lv_aload_n hx hb dX9_isWhole_14 rfl (lv_at hl 0 rfl) ?_
      refine w_gI (C := RX9) (T := TX9) hx hb hts n9 hown hK hP t_28 rfl 10 (by decide) L87 rfl dX9_isWhole_15 ?_
      refine lv_iconst (v := 2) hx hb dX9_isWhole_18 (by decide) ?_
      refine lv_icmp_eq (tgt := 37) hx hb dX9_isWhole_19 (by decide) (fun b_3 => ?_) (fun b_3 => ?_)
      · have hf := if_t b_3 hf
        exact j37   S  _ _ _ hf hP hS (lv_sub hl [0] rfl)
      · have hf := if_f b_3 hf
        refine lv_aload_n hx hb dX9_isWhole_22 rfl (lv_at hl 0 rfl) ?_
        refine w_gI (C := RX9) (T := TX9) hx hb hts n9 hown hK hP t_28 rfl 10 (by decide) L87 rfl dX9_isWhole_23 ?_
        refine lv_iconst (v := 3) hx hb dX9_isWhole_26 (by decide) ?_
        refine lv_icmp_ne (tgt := 41) hx hb dX9_isWhole_27 (by decide) (fun b_4 => ?_) (fun b_4 => ?_)
        · have hf := if_f b_4 hf
          refine lv_iconst (v := 0) hx hb dX9_isWhole_41 (by decide) ?_
          exact w_zret hx hb hr hlocks (fun h => h (by decide)) hP hS (rt_inv hf) dX9_isWhole_42
        · have hf := if_t b_4 hf
          refine lv_aload_n hx hb dX9_isWhole_30 rfl (lv_at hl 0 rfl) ?_
          refine w_gI (C := RX9) (T := TX9) hx hb hts n9 hown hK hP t_28 rfl 15 (by decide) L100 rfl dX9_isWhole_31 ?_
          refine lv_if_le (tgt := 41) hx hb dX9_isWhole_34 (by decide) (fun b_5 => ?_) (fun b_5 => ?_)
          · have hf := if_t b_5 hf
            refine lv_iconst (v := 0) hx hb dX9_isWhole_41 (by decide) ?_
            exact w_zret hx hb hr hlocks (fun h => h (by decide)) hP hS (rt_inv hf) dX9_isWhole_42
          · have hf := if_f b_5 hf
            exact j37   S  _ _ _ hf hP hS (lv_sub hl [0] rfl)
set_option maxHeartbeats 4000000 in
set_option maxRecDepth 100000 in
theorem c_X9_add (l : Launch) (D : va_G) (y : y4) (ad : Nat → Nat) (aL aU : Nat) (hI : Inj ad) (n : Nat) (S : St) (r : Int32) (S2 : St) (hf : f_X9_add n S = some (r, S2)) : KI l D y ad aL aU yX9_add wsX9_add ({ frames := 5, cells := 0, slots := 0, locals := 106 }) [.ref (ad 28)] S r S2 := by
  refine Met.ofW (cc := cX9_add) (maxL := 2) (ret := (some .int)) (by decide) rfl ?_
  intro p e s m args below meth c s₁ B hml hv
  obtain ⟨rfl, hP, hK, hZ⟩ := hv
  have hx := B.exec
  have hb := B.bytes
  have hr := B.returns
  have hts := atoms_spec (ws := wsX9_add) B.pre
  have hown : s.vm.findClass RX9 = some m.cls := findClass_of_methodNamed B.named
  have hlocks := B.notSynchronized
  have hS : va_S (AA ad) s.heap s.heap [] := va_S.rf
  have L7 := hts (.fieldLink RX9 7 "JoinedTheoriesModel" "page" "[I") (by decide +kernel)
  have L13 := hts (.fieldLink RX9 13 "JoinedTheoriesModel" "texts" "[I") (by decide +kernel)
  have L16 := hts (.fieldLink RX9 16 "JoinedTheoriesModel" "textLength" "[I") (by decide +kernel)
  have L19 := hts (.fieldLink RX9 19 "JoinedTheoriesModel" "sortOf" "[I") (by decide +kernel)
  have L22 := hts (.fieldLink RX9 22 "JoinedTheoriesModel" "boundOf" "[I") (by decide +kernel)
  have L82 := hts (.fieldLink RX9 82 "JoinedTheoriesModel" "pageLength" "I") (by decide +kernel)
  have L97 := hts (.fieldLink RX9 97 "JoinedTheoriesModel" "sign" "I") (by decide +kernel)
  have L100 := hts (.fieldLink RX9 100 "JoinedTheoriesModel" "number" "I") (by decide +kernel)
  have L103 := hts (.fieldLink RX9 103 "JoinedTheoriesModel" "isBelow" "Z") (by decide +kernel)
  have L123 := hts (.fieldLink RX9 123 "JoinedTheoriesModel" "sidesEnd" "I") (by decide +kernel)
  have L133 := hts (.fieldLink RX9 133 "JoinedTheoriesModel" "terms" "I") (by decide +kernel)
  have L141 := hts (.fieldLink RX9 141 "JoinedTheoriesModel" "literals" "I") (by decide +kernel)
  have L153 := hts (.fieldLink RX9 153 "JoinedTheoriesModel" "cameEver" "I") (by decide +kernel)
  have K86 := hts (.constant RX9 86 (-2000000005)) (by decide +kernel)
  have K152 := hts (.constant RX9 152 (-2000000004)) (by decide +kernel)
  have n9 : ∀ w ∈ wsX90, w ∈ wsX9_add := by decide +kernel
  have hl := lv_entry ([.ref (ad 28)]) (n := 2) (Nat.le_of_ble_eq_true rfl)
  rw [lg_entry_eq]
  generalize (lg_sl ([.ref (ad 28)]) ++ List.replicate (2 - (lg_sl ([.ref (ad 28)])).length) Slot.unset).toArray = ls at hl ⊢
  have hl : lv_has ls 2 [(0, .ref (ad 28))] := hl
  have j169 : ∀ (S : St) (t1 : Int32) (t2 : Int32) (H : Heap) (locs : List Loc) (ls : Array Slot), f_X9_add_169 n S t1 t2 = some (r, S2) → PW D y ad S H → va_S (AA ad) s.heap H locs → lv_has ls 2 [(0, .ref (ad 28))] → W p l e (headSpec wsX9_add ({ frames := 5, cells := 0, slots := 0, locals := 106 })).room s m ([.ref (ad 28)] : List Value).toArray below meth c H locs 0 0 (QI below r S2 D y ad ([.ref (ad 28)] : List Value).toArray s) (F0 m 169 ls [.int t2, .int t1, .ref (ad 33)]) := by
    intro  S t1 t2 H locs ls hf hP hS hl
    unfold f_X9_add_169 at hf
    obtain ⟨g_1, hf⟩ := gd_inv hf
    obtain ⟨S_2, eS_2, hf⟩ := bd_inv hf
    refine w_iast hx hb hK hI hP hS t_33 g_1 dX9_add_169 (fun H locs hP hS => ?_)
    rw [← eS_2] at hP
    refine lv_aload_n hx hb dX9_add_170 rfl (lv_at hl 0 rfl) ?_
    refine lv_dup hx hb dX9_add_171 rfl ?_
    refine w_gI (C := RX9) (T := TX9) hx hb hts n9 hown hK hP t_28 rfl 2 (by decide) L141 rfl dX9_add_172 ?_
    refine lv_iconst (v := 1) hx hb dX9_add_175 (by decide) ?_
    refine lv_iadd hx hb dX9_add_176 ?_
    obtain ⟨S_3, eS_3, hf⟩ := bd_inv hf
    refine w_pI (ty := .int) (C := RX9) (T := TX9) hx hb hts n9 tyX9 tyX9_ok nmX9 hown hK hI hP hS t_28 rfl 2 (by decide) L141 rfl rfl rfl ⟨rfl, rfl⟩ dX9_add_177 (fun H locs hP hS => ?_)
    rw [← eS_3] at hP
    refine lv_aload_n hx hb dX9_add_180 rfl (lv_at hl 0 rfl) ?_
    refine lv_dup hx hb dX9_add_181 rfl ?_
    refine w_gI (C := RX9) (T := TX9) hx hb hts n9 hown hK hP t_28 rfl 7 (by decide) L153 rfl dX9_add_182 ?_
    refine lv_iconst (v := 1) hx hb dX9_add_185 (by decide) ?_
    refine lv_iadd hx hb dX9_add_186 ?_
    obtain ⟨S_4, eS_4, hf⟩ := bd_inv hf
    refine w_pI (ty := .int) (C := RX9) (T := TX9) hx hb hts n9 tyX9 tyX9_ok nmX9 hown hK hI hP hS t_28 rfl 7 (by decide) L153 rfl rfl rfl ⟨rfl, rfl⟩ dX9_add_187 (fun H locs hP hS => ?_)
    rw [← eS_4] at hP
    refine lv_aload_n hx hb dX9_add_190 rfl (lv_at hl 0 rfl) ?_
    refine lv_iconst (v := 0) hx hb dX9_add_191 (by decide) ?_
    obtain ⟨S_5, eS_5, hf⟩ := bd_inv hf
    refine w_pI (ty := .int) (C := RX9) (T := TX9) hx hb hts n9 tyX9 tyX9_ok nmX9 hown hK hI hP hS t_28 rfl 0 (by decide) L82 rfl rfl rfl ⟨rfl, rfl⟩ dX9_add_192 (fun H locs hP hS => ?_)
    rw [← eS_5] at hP
    refine lv_aload_n hx hb dX9_add_195 rfl (lv_at hl 0 rfl) ?_
    refine w_gI (C := RX9) (T := TX9) hx hb hts n9 hown hK hP t_28 rfl 2 (by decide) L141 rfl dX9_add_196 ?_
    refine lv_iconst (v := 1) hx hb dX9_add_199 (by decide) ?_
    refine lv_isub hx hb dX9_add_200 ?_
    exact w_iret hx hb hr hlocks hP hS (rt_inv hf) dX9_add_201
  have j141 : ∀ (S : St) (t1 : Int32) (t2 : Int32) (H : Heap) (locs : List Loc) (ls : Array Slot), f_X9_add_141 n S t1 t2 = some (r, S2) → PW D y ad S H → va_S (AA ad) s.heap H locs → lv_has ls 2 [(0, .ref (ad 28))] → W p l e (headSpec wsX9_add ({ frames := 5, cells := 0, slots := 0, locals := 106 })).room s m ([.ref (ad 28)] : List Value).toArray below meth c H locs 0 0 (QI below r S2 D y ad ([.ref (ad 28)] : List Value).toArray s) (F0 m 141 ls [.int t2, .int t1, .ref (ad 32)]) := by
    intro  S t1 t2 H locs ls hf hP hS hl
    unfold f_X9_add_141 at hf
    obtain ⟨g_6, hf⟩ := gd_inv hf
    obtain ⟨S_7, eS_7, hf⟩ := bd_inv hf
    refine w_iast hx hb hK hI hP hS t_32 g_6 dX9_add_141 (fun H locs hP hS => ?_)
    rw [← eS_7] at hP
    refine lv_aload_n hx hb dX9_add_142 rfl (lv_at hl 0 rfl) ?_
    refine w_gR (z := 33) (C := RX9) (T := TX9) hx hb hts n9 hown hK hP t_28 rfl 6 (by decide) L22 rfl rfl dX9_add_143 ?_
    refine lv_aload_n hx hb dX9_add_146 rfl (lv_at hl 0 rfl) ?_
    refine w_gI (C := RX9) (T := TX9) hx hb hts n9 hown hK hP t_28 rfl 2 (by decide) L141 rfl dX9_add_147 ?_
    refine lv_aload_n hx hb dX9_add_150 rfl (lv_at hl 0 rfl) ?_
    refine w_gI (C := RX9) (T := TX9) hx hb hts n9 hown hK hP t_28 rfl 16 (by decide) L103 rfl dX9_add_151 ?_
    refine lv_if_eq (tgt := 165) hx hb dX9_add_154 (by decide) (fun b_8 => ?_) (fun b_8 => ?_)
    · have hf := if_t b_8 hf
      refine lv_aload_n hx hb dX9_add_165 rfl (lv_at hl 0 rfl) ?_
      refine w_gI (C := RX9) (T := TX9) hx hb hts n9 hown hK hP t_28 rfl 15 (by decide) L100 rfl dX9_add_166 ?_
      exact j169   S_7 ((S_7.1 28 2)) ((S_7.1 28 15)) _ _ _ hf hP hS (lv_sub hl [0] rfl)
    · have hf := if_f b_8 hf
      refine lv_aload_n hx hb dX9_add_157 rfl (lv_at hl 0 rfl) ?_
      refine w_gI (C := RX9) (T := TX9) hx hb hts n9 hown hK hP t_28 rfl 15 (by decide) L100 rfl dX9_add_158 ?_
      refine lv_ineg hx hb dX9_add_161 ?_
      refine lv_goto (tgt := 169) hx hb dX9_add_162 (by decide) ?_
      exact j169   S_7 ((S_7.1 28 2)) ((-(S_7.1 28 15))) _ _ _ hf hP hS (lv_sub hl [0] rfl)
  have b35 : ∀ (k35 : St → Int32 → Option (Int32 × St)) (hk35 : ∀ (S : St) (x1 : Int32) (H : Heap) (locs : List Loc) (ls : Array Slot), k35 S x1 = some (r, S2) → PW D y ad S H → va_S (AA ad) s.heap H locs → lv_has ls 2 [(0, .ref (ad 28)), (1, .int x1)] → W p l e (headSpec wsX9_add ({ frames := 5, cells := 0, slots := 0, locals := 106 })).room s m ([.ref (ad 28)] : List Value).toArray below meth c H locs 0 0 (QI below r S2 D y ad ([.ref (ad 28)] : List Value).toArray s) (F0 m 35 ls [])), ∀ (S : St) (x1 : Int32) (H : Heap) (locs : List Loc) (ls : Array Slot), f_X9_add_35 n k35 S x1 = some (r, S2) → PW D y ad S H → va_S (AA ad) s.heap H locs → lv_has ls 2 [(0, .ref (ad 28)), (1, .int x1)] → W p l e (headSpec wsX9_add ({ frames := 5, cells := 0, slots := 0, locals := 106 })).room s m ([.ref (ad 28)] : List Value).toArray below meth c H locs 0 0 (QI below r S2 D y ad ([.ref (ad 28)] : List Value).toArray s) (F0 m 35 ls []) := by
    intro  k35 hk35 S x1 H locs ls hf hP hS hl
    unfold f_X9_add_35 at hf
    refine lv_iload_n hx hb dX9_add_35 rfl (lv_at hl 1 rfl) ?_
    refine lv_aload_n hx hb dX9_add_36 rfl (lv_at hl 0 rfl) ?_
    refine w_gI (C := RX9) (T := TX9) hx hb hts n9 hown hK hP t_28 rfl 17 (by decide) L123 rfl dX9_add_37 ?_
    refine lv_icmp_ge (tgt := 69) hx hb dX9_add_40 (by decide) (fun b_9 => ?_) (fun b_9 => ?_)
    · have hf := if_t b_9 hf
      refine lv_aload_n hx hb dX9_add_69 rfl (lv_at hl 0 rfl) ?_
      refine w_gR (z := 31) (C := RX9) (T := TX9) hx hb hts n9 hown hK hP t_28 rfl 4 (by decide) L16 rfl rfl dX9_add_70 ?_
      refine lv_aload_n hx hb dX9_add_73 rfl (lv_at hl 0 rfl) ?_
      refine w_gI (C := RX9) (T := TX9) hx hb hts n9 hown hK hP t_28 rfl 2 (by decide) L141 rfl dX9_add_74 ?_
      refine lv_aload_n hx hb dX9_add_77 rfl (lv_at hl 0 rfl) ?_
      refine w_gI (C := RX9) (T := TX9) hx hb hts n9 hown hK hP t_28 rfl 17 (by decide) L123 rfl dX9_add_78 ?_
      obtain ⟨g_10, hf⟩ := gd_inv hf
      obtain ⟨S_11, eS_11, hf⟩ := bd_inv hf
      refine w_iast hx hb hK hI hP hS t_31 g_10 dX9_add_81 (fun H locs hP hS => ?_)
      rw [← eS_11] at hP
      refine lv_aload_n hx hb dX9_add_82 rfl (lv_at hl 0 rfl) ?_
      refine lv_aload_n hx hb dX9_add_83 rfl (lv_at hl 0 rfl) ?_
      refine w_gI (C := RX9) (T := TX9) hx hb hts n9 hown hK hP t_28 rfl 2 (by decide) L141 rfl dX9_add_84 ?_
      obtain ⟨r_12, S_13, hc_14, hf⟩ := bo_inv hf
      refine w_cv (va_runV (As := [.int (S_11.1 28 2)]) (rest := []) ⟨hx, hb, hml, hown, hts⟩ (c_X9_layLiteral l D y ad aL aU hI n S_11 (S_11.1 28 2) _ _ hc_14) (cwV 1 hts gX9_add_X9_layLiteral rfl rfl rfl (by decide +kernel) ⟨Nat.le_of_ble_eq_true rfl, Nat.le_of_ble_eq_true rfl⟩) (pwu_V t_28 rfl hP hK hZ hS) rfl rfl hl.1 rfl (lv_room (Nat.le_of_ble_eq_true rfl)) dX9_add_87 ⟨Nat.zero_le _, Nat.zero_le _⟩) hS (fun H locs hP hS => ?_)
      refine lv_aload_n hx hb dX9_add_90 rfl (lv_at hl 0 rfl) ?_
      refine w_gI (C := RX9) (T := TX9) hx hb hts n9 hown hK hP t_28 rfl 18 (by decide) L133 rfl dX9_add_91 ?_
      refine lv_bipush (v := (10)) hx hb dX9_add_94 (by decide) ?_
      refine lv_icmp_le (tgt := 106) hx hb dX9_add_96 (by decide) (fun b_15 => ?_) (fun b_15 => ?_)
      · have hf := if_t b_15 hf
        refine lv_aload_n hx hb dX9_add_106 rfl (lv_at hl 0 rfl) ?_
        refine w_gR (z := 32) (C := RX9) (T := TX9) hx hb hts n9 hown hK hP t_28 rfl 5 (by decide) L19 rfl rfl dX9_add_107 ?_
        refine lv_aload_n hx hb dX9_add_110 rfl (lv_at hl 0 rfl) ?_
        refine w_gI (C := RX9) (T := TX9) hx hb hts n9 hown hK hP t_28 rfl 2 (by decide) L141 rfl dX9_add_111 ?_
        refine lv_aload_n hx hb dX9_add_114 rfl (lv_at hl 0 rfl) ?_
        refine w_gI (C := RX9) (T := TX9) hx hb hts n9 hown hK hP t_28 rfl 14 (by decide) L97 rfl dX9_add_115 ?_
        refine lv_bipush (v := (61)) hx hb dX9_add_118 (by decide) ?_
        refine lv_icmp_ne (tgt := 127) hx hb dX9_add_120 (by decide) (fun b_16 => ?_) (fun b_16 => ?_)
        · have hf := if_f b_16 hf
          refine lv_aload_n hx hb dX9_add_127 rfl (lv_at hl 0 rfl) ?_
          refine w_gI (C := RX9) (T := TX9) hx hb hts n9 hown hK hP t_28 rfl 14 (by decide) L97 rfl dX9_add_128 ?_
          refine lv_bipush (v := (35)) hx hb dX9_add_131 (by decide) ?_
          refine lv_icmp_ne (tgt := 140) hx hb dX9_add_133 (by decide) (fun b_17 => ?_) (fun b_17 => ?_)
          · have hf := if_f b_17 hf
            refine lv_iconst (v := 2) hx hb dX9_add_140 (by decide) ?_
            exact j141   S_13 ((S_13.1 28 2)) ((2 : Int32)) _ _ _ hf hP hS (lv_sub hl [0] rfl)
          · have hf := if_t b_17 hf
            refine lv_iconst (v := 1) hx hb dX9_add_136 (by decide) ?_
            refine lv_goto (tgt := 141) hx hb dX9_add_137 (by decide) ?_
            exact j141   S_13 ((S_13.1 28 2)) ((1 : Int32)) _ _ _ hf hP hS (lv_sub hl [0] rfl)
        · have hf := if_t b_16 hf
          refine lv_iconst (v := 0) hx hb dX9_add_123 (by decide) ?_
          refine lv_goto (tgt := 141) hx hb dX9_add_124 (by decide) ?_
          exact j141   S_13 ((S_13.1 28 2)) ((0 : Int32)) _ _ _ hf hP hS (lv_sub hl [0] rfl)
      · have hf := if_f b_15 hf
        refine lv_aload_n hx hb dX9_add_99 rfl (lv_at hl 0 rfl) ?_
        obtain ⟨r_18, S_19, hc_20, hf⟩ := bo_inv hf
        refine w_cv (va_runV (As := []) (rest := []) ⟨hx, hb, hml, hown, hts⟩ (c_X9_layTerms l D y ad aL aU hI n S_13  _ _ hc_20) (cwV 0 hts gX9_add_X9_layTerms rfl rfl rfl (by decide +kernel) ⟨Nat.le_of_ble_eq_true rfl, Nat.le_of_ble_eq_true rfl⟩) (pwu_V t_28 rfl hP hK hZ hS) rfl rfl hl.1 rfl (lv_room (Nat.le_of_ble_eq_true rfl)) dX9_add_100 ⟨Nat.zero_le _, Nat.zero_le _⟩) hS (fun H locs hP hS => ?_)
        refine lv_ldc (v := (-2000000005)) hx hb hown K86 dX9_add_103 ?_
        exact w_iret hx hb hr hlocks hP hS (rt_inv hf) dX9_add_105
    · have hf := if_f b_9 hf
      refine lv_aload_n hx hb dX9_add_43 rfl (lv_at hl 0 rfl) ?_
      refine w_gR (z := 30) (C := RX9) (T := TX9) hx hb hts n9 hown hK hP t_28 rfl 3 (by decide) L13 rfl rfl dX9_add_44 ?_
      refine lv_bipush (v := (40)) hx hb dX9_add_47 (by decide) ?_
      refine lv_aload_n hx hb dX9_add_49 rfl (lv_at hl 0 rfl) ?_
      refine w_gI (C := RX9) (T := TX9) hx hb hts n9 hown hK hP t_28 rfl 2 (by decide) L141 rfl dX9_add_50 ?_
      refine lv_imul hx hb dX9_add_53 ?_
      refine lv_iload_n hx hb dX9_add_54 rfl (lv_at hl 1 rfl) ?_
      refine lv_iadd hx hb dX9_add_55 ?_
      refine lv_aload_n hx hb dX9_add_56 rfl (lv_at hl 0 rfl) ?_
      refine w_gR (z := 29) (C := RX9) (T := TX9) hx hb hts n9 hown hK hP t_28 rfl 1 (by decide) L7 rfl rfl dX9_add_57 ?_
      refine lv_iload_n hx hb dX9_add_60 rfl (lv_at hl 1 rfl) ?_
      obtain ⟨g_21, hf⟩ := gd_inv hf
      refine w_iald hx hb hK hP t_29 g_21 dX9_add_61 ?_
      obtain ⟨g_22, hf⟩ := gd_inv hf
      obtain ⟨S_23, eS_23, hf⟩ := bd_inv hf
      refine w_iast hx hb hK hI hP hS t_30 g_22 dX9_add_62 (fun H locs hP hS => ?_)
      rw [← eS_23] at hP
      obtain ⟨x1_24, ex1_24, hf⟩ := bd_inv hf
      refine lv_iinc (v := x1_24) (lv' := [(1, .int x1_24), (0, .ref (ad 28))]) hx hb dX9_add_63 hl (k := 1) rfl (by rw [ex1_24]; rfl) (by decide) rfl (fun ls hl => ?_)
      refine lv_goto (tgt := 35) hx hb dX9_add_66 (by decide) ?_
      exact hk35 S_23 x1_24 _ _ _ hf hP hS (lv_sub hl [1, 0] rfl)
  have j35 : ∀ (fu : Nat), ∀ (S : St) (x1 : Int32) (H : Heap) (locs : List Loc) (ls : Array Slot), fixF (fun _ _ => none) (f_X9_add_35 n) fu S x1 = some (r, S2) → PW D y ad S H → va_S (AA ad) s.heap H locs → lv_has ls 2 [(0, .ref (ad 28)), (1, .int x1)] → W p l e (headSpec wsX9_add ({ frames := 5, cells := 0, slots := 0, locals := 106 })).room s m ([.ref (ad 28)] : List Value).toArray below meth c H locs 0 0 (QI below r S2 D y ad ([.ref (ad 28)] : List Value).toArray s) (F0 m 35 ls []) := by
    intro   fu
    induction fu with
    | zero => intro S x1 H locs ls hf hP hS hl; cases hf
    | succ fu ih => exact b35   (fixF (fun _ _ => none) (f_X9_add_35 n) fu) ih
  unfold f_X9_add at hf
  refine lv_aload_n hx hb dX9_add_0 rfl (lv_at hl 0 rfl) ?_
  obtain ⟨r_25, S_26, hc_27, hf⟩ := bo_inv hf
  refine w_ci (va_runV (As := []) (rest := []) ⟨hx, hb, hml, hown, hts⟩ (c_X9_goAlong l D y ad aL aU hI n S  _ _ hc_27) (cwV 0 hts gX9_add_X9_goAlong rfl rfl rfl (by decide +kernel) ⟨Nat.le_of_ble_eq_true rfl, Nat.le_of_ble_eq_true rfl⟩) (pwu_V t_28 rfl hP hK hZ hS) rfl rfl hl.1 rfl (lv_room (Nat.le_of_ble_eq_true rfl)) dX9_add_1 ⟨Nat.zero_le _, Nat.zero_le _⟩) hS (fun H locs hP hS => ?_)
  refine lv_aload_n hx hb dX9_add_4 rfl (lv_at hl 0 rfl) ?_
  refine w_gI (C := RX9) (T := TX9) hx hb hts n9 hown hK hP t_28 rfl 0 (by decide) L82 rfl dX9_add_5 ?_
  refine lv_icmp_lt (tgt := 18) hx hb dX9_add_8 (by decide) (fun b_28 => ?_) (fun b_28 => ?_)
  · have hf := if_t b_28 hf
    refine lv_ldc (v := (-2000000004)) hx hb hown K152 dX9_add_18 ?_
    exact w_iret hx hb hr hlocks hP hS (rt_inv hf) dX9_add_20
  · have hf := if_f b_28 hf
    refine lv_aload_n hx hb dX9_add_11 rfl (lv_at hl 0 rfl) ?_
    obtain ⟨r_29, S_30, hc_31, hf⟩ := bo_inv hf
    refine w_ci (va_runV (As := []) (rest := []) ⟨hx, hb, hml, hown, hts⟩ (c_X9_isWhole l D y ad aL aU hI n S_26  _ _ hc_31) (cwV 0 hts gX9_add_X9_isWhole rfl rfl rfl (by decide +kernel) ⟨Nat.le_of_ble_eq_true rfl, Nat.le_of_ble_eq_true rfl⟩) (pwu_V t_28 rfl hP hK hZ hS) rfl rfl hl.1 rfl (lv_room (Nat.le_of_ble_eq_true rfl)) dX9_add_12 ⟨Nat.zero_le _, Nat.zero_le _⟩) hS (fun H locs hP hS => ?_)
    refine lv_if_ne (tgt := 21) hx hb dX9_add_15 (by decide) (fun b_32 => ?_) (fun b_32 => ?_)
    · have hf := if_f b_32 hf
      refine lv_aload_n hx hb dX9_add_21 rfl (lv_at hl 0 rfl) ?_
      refine w_gI (C := RX9) (T := TX9) hx hb hts n9 hown hK hP t_28 rfl 2 (by decide) L141 rfl dX9_add_22 ?_
      refine lv_bipush (v := (10)) hx hb dX9_add_25 (by decide) ?_
      refine lv_icmp_ne (tgt := 33) hx hb dX9_add_27 (by decide) (fun b_33 => ?_) (fun b_33 => ?_)
      · have hf := if_f b_33 hf
        refine lv_iconst (v := 0) hx hb dX9_add_33 (by decide) ?_
        obtain ⟨x1_34, ex1_34, hf⟩ := bd_inv hf
        refine w_topI ex1_34 ?_
        refine lv_istore_n (lv' := [(1, .int x1_34), (0, .ref (ad 28))]) hx hb dX9_add_34 rfl hl (by decide) rfl (fun ls hl => ?_)
        exact j35   n S_30 x1_34 _ _ _ hf hP hS (lv_sub hl [1, 0] rfl)
      · have hf := if_t b_33 hf
        refine lv_ldc (v := (-2000000005)) hx hb hown K86 dX9_add_30 ?_
        exact w_iret hx hb hr hlocks hP hS (rt_inv hf) dX9_add_32
    · have hf := if_t b_32 hf
      refine lv_ldc (v := (-2000000004)) hx hb hown K152 dX9_add_18 ?_
      exact w_iret hx hb hr hlocks hP hS (rt_inv hf) dX9_add_20
set_option maxHeartbeats 4000000 in
set_option maxRecDepth 100000 in
theorem c_X9_isLiteral (l : Launch) (D : va_G) (y : y4) (ad : Nat → Nat) (aL aU : Nat) (hI : Inj ad) (n : Nat) (S : St) (a1 : Int32) (r : Int32) (S2 : St) (hf : f_X9_isLiteral n S a1 = some (r, S2)) : KI l D y ad aL aU yX9_isLiteral wsX9_isLiteral ({ frames := 2, cells := 0, slots := 0, locals := 42 }) [.ref (ad 28), .int a1] S r S2 := by
  refine Met.ofW (cc := cX9_isLiteral) (maxL := 2) (ret := (some .boolean)) (by decide) rfl ?_
  intro p e s m args below meth c s₁ B hml hv
  obtain ⟨rfl, hP, hK, hZ⟩ := hv
  have hx := B.exec
  have hb := B.bytes
  have hr := B.returns
  have hts := atoms_spec (ws := wsX9_isLiteral) B.pre
  have hown : s.vm.findClass RX9 = some m.cls := findClass_of_methodNamed B.named
  have hlocks := B.notSynchronized
  have hS : va_S (AA ad) s.heap s.heap [] := va_S.rf
  have L141 := hts (.fieldLink RX9 141 "JoinedTheoriesModel" "literals" "I") (by decide +kernel)
  have n9 : ∀ w ∈ wsX90, w ∈ wsX9_isLiteral := by decide +kernel
  have hl := lv_entry ([.ref (ad 28), .int a1]) (n := 2) (Nat.le_of_ble_eq_true rfl)
  rw [lg_entry_eq]
  generalize (lg_sl ([.ref (ad 28), .int a1]) ++ List.replicate (2 - (lg_sl ([.ref (ad 28), .int a1])).length) Slot.unset).toArray = ls at hl ⊢
  have hl : lv_has ls 2 [(0, .ref (ad 28)), (1, .int a1)] := hl
  unfold f_X9_isLiteral at hf
  refine lv_iload_n hx hb dX9_isLiteral_0 rfl (lv_at hl 1 rfl) ?_
  refine lv_iconst (v := 0) hx hb dX9_isLiteral_1 (by decide) ?_
  refine lv_aload_n hx hb dX9_isLiteral_2 rfl (lv_at hl 0 rfl) ?_
  refine w_gI (C := RX9) (T := TX9) hx hb hts n9 hown hK hP t_28 rfl 2 (by decide) L141 rfl dX9_isLiteral_3 ?_
  refine lv_iconst (v := 1) hx hb dX9_isLiteral_6 (by decide) ?_
  refine lv_isub hx hb dX9_isLiteral_7 ?_
  obtain ⟨r_1, S_2, hc_3, hf⟩ := bo_inv hf
  refine w_ci (va_runS (As := [.int a1, .int (0 : Int32), .int ((S.1 28 2) - (1 : Int32))]) (rest := []) ⟨hx, hb, hml, hown, hts⟩ (c_X9_within l D y ad aL aU hI n S a1 (0 : Int32) (((S.1 28 2) - (1 : Int32))) _ _ hc_3) (cwS 3 hts gX9_isLiteral_X9_within rfl rfl rfl (by decide +kernel) ⟨Nat.le_of_ble_eq_true rfl, Nat.le_of_ble_eq_true rfl⟩) (pwu_S hP hK hZ hS) rfl rfl hl.1 rfl (lv_room (Nat.le_of_ble_eq_true rfl)) dX9_isLiteral_8 ⟨Nat.zero_le _, Nat.zero_le _⟩) hS (fun H locs hP hS => ?_)
  obtain ⟨g_4, hf⟩ := gd_inv hf
  exact w_zret hx hb hr hlocks g_4 hP hS (rt_inv hf) dX9_isLiteral_11
set_option maxHeartbeats 4000000 in
set_option maxRecDepth 100000 in
theorem c_X9_drop (l : Launch) (D : va_G) (y : y4) (ad : Nat → Nat) (aL aU : Nat) (hI : Inj ad) (n : Nat) (S : St) (a1 : Int32) (r : Int32) (S2 : St) (hf : f_X9_drop n S a1 = some (r, S2)) : KI l D y ad aL aU yX9_drop wsX9_drop ({ frames := 4, cells := 0, slots := 0, locals := 91 }) [.ref (ad 28), .int a1] S r S2 := by
  refine Met.ofW (cc := cX9_drop) (maxL := 4) (ret := (some .int)) (by decide) rfl ?_
  intro p e s m args below meth c s₁ B hml hv
  obtain ⟨rfl, hP, hK, hZ⟩ := hv
  have hx := B.exec
  have hb := B.bytes
  have hr := B.returns
  have hts := atoms_spec (ws := wsX9_drop) B.pre
  have hown : s.vm.findClass RX9 = some m.cls := findClass_of_methodNamed B.named
  have hlocks := B.notSynchronized
  have hS : va_S (AA ad) s.heap s.heap [] := va_S.rf
  have L13 := hts (.fieldLink RX9 13 "JoinedTheoriesModel" "texts" "[I") (by decide +kernel)
  have L16 := hts (.fieldLink RX9 16 "JoinedTheoriesModel" "textLength" "[I") (by decide +kernel)
  have L19 := hts (.fieldLink RX9 19 "JoinedTheoriesModel" "sortOf" "[I") (by decide +kernel)
  have L22 := hts (.fieldLink RX9 22 "JoinedTheoriesModel" "boundOf" "[I") (by decide +kernel)
  have L141 := hts (.fieldLink RX9 141 "JoinedTheoriesModel" "literals" "I") (by decide +kernel)
  have L160 := hts (.fieldLink RX9 160 "JoinedTheoriesModel" "wentEver" "I") (by decide +kernel)
  have K159 := hts (.constant RX9 159 (-2000000002)) (by decide +kernel)
  have n9 : ∀ w ∈ wsX90, w ∈ wsX9_drop := by decide +kernel
  have hl := lv_entry ([.ref (ad 28), .int a1]) (n := 4) (Nat.le_of_ble_eq_true rfl)
  rw [lg_entry_eq]
  generalize (lg_sl ([.ref (ad 28), .int a1]) ++ List.replicate (4 - (lg_sl ([.ref (ad 28), .int a1])).length) Slot.unset).toArray = ls at hl ⊢
  have hl : lv_has ls 4 [(0, .ref (ad 28)), (1, .int a1)] := hl
  have b85 : ∀ (x2 : Int32) (k33 : St → Int32 → Option (Int32 × St)) (hk33 : ∀ (S : St) (x2 : Int32) (H : Heap) (locs : List Loc) (ls : Array Slot), k33 S x2 = some (r, S2) → PW D y ad S H → va_S (AA ad) s.heap H locs → lv_has ls 4 [(0, .ref (ad 28)), (2, .int x2)] → W p l e (headSpec wsX9_drop ({ frames := 4, cells := 0, slots := 0, locals := 91 })).room s m ([.ref (ad 28), .int a1] : List Value).toArray below meth c H locs 0 0 (QI below r S2 D y ad ([.ref (ad 28), .int a1] : List Value).toArray s) (F0 m 33 ls [])) (k85 : St → Int32 → Option (Int32 × St)) (hk85 : ∀ (S : St) (x3 : Int32) (H : Heap) (locs : List Loc) (ls : Array Slot), k85 S x3 = some (r, S2) → PW D y ad S H → va_S (AA ad) s.heap H locs → lv_has ls 4 [(0, .ref (ad 28)), (2, .int x2), (3, .int x3)] → W p l e (headSpec wsX9_drop ({ frames := 4, cells := 0, slots := 0, locals := 91 })).room s m ([.ref (ad 28), .int a1] : List Value).toArray below meth c H locs 0 0 (QI below r S2 D y ad ([.ref (ad 28), .int a1] : List Value).toArray s) (F0 m 85 ls [])), ∀ (S : St) (x3 : Int32) (H : Heap) (locs : List Loc) (ls : Array Slot), f_X9_drop_85 n x2 k33 k85 S x3 = some (r, S2) → PW D y ad S H → va_S (AA ad) s.heap H locs → lv_has ls 4 [(0, .ref (ad 28)), (2, .int x2), (3, .int x3)] → W p l e (headSpec wsX9_drop ({ frames := 4, cells := 0, slots := 0, locals := 91 })).room s m ([.ref (ad 28), .int a1] : List Value).toArray below meth c H locs 0 0 (QI below r S2 D y ad ([.ref (ad 28), .int a1] : List Value).toArray s) (F0 m 85 ls []) := by
    intro x2 k33 hk33 k85 hk85 S x3 H locs ls hf hP hS hl
    unfold f_X9_drop_85 at hf
    refine lv_iload_n hx hb dX9_drop_85 rfl (lv_at hl 2 rfl) ?_
    refine lv_bipush (v := (40)) hx hb dX9_drop_86 (by decide) ?_
    refine lv_icmp_ge (tgt := 122) hx hb dX9_drop_88 (by decide) (fun b_1 => ?_) (fun b_1 => ?_)
    · have hf := if_t b_1 hf
      obtain ⟨x2_2, ex2_2, hf⟩ := bd_inv hf
      refine lv_iinc (v := x2_2) (lv' := [(2, .int x2_2), (0, .ref (ad 28)), (3, .int x3)]) hx hb dX9_drop_122 hl (k := 1) rfl (by rw [ex2_2]; rfl) (by decide) rfl (fun ls hl => ?_)
      refine lv_goto (tgt := 33) hx hb dX9_drop_125 (by decide) ?_
      exact hk33 S x2_2 _ _ _ hf hP hS (lv_sub hl [1, 0] rfl)
    · have hf := if_f b_1 hf
      refine lv_aload_n hx hb dX9_drop_91 rfl (lv_at hl 0 rfl) ?_
      refine w_gR (z := 30) (C := RX9) (T := TX9) hx hb hts n9 hown hK hP t_28 rfl 3 (by decide) L13 rfl rfl dX9_drop_92 ?_
      refine lv_bipush (v := (40)) hx hb dX9_drop_95 (by decide) ?_
      refine lv_iload_n hx hb dX9_drop_97 rfl (lv_at hl 1 rfl) ?_
      refine lv_imul hx hb dX9_drop_98 ?_
      refine lv_iload_n hx hb dX9_drop_99 rfl (lv_at hl 2 rfl) ?_
      refine lv_iadd hx hb dX9_drop_100 ?_
      refine lv_aload_n hx hb dX9_drop_101 rfl (lv_at hl 0 rfl) ?_
      refine w_gR (z := 30) (C := RX9) (T := TX9) hx hb hts n9 hown hK hP t_28 rfl 3 (by decide) L13 rfl rfl dX9_drop_102 ?_
      refine lv_bipush (v := (40)) hx hb dX9_drop_105 (by decide) ?_
      refine lv_iload_n hx hb dX9_drop_107 rfl (lv_at hl 1 rfl) ?_
      refine lv_imul hx hb dX9_drop_108 ?_
      refine lv_bipush (v := (40)) hx hb dX9_drop_109 (by decide) ?_
      refine lv_iadd hx hb dX9_drop_111 ?_
      refine lv_iload_n hx hb dX9_drop_112 rfl (lv_at hl 2 rfl) ?_
      refine lv_iadd hx hb dX9_drop_113 ?_
      obtain ⟨g_3, hf⟩ := gd_inv hf
      refine w_iald hx hb hK hP t_30 g_3 dX9_drop_114 ?_
      obtain ⟨g_4, hf⟩ := gd_inv hf
      obtain ⟨S_5, eS_5, hf⟩ := bd_inv hf
      refine w_iast hx hb hK hI hP hS t_30 g_4 dX9_drop_115 (fun H locs hP hS => ?_)
      rw [← eS_5] at hP
      obtain ⟨x3_6, ex3_6, hf⟩ := bd_inv hf
      refine lv_iinc (v := x3_6) (lv' := [(3, .int x3_6), (0, .ref (ad 28)), (2, .int x2)]) hx hb dX9_drop_116 hl (k := 2) rfl (by rw [ex3_6]; rfl) (by decide) rfl (fun ls hl => ?_)
      refine lv_goto (tgt := 85) hx hb dX9_drop_119 (by decide) ?_
      exact hk85 S_5 x3_6 _ _ _ hf hP hS (lv_sub hl [1, 2, 0] rfl)
  have j85 : ∀ (x2 : Int32) (k33 : St → Int32 → Option (Int32 × St)) (hk33 : ∀ (S : St) (x2 : Int32) (H : Heap) (locs : List Loc) (ls : Array Slot), k33 S x2 = some (r, S2) → PW D y ad S H → va_S (AA ad) s.heap H locs → lv_has ls 4 [(0, .ref (ad 28)), (2, .int x2)] → W p l e (headSpec wsX9_drop ({ frames := 4, cells := 0, slots := 0, locals := 91 })).room s m ([.ref (ad 28), .int a1] : List Value).toArray below meth c H locs 0 0 (QI below r S2 D y ad ([.ref (ad 28), .int a1] : List Value).toArray s) (F0 m 33 ls [])) (fu : Nat), ∀ (S : St) (x3 : Int32) (H : Heap) (locs : List Loc) (ls : Array Slot), fixF (fun _ _ => none) (f_X9_drop_85 n x2 k33) fu S x3 = some (r, S2) → PW D y ad S H → va_S (AA ad) s.heap H locs → lv_has ls 4 [(0, .ref (ad 28)), (2, .int x2), (3, .int x3)] → W p l e (headSpec wsX9_drop ({ frames := 4, cells := 0, slots := 0, locals := 91 })).room s m ([.ref (ad 28), .int a1] : List Value).toArray below meth c H locs 0 0 (QI below r S2 D y ad ([.ref (ad 28), .int a1] : List Value).toArray s) (F0 m 85 ls []) := by
    intro x2 k33 hk33 fu
    induction fu with
    | zero => intro S x3 H locs ls hf hP hS hl; cases hf
    | succ fu ih => exact b85 x2 k33 hk33 (fixF (fun _ _ => none) (f_X9_drop_85 n x2 k33) fu) ih
  have b33 : ∀ (k33 : St → Int32 → Option (Int32 × St)) (hk33 : ∀ (S : St) (x2 : Int32) (H : Heap) (locs : List Loc) (ls : Array Slot), k33 S x2 = some (r, S2) → PW D y ad S H → va_S (AA ad) s.heap H locs → lv_has ls 4 [(0, .ref (ad 28)), (2, .int x2)] → W p l e (headSpec wsX9_drop ({ frames := 4, cells := 0, slots := 0, locals := 91 })).room s m ([.ref (ad 28), .int a1] : List Value).toArray below meth c H locs 0 0 (QI below r S2 D y ad ([.ref (ad 28), .int a1] : List Value).toArray s) (F0 m 33 ls [])), ∀ (S : St) (x2 : Int32) (H : Heap) (locs : List Loc) (ls : Array Slot), f_X9_drop_33 n k33 S x2 = some (r, S2) → PW D y ad S H → va_S (AA ad) s.heap H locs → lv_has ls 4 [(0, .ref (ad 28)), (2, .int x2)] → W p l e (headSpec wsX9_drop ({ frames := 4, cells := 0, slots := 0, locals := 91 })).room s m ([.ref (ad 28), .int a1] : List Value).toArray below meth c H locs 0 0 (QI below r S2 D y ad ([.ref (ad 28), .int a1] : List Value).toArray s) (F0 m 33 ls []) := by
    intro  k33 hk33 S x2 H locs ls hf hP hS hl
    unfold f_X9_drop_33 at hf
    refine lv_iload_n hx hb dX9_drop_33 rfl (lv_at hl 1 rfl) ?_
    refine lv_aload_n hx hb dX9_drop_34 rfl (lv_at hl 0 rfl) ?_
    refine w_gI (C := RX9) (T := TX9) hx hb hts n9 hown hK hP t_28 rfl 2 (by decide) L141 rfl dX9_drop_35 ?_
    refine lv_icmp_ge (tgt := 128) hx hb dX9_drop_38 (by decide) (fun b_7 => ?_) (fun b_7 => ?_)
    · have hf := if_t b_7 hf
      refine lv_aload_n hx hb dX9_drop_128 rfl (lv_at hl 0 rfl) ?_
      obtain ⟨r_8, S_9, hc_10, hf⟩ := bo_inv hf
      refine w_cv (va_runV (As := []) (rest := []) ⟨hx, hb, hml, hown, hts⟩ (c_X9_layTerms l D y ad aL aU hI n S  _ _ hc_10) (cwV 0 hts gX9_drop_X9_layTerms rfl rfl rfl (by decide +kernel) ⟨Nat.le_of_ble_eq_true rfl, Nat.le_of_ble_eq_true rfl⟩) (pwu_V t_28 rfl hP hK hZ hS) rfl rfl hl.1 rfl (lv_room (Nat.le_of_ble_eq_true rfl)) dX9_drop_129 ⟨Nat.zero_le _, Nat.zero_le _⟩) hS (fun H locs hP hS => ?_)
      refine lv_aload_n hx hb dX9_drop_132 rfl (lv_at hl 0 rfl) ?_
      refine w_gI (C := RX9) (T := TX9) hx hb hts n9 hown hK hP t_28 rfl 2 (by decide) L141 rfl dX9_drop_133 ?_
      exact w_iret hx hb hr hlocks hP hS (rt_inv hf) dX9_drop_136
    · have hf := if_f b_7 hf
      refine lv_aload_n hx hb dX9_drop_41 rfl (lv_at hl 0 rfl) ?_
      refine w_gR (z := 32) (C := RX9) (T := TX9) hx hb hts n9 hown hK hP t_28 rfl 5 (by decide) L19 rfl rfl dX9_drop_42 ?_
      refine lv_iload_n hx hb dX9_drop_45 rfl (lv_at hl 1 rfl) ?_
      refine lv_aload_n hx hb dX9_drop_46 rfl (lv_at hl 0 rfl) ?_
      refine w_gR (z := 32) (C := RX9) (T := TX9) hx hb hts n9 hown hK hP t_28 rfl 5 (by decide) L19 rfl rfl dX9_drop_47 ?_
      refine lv_iload_n hx hb dX9_drop_50 rfl (lv_at hl 1 rfl) ?_
      refine lv_iconst (v := 1) hx hb dX9_drop_51 (by decide) ?_
      refine lv_iadd hx hb dX9_drop_52 ?_
      obtain ⟨g_11, hf⟩ := gd_inv hf
      refine w_iald hx hb hK hP t_32 g_11 dX9_drop_53 ?_
      obtain ⟨g_12, hf⟩ := gd_inv hf
      obtain ⟨S_13, eS_13, hf⟩ := bd_inv hf
      refine w_iast hx hb hK hI hP hS t_32 g_12 dX9_drop_54 (fun H locs hP hS => ?_)
      rw [← eS_13] at hP
      refine lv_aload_n hx hb dX9_drop_55 rfl (lv_at hl 0 rfl) ?_
      refine w_gR (z := 33) (C := RX9) (T := TX9) hx hb hts n9 hown hK hP t_28 rfl 6 (by decide) L22 rfl rfl dX9_drop_56 ?_
      refine lv_iload_n hx hb dX9_drop_59 rfl (lv_at hl 1 rfl) ?_
      refine lv_aload_n hx hb dX9_drop_60 rfl (lv_at hl 0 rfl) ?_
      refine w_gR (z := 33) (C := RX9) (T := TX9) hx hb hts n9 hown hK hP t_28 rfl 6 (by decide) L22 rfl rfl dX9_drop_61 ?_
      refine lv_iload_n hx hb dX9_drop_64 rfl (lv_at hl 1 rfl) ?_
      refine lv_iconst (v := 1) hx hb dX9_drop_65 (by decide) ?_
      refine lv_iadd hx hb dX9_drop_66 ?_
      obtain ⟨g_14, hf⟩ := gd_inv hf
      refine w_iald hx hb hK hP t_33 g_14 dX9_drop_67 ?_
      obtain ⟨g_15, hf⟩ := gd_inv hf
      obtain ⟨S_16, eS_16, hf⟩ := bd_inv hf
      refine w_iast hx hb hK hI hP hS t_33 g_15 dX9_drop_68 (fun H locs hP hS => ?_)
      rw [← eS_16] at hP
      refine lv_aload_n hx hb dX9_drop_69 rfl (lv_at hl 0 rfl) ?_
      refine w_gR (z := 31) (C := RX9) (T := TX9) hx hb hts n9 hown hK hP t_28 rfl 4 (by decide) L16 rfl rfl dX9_drop_70 ?_
      refine lv_iload_n hx hb dX9_drop_73 rfl (lv_at hl 1 rfl) ?_
      refine lv_aload_n hx hb dX9_drop_74 rfl (lv_at hl 0 rfl) ?_
      refine w_gR (z := 31) (C := RX9) (T := TX9) hx hb hts n9 hown hK hP t_28 rfl 4 (by decide) L16 rfl rfl dX9_drop_75 ?_
      refine lv_iload_n hx hb dX9_drop_78 rfl (lv_at hl 1 rfl) ?_
      refine lv_iconst (v := 1) hx hb dX9_drop_79 (by decide) ?_
      refine lv_iadd hx hb dX9_drop_80 ?_
      obtain ⟨g_17, hf⟩ := gd_inv hf
      refine w_iald hx hb hK hP t_31 g_17 dX9_drop_81 ?_
      obtain ⟨g_18, hf⟩ := gd_inv hf
      obtain ⟨S_19, eS_19, hf⟩ := bd_inv hf
      refine w_iast hx hb hK hI hP hS t_31 g_18 dX9_drop_82 (fun H locs hP hS => ?_)
      rw [← eS_19] at hP
      refine lv_iconst (v := 0) hx hb dX9_drop_83 (by decide) ?_
      obtain ⟨x3_20, ex3_20, hf⟩ := bd_inv hf
      refine w_topI ex3_20 ?_
      refine lv_istore_n (lv' := [(3, .int x3_20), (0, .ref (ad 28)), (2, .int x2)]) hx hb dX9_drop_84 rfl hl (by decide) rfl (fun ls hl => ?_)
      exact j85 x2 k33 hk33 n S_19 x3_20 _ _ _ hf hP hS (lv_sub hl [1, 2, 0] rfl)
  have j33 : ∀ (fu : Nat), ∀ (S : St) (x2 : Int32) (H : Heap) (locs : List Loc) (ls : Array Slot), fixF (fun _ _ => none) (f_X9_drop_33 n) fu S x2 = some (r, S2) → PW D y ad S H → va_S (AA ad) s.heap H locs → lv_has ls 4 [(0, .ref (ad 28)), (2, .int x2)] → W p l e (headSpec wsX9_drop ({ frames := 4, cells := 0, slots := 0, locals := 91 })).room s m ([.ref (ad 28), .int a1] : List Value).toArray below meth c H locs 0 0 (QI below r S2 D y ad ([.ref (ad 28), .int a1] : List Value).toArray s) (F0 m 33 ls []) := by
    intro   fu
    induction fu with
    | zero => intro S x2 H locs ls hf hP hS hl; cases hf
    | succ fu ih => exact b33   (fixF (fun _ _ => none) (f_X9_drop_33 n) fu) ih
  unfold f_X9_drop at hf
  refine lv_aload_n hx hb dX9_drop_0 rfl (lv_at hl 0 rfl) ?_
  refine lv_iload_n hx hb dX9_drop_1 rfl (lv_at hl 1 rfl) ?_
  obtain ⟨r_21, S_22, hc_23, hf⟩ := bo_inv hf
  refine w_ci (va_runV (As := [.int a1]) (rest := []) ⟨hx, hb, hml, hown, hts⟩ (c_X9_isLiteral l D y ad aL aU hI n S a1 _ _ hc_23) (cwV 1 hts gX9_drop_X9_isLiteral rfl rfl rfl (by decide +kernel) ⟨Nat.le_of_ble_eq_true rfl, Nat.le_of_ble_eq_true rfl⟩) (pwu_V t_28 rfl hP hK hZ hS) rfl rfl hl.1 rfl (lv_room (Nat.le_of_ble_eq_true rfl)) dX9_drop_2 ⟨Nat.zero_le _, Nat.zero_le _⟩) hS (fun H locs hP hS => ?_)
  refine lv_if_ne (tgt := 11) hx hb dX9_drop_5 (by decide) (fun b_24 => ?_) (fun b_24 => ?_)
  · have hf := if_f b_24 hf
    refine lv_aload_n hx hb dX9_drop_11 rfl (lv_at hl 0 rfl) ?_
    refine lv_dup hx hb dX9_drop_12 rfl ?_
    refine w_gI (C := RX9) (T := TX9) hx hb hts n9 hown hK hP t_28 rfl 2 (by decide) L141 rfl dX9_drop_13 ?_
    refine lv_iconst (v := 1) hx hb dX9_drop_16 (by decide) ?_
    refine lv_isub hx hb dX9_drop_17 ?_
    obtain ⟨S_25, eS_25, hf⟩ := bd_inv hf
    refine w_pI (ty := .int) (C := RX9) (T := TX9) hx hb hts n9 tyX9 tyX9_ok nmX9 hown hK hI hP hS t_28 rfl 2 (by decide) L141 rfl rfl rfl ⟨rfl, rfl⟩ dX9_drop_18 (fun H locs hP hS => ?_)
    rw [← eS_25] at hP
    refine lv_aload_n hx hb dX9_drop_21 rfl (lv_at hl 0 rfl) ?_
    refine lv_dup hx hb dX9_drop_22 rfl ?_
    refine w_gI (C := RX9) (T := TX9) hx hb hts n9 hown hK hP t_28 rfl 8 (by decide) L160 rfl dX9_drop_23 ?_
    refine lv_iconst (v := 1) hx hb dX9_drop_26 (by decide) ?_
    refine lv_iadd hx hb dX9_drop_27 ?_
    obtain ⟨S_26, eS_26, hf⟩ := bd_inv hf
    refine w_pI (ty := .int) (C := RX9) (T := TX9) hx hb hts n9 tyX9 tyX9_ok nmX9 hown hK hI hP hS t_28 rfl 8 (by decide) L160 rfl rfl rfl ⟨rfl, rfl⟩ dX9_drop_28 (fun H locs hP hS => ?_)
    rw [← eS_26] at hP
    refine lv_iload_n hx hb dX9_drop_31 rfl (lv_at hl 1 rfl) ?_
    obtain ⟨x2_27, ex2_27, hf⟩ := bd_inv hf
    refine w_topI ex2_27 ?_
    refine lv_istore_n (lv' := [(2, .int x2_27), (0, .ref (ad 28)), (1, .int a1)]) hx hb dX9_drop_32 rfl hl (by decide) rfl (fun ls hl => ?_)
    exact j33   n S_26 x2_27 _ _ _ hf hP hS (lv_sub hl [1, 0] rfl)
  · have hf := if_t b_24 hf
    refine lv_ldc (v := (-2000000002)) hx hb hown K159 dX9_drop_8 ?_
    exact w_iret hx hb hr hlocks hP hS (rt_inv hf) dX9_drop_10
set_option maxHeartbeats 4000000 in
set_option maxRecDepth 100000 in
theorem c_X9_scale (l : Launch) (D : va_G) (y : y4) (ad : Nat → Nat) (aL aU : Nat) (hI : Inj ad) (n : Nat) (S : St) (a1 : Int32) (r : Int32) (S2 : St) (hf : f_X9_scale n S a1 = some (r, S2)) : KI l D y ad aL aU yX9_scale wsX9_scale ({ frames := 2, cells := 0, slots := 0, locals := 42 }) [.ref (ad 28), .int a1] S r S2 := by
  refine Met.ofW (cc := cX9_scale) (maxL := 6) (ret := (some .int)) (by decide) rfl ?_
  intro p e s m args below meth c s₁ B hml hv
  obtain ⟨rfl, hP, hK, hZ⟩ := hv
  have hx := B.exec
  have hb := B.bytes
  have hr := B.returns
  have hts := atoms_spec (ws := wsX9_scale) B.pre
  have hown : s.vm.findClass RX9 = some m.cls := findClass_of_methodNamed B.named
  have hlocks := B.notSynchronized
  have hS : va_S (AA ad) s.heap s.heap [] := va_S.rf
  have L22 := hts (.fieldLink RX9 22 "JoinedTheoriesModel" "boundOf" "[I") (by decide +kernel)
  have L141 := hts (.fieldLink RX9 141 "JoinedTheoriesModel" "literals" "I") (by decide +kernel)
  have K81 := hts (.constant RX9 81 (-2000000003)) (by decide +kernel)
  have K163 := hts (.constantLong RX9 163 (2000000000)) (by decide +kernel)
  have K165 := hts (.constantLong RX9 165 (-2000000000)) (by decide +kernel)
  have K167 := hts (.constant RX9 167 (-2000000006)) (by decide +kernel)
  have n9 : ∀ w ∈ wsX90, w ∈ wsX9_scale := by decide +kernel
  have hl := lv_entry ([.ref (ad 28), .int a1]) (n := 6) (Nat.le_of_ble_eq_true rfl)
  rw [lg_entry_eq]
  generalize (lg_sl ([.ref (ad 28), .int a1]) ++ List.replicate (6 - (lg_sl ([.ref (ad 28), .int a1])).length) Slot.unset).toArray = ls at hl ⊢
  have hl : lv_has ls 6 [(0, .ref (ad 28)), (1, .int a1)] := hl
  have b90 : ∀ (x1 : Int32) (x2 : Int32) (k90 : St → Int32 → Option (Int32 × St)) (hk90 : ∀ (S : St) (x3 : Int32) (H : Heap) (locs : List Loc) (ls : Array Slot), k90 S x3 = some (r, S2) → PW D y ad S H → va_S (AA ad) s.heap H locs → lv_has ls 6 [(0, .ref (ad 28)), (1, .int x1), (2, .int x2), (3, .int x3)] → W p l e (headSpec wsX9_scale ({ frames := 2, cells := 0, slots := 0, locals := 42 })).room s m ([.ref (ad 28), .int a1] : List Value).toArray below meth c H locs 0 0 (QI below r S2 D y ad ([.ref (ad 28), .int a1] : List Value).toArray s) (F0 m 90 ls [])), ∀ (S : St) (x3 : Int32) (H : Heap) (locs : List Loc) (ls : Array Slot), f_X9_scale_90 n x1 x2 k90 S x3 = some (r, S2) → PW D y ad S H → va_S (AA ad) s.heap H locs → lv_has ls 6 [(0, .ref (ad 28)), (1, .int x1), (2, .int x2), (3, .int x3)] → W p l e (headSpec wsX9_scale ({ frames := 2, cells := 0, slots := 0, locals := 42 })).room s m ([.ref (ad 28), .int a1] : List Value).toArray below meth c H locs 0 0 (QI below r S2 D y ad ([.ref (ad 28), .int a1] : List Value).toArray s) (F0 m 90 ls []) := by
    intro x1 x2 k90 hk90 S x3 H locs ls hf hP hS hl
    unfold f_X9_scale_90 at hf
    refine lv_iload_n hx hb dX9_scale_90 rfl (lv_at hl 3 rfl) ?_
    refine lv_aload_n hx hb dX9_scale_91 rfl (lv_at hl 0 rfl) ?_
    refine w_gI (C := RX9) (T := TX9) hx hb hts n9 hown hK hP t_28 rfl 2 (by decide) L141 rfl dX9_scale_92 ?_
    refine lv_icmp_ge (tgt := 114) hx hb dX9_scale_95 (by decide) (fun b_1 => ?_) (fun b_1 => ?_)
    · have hf := if_t b_1 hf
      refine lv_iload_n hx hb dX9_scale_114 rfl (lv_at hl 2 rfl) ?_
      exact w_iret hx hb hr hlocks hP hS (rt_inv hf) dX9_scale_115
    · have hf := if_f b_1 hf
      refine lv_aload_n hx hb dX9_scale_98 rfl (lv_at hl 0 rfl) ?_
      refine w_gR (z := 33) (C := RX9) (T := TX9) hx hb hts n9 hown hK hP t_28 rfl 6 (by decide) L22 rfl rfl dX9_scale_99 ?_
      refine lv_iload_n hx hb dX9_scale_102 rfl (lv_at hl 3 rfl) ?_
      refine lv_dup2_11 hx hb dX9_scale_103 rfl rfl ?_
      obtain ⟨g_2, hf⟩ := gd_inv hf
      refine w_iald hx hb hK hP t_33 g_2 dX9_scale_104 ?_
      refine lv_iload_n hx hb dX9_scale_105 rfl (lv_at hl 1 rfl) ?_
      refine lv_imul hx hb dX9_scale_106 ?_
      obtain ⟨g_3, hf⟩ := gd_inv hf
      obtain ⟨S_4, eS_4, hf⟩ := bd_inv hf
      refine w_iast hx hb hK hI hP hS t_33 g_3 dX9_scale_107 (fun H locs hP hS => ?_)
      rw [← eS_4] at hP
      obtain ⟨x3_5, ex3_5, hf⟩ := bd_inv hf
      refine lv_iinc (v := x3_5) (lv' := [(3, .int x3_5), (0, .ref (ad 28)), (1, .int x1), (2, .int x2)]) hx hb dX9_scale_108 hl (k := 3) rfl (by rw [ex3_5]; rfl) (by decide) rfl (fun ls hl => ?_)
      refine lv_goto (tgt := 90) hx hb dX9_scale_111 (by decide) ?_
      exact hk90 S_4 x3_5 _ _ _ hf hP hS (lv_sub hl [1, 2, 3, 0] rfl)
  have j90 : ∀ (x1 : Int32) (x2 : Int32) (fu : Nat), ∀ (S : St) (x3 : Int32) (H : Heap) (locs : List Loc) (ls : Array Slot), fixF (fun _ _ => none) (f_X9_scale_90 n x1 x2) fu S x3 = some (r, S2) → PW D y ad S H → va_S (AA ad) s.heap H locs → lv_has ls 6 [(0, .ref (ad 28)), (1, .int x1), (2, .int x2), (3, .int x3)] → W p l e (headSpec wsX9_scale ({ frames := 2, cells := 0, slots := 0, locals := 42 })).room s m ([.ref (ad 28), .int a1] : List Value).toArray below meth c H locs 0 0 (QI below r S2 D y ad ([.ref (ad 28), .int a1] : List Value).toArray s) (F0 m 90 ls []) := by
    intro x1 x2  fu
    induction fu with
    | zero => intro S x3 H locs ls hf hP hS hl; cases hf
    | succ fu ih => exact b90 x1 x2  (fixF (fun _ _ => none) (f_X9_scale_90 n x1 x2) fu) ih
  have j80 : ∀ (x1 : Int32) (k20 : St → Int32 → Int32 → Option (Int32 × St)) (hk20 : ∀ (S : St) (x2 : Int32) (x3 : Int32) (H : Heap) (locs : List Loc) (ls : Array Slot), k20 S x2 x3 = some (r, S2) → PW D y ad S H → va_S (AA ad) s.heap H locs → lv_has ls 6 [(0, .ref (ad 28)), (1, .int x1), (2, .int x2), (3, .int x3)] → W p l e (headSpec wsX9_scale ({ frames := 2, cells := 0, slots := 0, locals := 42 })).room s m ([.ref (ad 28), .int a1] : List Value).toArray below meth c H locs 0 0 (QI below r S2 D y ad ([.ref (ad 28), .int a1] : List Value).toArray s) (F0 m 20 ls [])), ∀ (S : St) (x3 : Int32) (t0 : Int32) (t1 : Int32) (H : Heap) (locs : List Loc) (ls : Array Slot), f_X9_scale_80 n x1 k20 S x3 t0 t1 = some (r, S2) → PW D y ad S H → va_S (AA ad) s.heap H locs → lv_has ls 6 [(0, .ref (ad 28)), (1, .int x1), (3, .int x3)] → W p l e (headSpec wsX9_scale ({ frames := 2, cells := 0, slots := 0, locals := 42 })).room s m ([.ref (ad 28), .int a1] : List Value).toArray below meth c H locs 0 0 (QI below r S2 D y ad ([.ref (ad 28), .int a1] : List Value).toArray s) (F0 m 80 ls [.int t1, .int t0]) := by
    intro x1 k20 hk20 S x3 t0 t1 H locs ls hf hP hS hl
    unfold f_X9_scale_80 at hf
    refine lv_iadd hx hb dX9_scale_80 ?_
    obtain ⟨x2_6, ex2_6, hf⟩ := bd_inv hf
    refine w_topI ex2_6 ?_
    refine lv_istore_n (lv' := [(2, .int x2_6), (0, .ref (ad 28)), (1, .int x1), (3, .int x3)]) hx hb dX9_scale_81 rfl hl (by decide) rfl (fun ls hl => ?_)
    obtain ⟨x3_7, ex3_7, hf⟩ := bd_inv hf
    refine lv_iinc (v := x3_7) (lv' := [(3, .int x3_7), (2, .int x2_6), (0, .ref (ad 28)), (1, .int x1)]) hx hb dX9_scale_82 hl (k := 3) rfl (by rw [ex3_7]; rfl) (by decide) rfl (fun ls hl => ?_)
    refine lv_goto (tgt := 20) hx hb dX9_scale_85 (by decide) ?_
    exact hk20 S x2_6 x3_7 _ _ _ hf hP hS (lv_sub hl [2, 3, 1, 0] rfl)
  have b20 : ∀ (x1 : Int32) (k20 : St → Int32 → Int32 → Option (Int32 × St)) (hk20 : ∀ (S : St) (x2 : Int32) (x3 : Int32) (H : Heap) (locs : List Loc) (ls : Array Slot), k20 S x2 x3 = some (r, S2) → PW D y ad S H → va_S (AA ad) s.heap H locs → lv_has ls 6 [(0, .ref (ad 28)), (1, .int x1), (2, .int x2), (3, .int x3)] → W p l e (headSpec wsX9_scale ({ frames := 2, cells := 0, slots := 0, locals := 42 })).room s m ([.ref (ad 28), .int a1] : List Value).toArray below meth c H locs 0 0 (QI below r S2 D y ad ([.ref (ad 28), .int a1] : List Value).toArray s) (F0 m 20 ls [])), ∀ (S : St) (x2 : Int32) (x3 : Int32) (H : Heap) (locs : List Loc) (ls : Array Slot), f_X9_scale_20 n x1 k20 S x2 x3 = some (r, S2) → PW D y ad S H → va_S (AA ad) s.heap H locs → lv_has ls 6 [(0, .ref (ad 28)), (1, .int x1), (2, .int x2), (3, .int x3)] → W p l e (headSpec wsX9_scale ({ frames := 2, cells := 0, slots := 0, locals := 42 })).room s m ([.ref (ad 28), .int a1] : List Value).toArray below meth c H locs 0 0 (QI below r S2 D y ad ([.ref (ad 28), .int a1] : List Value).toArray s) (F0 m 20 ls []) := by
    intro x1 k20 hk20 S x2 x3 H locs ls hf hP hS hl
    unfold f_X9_scale_20 at hf
    refine lv_iload_n hx hb dX9_scale_20 rfl (lv_at hl 3 rfl) ?_
    refine lv_aload_n hx hb dX9_scale_21 rfl (lv_at hl 0 rfl) ?_
    refine w_gI (C := RX9) (T := TX9) hx hb hts n9 hown hK hP t_28 rfl 2 (by decide) L141 rfl dX9_scale_22 ?_
    refine lv_icmp_ge (tgt := 88) hx hb dX9_scale_25 (by decide) (fun b_8 => ?_) (fun b_8 => ?_)
    · have hf := if_t b_8 hf
      refine lv_iconst (v := 0) hx hb dX9_scale_88 (by decide) ?_
      obtain ⟨x3_9, ex3_9, hf⟩ := bd_inv hf
      refine w_topI ex3_9 ?_
      refine lv_istore_n (lv' := [(3, .int x3_9), (0, .ref (ad 28)), (1, .int x1), (2, .int x2)]) hx hb dX9_scale_89 rfl hl (by decide) rfl (fun ls hl => ?_)
      exact j90 x1 x2  n S x3_9 _ _ _ hf hP hS (lv_sub hl [1, 2, 3, 0] rfl)
    · have hf := if_f b_8 hf
      refine lv_aload_n hx hb dX9_scale_28 rfl (lv_at hl 0 rfl) ?_
      refine w_gR (z := 33) (C := RX9) (T := TX9) hx hb hts n9 hown hK hP t_28 rfl 6 (by decide) L22 rfl rfl dX9_scale_29 ?_
      refine lv_iload_n hx hb dX9_scale_32 rfl (lv_at hl 3 rfl) ?_
      obtain ⟨g_10, hf⟩ := gd_inv hf
      refine w_iald hx hb hK hP t_33 g_10 dX9_scale_33 ?_
      refine lv_i2l hx hb dX9_scale_34 rfl ?_
      refine lv_iload_n hx hb dX9_scale_35 rfl (lv_at hl 1 rfl) ?_
      refine lv_i2l hx hb dX9_scale_36 rfl ?_
      refine lv_lmul hx hb dX9_scale_37 ?_
      obtain ⟨x4_11, ex4_11, hf⟩ := bd_inv hf
      refine w_topL ex4_11 ?_
      refine lv_lstore (lv' := [(4, .long x4_11), (0, .ref (ad 28)), (1, .int x1), (2, .int x2), (3, .int x3)]) hx hb dX9_scale_38 hl (by decide) rfl (fun ls hl => ?_)
      refine lv_lload hx hb dX9_scale_40 (lv_at hl 0 rfl) ?_
      refine lv_ldc2 (v := (2000000000)) hx hb hown K163 dX9_scale_42 ?_
      refine W.lcmp hx hb dX9_scale_45 ?_
      refine lv_if_gt (tgt := 58) hx hb dX9_scale_46 (by decide) (fun b_12 => ?_) (fun b_12 => ?_)
      · have hf := if_t b_12 hf
        refine lv_ldc (v := (-2000000006)) hx hb hown K167 dX9_scale_58 ?_
        exact w_iret hx hb hr hlocks hP hS (rt_inv hf) dX9_scale_60
      · have hf := if_f b_12 hf
        refine lv_lload hx hb dX9_scale_49 (lv_at hl 0 rfl) ?_
        refine lv_ldc2 (v := (-2000000000)) hx hb hown K165 dX9_scale_51 ?_
        refine W.lcmp hx hb dX9_scale_54 ?_
        refine lv_if_ge (tgt := 61) hx hb dX9_scale_55 (by decide) (fun b_13 => ?_) (fun b_13 => ?_)
        · have hf := if_t b_13 hf
          refine lv_iload_n hx hb dX9_scale_61 rfl (lv_at hl 3 rfl) ?_
          refine lv_lload hx hb dX9_scale_62 (lv_at hl 0 rfl) ?_
          refine lv_aload_n hx hb dX9_scale_64 rfl (lv_at hl 1 rfl) ?_
          refine w_gR (z := 33) (C := RX9) (T := TX9) hx hb hts n9 hown hK hP t_28 rfl 6 (by decide) L22 rfl rfl dX9_scale_65 ?_
          refine lv_iload_n hx hb dX9_scale_68 rfl (lv_at hl 4 rfl) ?_
          obtain ⟨g_14, hf⟩ := gd_inv hf
          refine w_iald hx hb hK hP t_33 g_14 dX9_scale_69 ?_
          refine lv_i2l hx hb dX9_scale_70 rfl ?_
          refine W.lcmp hx hb dX9_scale_71 ?_
          refine lv_if_eq (tgt := 79) hx hb dX9_scale_72 (by decide) (fun b_15 => ?_) (fun b_15 => ?_)
          · have hf := if_t b_15 hf
            refine lv_iconst (v := 0) hx hb dX9_scale_79 (by decide) ?_
            exact j80 x1 k20 hk20 S x3 x2 ((0 : Int32)) _ _ _ hf hP hS (lv_sub hl [1, 2, 4] rfl)
          · have hf := if_f b_15 hf
            refine lv_iconst (v := 1) hx hb dX9_scale_75 (by decide) ?_
            refine lv_goto (tgt := 80) hx hb dX9_scale_76 (by decide) ?_
            exact j80 x1 k20 hk20 S x3 x2 ((1 : Int32)) _ _ _ hf hP hS (lv_sub hl [1, 2, 4] rfl)
        · have hf := if_f b_13 hf
          refine lv_ldc (v := (-2000000006)) hx hb hown K167 dX9_scale_58 ?_
          exact w_iret hx hb hr hlocks hP hS (rt_inv hf) dX9_scale_60
  have j20 : ∀ (x1 : Int32) (fu : Nat), ∀ (S : St) (x2 : Int32) (x3 : Int32) (H : Heap) (locs : List Loc) (ls : Array Slot), fixF (fun _ _ _ => none) (f_X9_scale_20 n x1) fu S x2 x3 = some (r, S2) → PW D y ad S H → va_S (AA ad) s.heap H locs → lv_has ls 6 [(0, .ref (ad 28)), (1, .int x1), (2, .int x2), (3, .int x3)] → W p l e (headSpec wsX9_scale ({ frames := 2, cells := 0, slots := 0, locals := 42 })).room s m ([.ref (ad 28), .int a1] : List Value).toArray below meth c H locs 0 0 (QI below r S2 D y ad ([.ref (ad 28), .int a1] : List Value).toArray s) (F0 m 20 ls []) := by
    intro x1  fu
    induction fu with
    | zero => intro S x2 x3 H locs ls hf hP hS hl; cases hf
    | succ fu ih => exact b20 x1  (fixF (fun _ _ _ => none) (f_X9_scale_20 n x1) fu) ih
  unfold f_X9_scale at hf
  refine lv_iload_n hx hb dX9_scale_0 rfl (lv_at hl 1 rfl) ?_
  refine lv_sipush (v := (-1000)) hx hb dX9_scale_1 (by decide) ?_
  refine lv_sipush (v := (1000)) hx hb dX9_scale_4 (by decide) ?_
  obtain ⟨r_16, S_17, hc_18, hf⟩ := bo_inv hf
  refine w_ci (va_runS (As := [.int a1, .int (-1000 : Int32), .int (1000 : Int32)]) (rest := []) ⟨hx, hb, hml, hown, hts⟩ (c_X9_within l D y ad aL aU hI n S a1 (-1000 : Int32) (1000 : Int32) _ _ hc_18) (cwS 3 hts gX9_scale_X9_within rfl rfl rfl (by decide +kernel) ⟨Nat.le_of_ble_eq_true rfl, Nat.le_of_ble_eq_true rfl⟩) (pwu_S hP hK hZ hS) rfl rfl hl.1 rfl (lv_room (Nat.le_of_ble_eq_true rfl)) dX9_scale_7 ⟨Nat.zero_le _, Nat.zero_le _⟩) hS (fun H locs hP hS => ?_)
  refine lv_if_ne (tgt := 16) hx hb dX9_scale_10 (by decide) (fun b_19 => ?_) (fun b_19 => ?_)
  · have hf := if_f b_19 hf
    refine lv_iconst (v := 0) hx hb dX9_scale_16 (by decide) ?_
    obtain ⟨x2_20, ex2_20, hf⟩ := bd_inv hf
    refine w_topI ex2_20 ?_
    refine lv_istore_n (lv' := [(2, .int x2_20), (0, .ref (ad 28)), (1, .int a1)]) hx hb dX9_scale_17 rfl hl (by decide) rfl (fun ls hl => ?_)
    refine lv_iconst (v := 0) hx hb dX9_scale_18 (by decide) ?_
    obtain ⟨x3_21, ex3_21, hf⟩ := bd_inv hf
    refine w_topI ex3_21 ?_
    refine lv_istore_n (lv' := [(3, .int x3_21), (2, .int x2_20), (0, .ref (ad 28)), (1, .int a1)]) hx hb dX9_scale_19 rfl hl (by decide) rfl (fun ls hl => ?_)
    exact j20 a1  n S_17 x2_20 x3_21 _ _ _ hf hP hS (lv_sub hl [2, 3, 1, 0] rfl)
  · have hf := if_t b_19 hf
    refine lv_ldc (v := (-2000000003)) hx hb hown K81 dX9_scale_13 ?_
    exact w_iret hx hb hr hlocks hP hS (rt_inv hf) dX9_scale_15
set_option maxHeartbeats 4000000 in
set_option maxRecDepth 100000 in
theorem c_X9_join (l : Launch) (D : va_G) (y : y4) (ad : Nat → Nat) (aL aU : Nat) (hI : Inj ad) (n : Nat) (S : St) (a1 : Int32) (a2 : Int32) (r : Unit) (S2 : St) (hf : f_X9_join n S a1 a2 = some (r, S2)) : KV l D y ad aL aU yX9_join wsX9_join ({ frames := 1, cells := 0, slots := 0, locals := 20 }) [.ref (ad 28), .int a1, .int a2] S r S2 := by
  refine Met.ofW (cc := cX9_join) (maxL := 6) (ret := none) (by decide) rfl ?_
  intro p e s m args below meth c s₁ B hml hv
  obtain ⟨rfl, hP, hK, hZ⟩ := hv
  have hx := B.exec
  have hb := B.bytes
  have hr := B.returns
  have hts := atoms_spec (ws := wsX9_join) B.pre
  have hown : s.vm.findClass RX9 = some m.cls := findClass_of_methodNamed B.named
  have hlocks := B.notSynchronized
  have hS : va_S (AA ad) s.heap s.heap [] := va_S.rf
  have L46 := hts (.fieldLink RX9 46 "JoinedTheoriesModel" "sameOf" "[I") (by decide +kernel)
  have L133 := hts (.fieldLink RX9 133 "JoinedTheoriesModel" "terms" "I") (by decide +kernel)
  have n9 : ∀ w ∈ wsX90, w ∈ wsX9_join := by decide +kernel
  have hl := lv_entry ([.ref (ad 28), .int a1, .int a2]) (n := 6) (Nat.le_of_ble_eq_true rfl)
  rw [lg_entry_eq]
  generalize (lg_sl ([.ref (ad 28), .int a1, .int a2]) ++ List.replicate (6 - (lg_sl ([.ref (ad 28), .int a1, .int a2])).length) Slot.unset).toArray = ls at hl ⊢
  have hl : lv_has ls 6 [(0, .ref (ad 28)), (1, .int a1), (2, .int a2)] := hl
  have j104 : ∀ (x3 : Int32) (x4 : Int32) (k66 : St → Int32 → Option (Unit × St)) (hk66 : ∀ (S : St) (x5 : Int32) (H : Heap) (locs : List Loc) (ls : Array Slot), k66 S x5 = some (r, S2) → PW D y ad S H → va_S (AA ad) s.heap H locs → lv_has ls 6 [(0, .ref (ad 28)), (3, .int x3), (4, .int x4), (5, .int x5)] → W p l e (headSpec wsX9_join ({ frames := 1, cells := 0, slots := 0, locals := 20 })).room s m ([.ref (ad 28), .int a1, .int a2] : List Value).toArray below meth c H locs 0 0 (QV below r S2 D y ad ([.ref (ad 28), .int a1, .int a2] : List Value).toArray s) (F0 m 66 ls [])), ∀ (S : St) (x5 : Int32) (t1 : Int32) (t2 : Int32) (H : Heap) (locs : List Loc) (ls : Array Slot), f_X9_join_104 n x3 x4 k66 S x5 t1 t2 = some (r, S2) → PW D y ad S H → va_S (AA ad) s.heap H locs → lv_has ls 6 [(0, .ref (ad 28)), (3, .int x3), (4, .int x4), (5, .int x5)] → W p l e (headSpec wsX9_join ({ frames := 1, cells := 0, slots := 0, locals := 20 })).room s m ([.ref (ad 28), .int a1, .int a2] : List Value).toArray below meth c H locs 0 0 (QV below r S2 D y ad ([.ref (ad 28), .int a1, .int a2] : List Value).toArray s) (F0 m 104 ls [.int t2, .int t1, .ref (ad 41)]) := by
    intro x3 x4 k66 hk66 S x5 t1 t2 H locs ls hf hP hS hl
    unfold f_X9_join_104 at hf
    obtain ⟨g_1, hf⟩ := gd_inv hf
    obtain ⟨S_2, eS_2, hf⟩ := bd_inv hf
    refine w_iast hx hb hK hI hP hS t_41 g_1 dX9_join_104 (fun H locs hP hS => ?_)
    rw [← eS_2] at hP
    obtain ⟨x5_3, ex5_3, hf⟩ := bd_inv hf
    refine lv_iinc (v := x5_3) (lv' := [(5, .int x5_3), (0, .ref (ad 28)), (3, .int x3), (4, .int x4)]) hx hb dX9_join_105 hl (k := 3) rfl (by rw [ex5_3]; rfl) (by decide) rfl (fun ls hl => ?_)
    refine lv_goto (tgt := 66) hx hb dX9_join_108 (by decide) ?_
    exact hk66 S_2 x5_3 _ _ _ hf hP hS (lv_sub hl [1, 2, 3, 0] rfl)
  have b66 : ∀ (x3 : Int32) (x4 : Int32) (k66 : St → Int32 → Option (Unit × St)) (hk66 : ∀ (S : St) (x5 : Int32) (H : Heap) (locs : List Loc) (ls : Array Slot), k66 S x5 = some (r, S2) → PW D y ad S H → va_S (AA ad) s.heap H locs → lv_has ls 6 [(0, .ref (ad 28)), (3, .int x3), (4, .int x4), (5, .int x5)] → W p l e (headSpec wsX9_join ({ frames := 1, cells := 0, slots := 0, locals := 20 })).room s m ([.ref (ad 28), .int a1, .int a2] : List Value).toArray below meth c H locs 0 0 (QV below r S2 D y ad ([.ref (ad 28), .int a1, .int a2] : List Value).toArray s) (F0 m 66 ls [])), ∀ (S : St) (x5 : Int32) (H : Heap) (locs : List Loc) (ls : Array Slot), f_X9_join_66 n x3 x4 k66 S x5 = some (r, S2) → PW D y ad S H → va_S (AA ad) s.heap H locs → lv_has ls 6 [(0, .ref (ad 28)), (3, .int x3), (4, .int x4), (5, .int x5)] → W p l e (headSpec wsX9_join ({ frames := 1, cells := 0, slots := 0, locals := 20 })).room s m ([.ref (ad 28), .int a1, .int a2] : List Value).toArray below meth c H locs 0 0 (QV below r S2 D y ad ([.ref (ad 28), .int a1, .int a2] : List Value).toArray s) (F0 m 66 ls []) := by
    intro x3 x4 k66 hk66 S x5 H locs ls hf hP hS hl
    unfold f_X9_join_66 at hf
    refine lv_iload hx hb dX9_join_66 (lv_at hl 3 rfl) ?_
    refine lv_aload_n hx hb dX9_join_68 rfl (lv_at hl 0 rfl) ?_
    refine w_gI (C := RX9) (T := TX9) hx hb hts n9 hown hK hP t_28 rfl 18 (by decide) L133 rfl dX9_join_69 ?_
    refine lv_icmp_ge (tgt := 111) hx hb dX9_join_72 (by decide) (fun b_4 => ?_) (fun b_4 => ?_)
    · have hf := if_t b_4 hf
      exact w_vret hx hb hr hlocks hP hS (rt_inv hf) dX9_join_111
    · have hf := if_f b_4 hf
      refine lv_aload_n hx hb dX9_join_75 rfl (lv_at hl 0 rfl) ?_
      refine w_gR (z := 41) (C := RX9) (T := TX9) hx hb hts n9 hown hK hP t_28 rfl 25 (by decide) L46 rfl rfl dX9_join_76 ?_
      refine lv_iload hx hb dX9_join_79 (lv_at hl 3 rfl) ?_
      refine lv_aload_n hx hb dX9_join_81 rfl (lv_at hl 0 rfl) ?_
      refine w_gR (z := 41) (C := RX9) (T := TX9) hx hb hts n9 hown hK hP t_28 rfl 25 (by decide) L46 rfl rfl dX9_join_82 ?_
      refine lv_iload hx hb dX9_join_85 (lv_at hl 3 rfl) ?_
      obtain ⟨g_5, hf⟩ := gd_inv hf
      refine w_iald hx hb hK hP t_41 g_5 dX9_join_87 ?_
      refine lv_iload hx hb dX9_join_88 (lv_at hl 2 rfl) ?_
      refine lv_icmp_ne (tgt := 97) hx hb dX9_join_90 (by decide) (fun b_6 => ?_) (fun b_6 => ?_)
      · have hf := if_f b_6 hf
        refine lv_aload_n hx hb dX9_join_97 rfl (lv_at hl 0 rfl) ?_
        refine w_gR (z := 41) (C := RX9) (T := TX9) hx hb hts n9 hown hK hP t_28 rfl 25 (by decide) L46 rfl rfl dX9_join_98 ?_
        refine lv_iload hx hb dX9_join_101 (lv_at hl 3 rfl) ?_
        obtain ⟨g_7, hf⟩ := gd_inv hf
        refine w_iald hx hb hK hP t_41 g_7 dX9_join_103 ?_
        exact j104 x3 x4 k66 hk66 S x5 x5 ((S.1 41 (x5).toNatClampNeg)) _ _ _ hf hP hS (lv_sub hl [0, 1, 2, 3] rfl)
      · have hf := if_t b_6 hf
        refine lv_iload_n hx hb dX9_join_93 rfl (lv_at hl 1 rfl) ?_
        refine lv_goto (tgt := 104) hx hb dX9_join_94 (by decide) ?_
        exact j104 x3 x4 k66 hk66 S x5 x5 x3 _ _ _ hf hP hS (lv_sub hl [0, 1, 2, 3] rfl)
  have j66 : ∀ (x3 : Int32) (x4 : Int32) (fu : Nat), ∀ (S : St) (x5 : Int32) (H : Heap) (locs : List Loc) (ls : Array Slot), fixF (fun _ _ => none) (f_X9_join_66 n x3 x4) fu S x5 = some (r, S2) → PW D y ad S H → va_S (AA ad) s.heap H locs → lv_has ls 6 [(0, .ref (ad 28)), (3, .int x3), (4, .int x4), (5, .int x5)] → W p l e (headSpec wsX9_join ({ frames := 1, cells := 0, slots := 0, locals := 20 })).room s m ([.ref (ad 28), .int a1, .int a2] : List Value).toArray below meth c H locs 0 0 (QV below r S2 D y ad ([.ref (ad 28), .int a1, .int a2] : List Value).toArray s) (F0 m 66 ls []) := by
    intro x3 x4  fu
    induction fu with
    | zero => intro S x5 H locs ls hf hP hS hl; cases hf
    | succ fu ih => exact b66 x3 x4  (fixF (fun _ _ => none) (f_X9_join_66 n x3 x4) fu) ih
  have j61 : ∀ (S : St) (x3 : Int32) (t0 : Int32) (H : Heap) (locs : List Loc) (ls : Array Slot), f_X9_join_61 n S x3 t0 = some (r, S2) → PW D y ad S H → va_S (AA ad) s.heap H locs → lv_has ls 6 [(0, .ref (ad 28)), (3, .int x3)] → W p l e (headSpec wsX9_join ({ frames := 1, cells := 0, slots := 0, locals := 20 })).room s m ([.ref (ad 28), .int a1, .int a2] : List Value).toArray below meth c H locs 0 0 (QV below r S2 D y ad ([.ref (ad 28), .int a1, .int a2] : List Value).toArray s) (F0 m 61 ls [.int t0]) := by
    intro  S x3 t0 H locs ls hf hP hS hl
    unfold f_X9_join_61 at hf
    obtain ⟨x4_8, ex4_8, hf⟩ := bd_inv hf
    refine w_topI ex4_8 ?_
    refine lv_istore (lv' := [(4, .int x4_8), (0, .ref (ad 28)), (3, .int x3)]) hx hb dX9_join_61 hl (by decide) rfl (fun ls hl => ?_)
    refine lv_iconst (v := 0) hx hb dX9_join_63 (by decide) ?_
    obtain ⟨x5_9, ex5_9, hf⟩ := bd_inv hf
    refine w_topI ex5_9 ?_
    refine lv_istore (lv' := [(5, .int x5_9), (4, .int x4_8), (0, .ref (ad 28)), (3, .int x3)]) hx hb dX9_join_64 hl (by decide) rfl (fun ls hl => ?_)
    exact j66 x3 x4_8  n S x5_9 _ _ _ hf hP hS (lv_sub hl [2, 3, 1, 0] rfl)
  have j30 : ∀ (S : St) (x1 : Int32) (x2 : Int32) (t0 : Int32) (H : Heap) (locs : List Loc) (ls : Array Slot), f_X9_join_30 n S x1 x2 t0 = some (r, S2) → PW D y ad S H → va_S (AA ad) s.heap H locs → lv_has ls 6 [(0, .ref (ad 28)), (1, .int x1), (2, .int x2)] → W p l e (headSpec wsX9_join ({ frames := 1, cells := 0, slots := 0, locals := 20 })).room s m ([.ref (ad 28), .int a1, .int a2] : List Value).toArray below meth c H locs 0 0 (QV below r S2 D y ad ([.ref (ad 28), .int a1, .int a2] : List Value).toArray s) (F0 m 30 ls [.int t0]) := by
    intro  S x1 x2 t0 H locs ls hf hP hS hl
    unfold f_X9_join_30 at hf
    obtain ⟨x3_10, ex3_10, hf⟩ := bd_inv hf
    refine w_topI ex3_10 ?_
    refine lv_istore_n (lv' := [(3, .int x3_10), (0, .ref (ad 28)), (1, .int x1), (2, .int x2)]) hx hb dX9_join_30 rfl hl (by decide) rfl (fun ls hl => ?_)
    refine lv_aload_n hx hb dX9_join_31 rfl (lv_at hl 1 rfl) ?_
    refine w_gR (z := 41) (C := RX9) (T := TX9) hx hb hts n9 hown hK hP t_28 rfl 25 (by decide) L46 rfl rfl dX9_join_32 ?_
    refine lv_iload_n hx hb dX9_join_35 rfl (lv_at hl 2 rfl) ?_
    obtain ⟨g_11, hf⟩ := gd_inv hf
    refine w_iald hx hb hK hP t_41 g_11 dX9_join_36 ?_
    refine lv_aload_n hx hb dX9_join_37 rfl (lv_at hl 1 rfl) ?_
    refine w_gR (z := 41) (C := RX9) (T := TX9) hx hb hts n9 hown hK hP t_28 rfl 25 (by decide) L46 rfl rfl dX9_join_38 ?_
    refine lv_iload_n hx hb dX9_join_41 rfl (lv_at hl 3 rfl) ?_
    obtain ⟨g_12, hf⟩ := gd_inv hf
    refine w_iald hx hb hK hP t_41 g_12 dX9_join_42 ?_
    refine lv_icmp_ge (tgt := 55) hx hb dX9_join_43 (by decide) (fun b_13 => ?_) (fun b_13 => ?_)
    · have hf := if_t b_13 hf
      refine lv_aload_n hx hb dX9_join_55 rfl (lv_at hl 1 rfl) ?_
      refine w_gR (z := 41) (C := RX9) (T := TX9) hx hb hts n9 hown hK hP t_28 rfl 25 (by decide) L46 rfl rfl dX9_join_56 ?_
      refine lv_iload_n hx hb dX9_join_59 rfl (lv_at hl 2 rfl) ?_
      obtain ⟨g_14, hf⟩ := gd_inv hf
      refine w_iald hx hb hK hP t_41 g_14 dX9_join_60 ?_
      exact j61   S x3_10 ((S.1 41 (x1).toNatClampNeg)) _ _ _ hf hP hS (lv_sub hl [1, 0] rfl)
    · have hf := if_f b_13 hf
      refine lv_aload_n hx hb dX9_join_46 rfl (lv_at hl 1 rfl) ?_
      refine w_gR (z := 41) (C := RX9) (T := TX9) hx hb hts n9 hown hK hP t_28 rfl 25 (by decide) L46 rfl rfl dX9_join_47 ?_
      refine lv_iload_n hx hb dX9_join_50 rfl (lv_at hl 3 rfl) ?_
      obtain ⟨g_15, hf⟩ := gd_inv hf
      refine w_iald hx hb hK hP t_41 g_15 dX9_join_51 ?_
      refine lv_goto (tgt := 61) hx hb dX9_join_52 (by decide) ?_
      exact j61   S x3_10 ((S.1 41 (x2).toNatClampNeg)) _ _ _ hf hP hS (lv_sub hl [1, 0] rfl)
  unfold f_X9_join at hf
  refine lv_aload_n hx hb dX9_join_0 rfl (lv_at hl 0 rfl) ?_
  refine w_gR (z := 41) (C := RX9) (T := TX9) hx hb hts n9 hown hK hP t_28 rfl 25 (by decide) L46 rfl rfl dX9_join_1 ?_
  refine lv_iload_n hx hb dX9_join_4 rfl (lv_at hl 1 rfl) ?_
  obtain ⟨g_16, hf⟩ := gd_inv hf
  refine w_iald hx hb hK hP t_41 g_16 dX9_join_5 ?_
  refine lv_aload_n hx hb dX9_join_6 rfl (lv_at hl 0 rfl) ?_
  refine w_gR (z := 41) (C := RX9) (T := TX9) hx hb hts n9 hown hK hP t_28 rfl 25 (by decide) L46 rfl rfl dX9_join_7 ?_
  refine lv_iload_n hx hb dX9_join_10 rfl (lv_at hl 2 rfl) ?_
  obtain ⟨g_17, hf⟩ := gd_inv hf
  refine w_iald hx hb hK hP t_41 g_17 dX9_join_11 ?_
  refine lv_icmp_ge (tgt := 24) hx hb dX9_join_12 (by decide) (fun b_18 => ?_) (fun b_18 => ?_)
  · have hf := if_t b_18 hf
    refine lv_aload_n hx hb dX9_join_24 rfl (lv_at hl 0 rfl) ?_
    refine w_gR (z := 41) (C := RX9) (T := TX9) hx hb hts n9 hown hK hP t_28 rfl 25 (by decide) L46 rfl rfl dX9_join_25 ?_
    refine lv_iload_n hx hb dX9_join_28 rfl (lv_at hl 2 rfl) ?_
    obtain ⟨g_19, hf⟩ := gd_inv hf
    refine w_iald hx hb hK hP t_41 g_19 dX9_join_29 ?_
    exact j30   S a1 a2 ((S.1 41 (a2).toNatClampNeg)) _ _ _ hf hP hS (lv_sub hl [0, 1, 2] rfl)
  · have hf := if_f b_18 hf
    refine lv_aload_n hx hb dX9_join_15 rfl (lv_at hl 0 rfl) ?_
    refine w_gR (z := 41) (C := RX9) (T := TX9) hx hb hts n9 hown hK hP t_28 rfl 25 (by decide) L46 rfl rfl dX9_join_16 ?_
    refine lv_iload_n hx hb dX9_join_19 rfl (lv_at hl 1 rfl) ?_
    obtain ⟨g_20, hf⟩ := gd_inv hf
    refine w_iald hx hb hK hP t_41 g_20 dX9_join_20 ?_
    refine lv_goto (tgt := 30) hx hb dX9_join_21 (by decide) ?_
    exact j30   S a1 a2 ((S.1 41 (a1).toNatClampNeg)) _ _ _ hf hP hS (lv_sub hl [0, 1, 2] rfl)
set_option maxHeartbeats 4000000 in
set_option maxRecDepth 100000 in
theorem c_X9_areAlike (l : Launch) (D : va_G) (y : y4) (ad : Nat → Nat) (aL aU : Nat) (hI : Inj ad) (n : Nat) (S : St) (a1 : Int32) (a2 : Int32) (r : Int32) (S2 : St) (hf : f_X9_areAlike n S a1 a2 = some (r, S2)) : KI l D y ad aL aU yX9_areAlike wsX9_areAlike ({ frames := 1, cells := 0, slots := 0, locals := 20 }) [.ref (ad 28), .int a1, .int a2] S r S2 := by
  refine Met.ofW (cc := cX9_areAlike) (maxL := 4) (ret := (some .boolean)) (by decide) rfl ?_
  intro p e s m args below meth c s₁ B hml hv
  obtain ⟨rfl, hP, hK, hZ⟩ := hv
  have hx := B.exec
  have hb := B.bytes
  have hr := B.returns
  have hts := atoms_spec (ws := wsX9_areAlike) B.pre
  have hown : s.vm.findClass RX9 = some m.cls := findClass_of_methodNamed B.named
  have hlocks := B.notSynchronized
  have hS : va_S (AA ad) s.heap s.heap [] := va_S.rf
  have L28 := hts (.fieldLink RX9 28 "JoinedTheoriesModel" "kindOf" "[I") (by decide +kernel)
  have L31 := hts (.fieldLink RX9 31 "JoinedTheoriesModel" "firstOf" "[I") (by decide +kernel)
  have L34 := hts (.fieldLink RX9 34 "JoinedTheoriesModel" "secondOf" "[I") (by decide +kernel)
  have L46 := hts (.fieldLink RX9 46 "JoinedTheoriesModel" "sameOf" "[I") (by decide +kernel)
  have n9 : ∀ w ∈ wsX90, w ∈ wsX9_areAlike := by decide +kernel
  have hl := lv_entry ([.ref (ad 28), .int a1, .int a2]) (n := 4) (Nat.le_of_ble_eq_true rfl)
  rw [lg_entry_eq]
  generalize (lg_sl ([.ref (ad 28), .int a1, .int a2]) ++ List.replicate (4 - (lg_sl ([.ref (ad 28), .int a1, .int a2])).length) Slot.unset).toArray = ls at hl ⊢
  have hl : lv_has ls 4 [(0, .ref (ad 28)), (1, .int a1), (2, .int a2)] := hl
  have j94 : ∀ (S : St) (H : Heap) (locs : List Loc) (ls : Array Slot), f_X9_areAlike_94 n S = some (r, S2) → PW D y ad S H → va_S (AA ad) s.heap H locs → lv_has ls 4 [(0, .ref (ad 28))] → W p l e (headSpec wsX9_areAlike ({ frames := 1, cells := 0, slots := 0, locals := 20 })).room s m ([.ref (ad 28), .int a1, .int a2] : List Value).toArray below meth c H locs 0 0 (QI below r S2 D y ad ([.ref (ad 28), .int a1, .int a2] : List Value).toArray s) (F0 m 94 ls []) := by
    intro  S H locs ls hf hP hS hl
    unfold f_X9_areAlike_94 at hf
    refine lv_iconst (v := 1) hx hb dX9_areAlike_94 (by decide) ?_
    refine lv_goto (tgt := 99) hx hb dX9_areAlike_95 (by decide) ?_
    exact w_zret hx hb hr hlocks (fun h => h (by decide)) hP hS (rt_inv hf) dX9_areAlike_99
  have j54 : ∀ (S : St) (x1 : Int32) (x2 : Int32) (t0 : Int32) (H : Heap) (locs : List Loc) (ls : Array Slot), f_X9_areAlike_54 n S x1 x2 t0 = some (r, S2) → PW D y ad S H → va_S (AA ad) s.heap H locs → lv_has ls 4 [(0, .ref (ad 28)), (1, .int x1), (2, .int x2)] → W p l e (headSpec wsX9_areAlike ({ frames := 1, cells := 0, slots := 0, locals := 20 })).room s m ([.ref (ad 28), .int a1, .int a2] : List Value).toArray below meth c H locs 0 0 (QI below r S2 D y ad ([.ref (ad 28), .int a1, .int a2] : List Value).toArray s) (F0 m 54 ls [.int t0]) := by
    intro  S x1 x2 t0 H locs ls hf hP hS hl
    unfold f_X9_areAlike_54 at hf
    obtain ⟨x3_1, ex3_1, hf⟩ := bd_inv hf
    refine w_topI ex3_1 ?_
    refine lv_istore_n (lv' := [(3, .int x3_1), (0, .ref (ad 28)), (1, .int x1), (2, .int x2)]) hx hb dX9_areAlike_54 rfl hl (by decide) rfl (fun ls hl => ?_)
    refine lv_iload_n hx hb dX9_areAlike_55 rfl (lv_at hl 0 rfl) ?_
    refine lv_if_eq (tgt := 98) hx hb dX9_areAlike_56 (by decide) (fun b_2 => ?_) (fun b_2 => ?_)
    · have hf := if_t b_2 hf
      refine lv_iconst (v := 0) hx hb dX9_areAlike_98 (by decide) ?_
      exact w_zret hx hb hr hlocks (fun h => h (by decide)) hP hS (rt_inv hf) dX9_areAlike_99
    · have hf := if_f b_2 hf
      refine lv_aload_n hx hb dX9_areAlike_59 rfl (lv_at hl 1 rfl) ?_
      refine w_gR (z := 35) (C := RX9) (T := TX9) hx hb hts n9 hown hK hP t_28 rfl 19 (by decide) L28 rfl rfl dX9_areAlike_60 ?_
      refine lv_iload_n hx hb dX9_areAlike_63 rfl (lv_at hl 2 rfl) ?_
      obtain ⟨g_3, hf⟩ := gd_inv hf
      refine w_iald hx hb hK hP t_35 g_3 dX9_areAlike_64 ?_
      refine lv_iconst (v := 1) hx hb dX9_areAlike_65 (by decide) ?_
      refine lv_icmp_eq (tgt := 94) hx hb dX9_areAlike_66 (by decide) (fun b_4 => ?_) (fun b_4 => ?_)
      · have hf := if_t b_4 hf
        exact j94   S  _ _ _ hf hP hS (lv_sub hl [1] rfl)
      · have hf := if_f b_4 hf
        refine lv_aload_n hx hb dX9_areAlike_69 rfl (lv_at hl 1 rfl) ?_
        refine w_gR (z := 41) (C := RX9) (T := TX9) hx hb hts n9 hown hK hP t_28 rfl 25 (by decide) L46 rfl rfl dX9_areAlike_70 ?_
        refine lv_aload_n hx hb dX9_areAlike_73 rfl (lv_at hl 1 rfl) ?_
        refine w_gR (z := 37) (C := RX9) (T := TX9) hx hb hts n9 hown hK hP t_28 rfl 21 (by decide) L34 rfl rfl dX9_areAlike_74 ?_
        refine lv_iload_n hx hb dX9_areAlike_77 rfl (lv_at hl 2 rfl) ?_
        obtain ⟨g_5, hf⟩ := gd_inv hf
        refine w_iald hx hb hK hP t_37 g_5 dX9_areAlike_78 ?_
        obtain ⟨g_6, hf⟩ := gd_inv hf
        refine w_iald hx hb hK hP t_41 g_6 dX9_areAlike_79 ?_
        refine lv_aload_n hx hb dX9_areAlike_80 rfl (lv_at hl 1 rfl) ?_
        refine w_gR (z := 41) (C := RX9) (T := TX9) hx hb hts n9 hown hK hP t_28 rfl 25 (by decide) L46 rfl rfl dX9_areAlike_81 ?_
        refine lv_aload_n hx hb dX9_areAlike_84 rfl (lv_at hl 1 rfl) ?_
        refine w_gR (z := 37) (C := RX9) (T := TX9) hx hb hts n9 hown hK hP t_28 rfl 21 (by decide) L34 rfl rfl dX9_areAlike_85 ?_
        refine lv_iload_n hx hb dX9_areAlike_88 rfl (lv_at hl 3 rfl) ?_
        obtain ⟨g_7, hf⟩ := gd_inv hf
        refine w_iald hx hb hK hP t_37 g_7 dX9_areAlike_89 ?_
        obtain ⟨g_8, hf⟩ := gd_inv hf
        refine w_iald hx hb hK hP t_41 g_8 dX9_areAlike_90 ?_
        refine lv_icmp_ne (tgt := 98) hx hb dX9_areAlike_91 (by decide) (fun b_9 => ?_) (fun b_9 => ?_)
        · have hf := if_f b_9 hf
          refine lv_iconst (v := 0) hx hb dX9_areAlike_98 (by decide) ?_
          exact w_zret hx hb hr hlocks (fun h => h (by decide)) hP hS (rt_inv hf) dX9_areAlike_99
        · have hf := if_t b_9 hf
          exact j94   S  _ _ _ hf hP hS (lv_sub hl [1] rfl)
  have j53 : ∀ (S : St) (x1 : Int32) (x2 : Int32) (H : Heap) (locs : List Loc) (ls : Array Slot), f_X9_areAlike_53 n S x1 x2 = some (r, S2) → PW D y ad S H → va_S (AA ad) s.heap H locs → lv_has ls 4 [(0, .ref (ad 28)), (1, .int x1), (2, .int x2)] → W p l e (headSpec wsX9_areAlike ({ frames := 1, cells := 0, slots := 0, locals := 20 })).room s m ([.ref (ad 28), .int a1, .int a2] : List Value).toArray below meth c H locs 0 0 (QI below r S2 D y ad ([.ref (ad 28), .int a1, .int a2] : List Value).toArray s) (F0 m 53 ls []) := by
    intro  S x1 x2 H locs ls hf hP hS hl
    unfold f_X9_areAlike_53 at hf
    refine lv_iconst (v := 0) hx hb dX9_areAlike_53 (by decide) ?_
    exact j54   S x1 x2 ((0 : Int32)) _ _ _ hf hP hS (lv_sub hl [0, 1, 2] rfl)
  unfold f_X9_areAlike at hf
  refine lv_aload_n hx hb dX9_areAlike_0 rfl (lv_at hl 0 rfl) ?_
  refine w_gR (z := 35) (C := RX9) (T := TX9) hx hb hts n9 hown hK hP t_28 rfl 19 (by decide) L28 rfl rfl dX9_areAlike_1 ?_
  refine lv_iload_n hx hb dX9_areAlike_4 rfl (lv_at hl 1 rfl) ?_
  obtain ⟨g_10, hf⟩ := gd_inv hf
  refine w_iald hx hb hK hP t_35 g_10 dX9_areAlike_5 ?_
  refine lv_if_le (tgt := 53) hx hb dX9_areAlike_6 (by decide) (fun b_11 => ?_) (fun b_11 => ?_)
  · have hf := if_t b_11 hf
    exact j53   S a1 a2 _ _ _ hf hP hS (lv_sub hl [0, 1, 2] rfl)
  · have hf := if_f b_11 hf
    refine lv_aload_n hx hb dX9_areAlike_9 rfl (lv_at hl 0 rfl) ?_
    refine w_gR (z := 35) (C := RX9) (T := TX9) hx hb hts n9 hown hK hP t_28 rfl 19 (by decide) L28 rfl rfl dX9_areAlike_10 ?_
    refine lv_iload_n hx hb dX9_areAlike_13 rfl (lv_at hl 1 rfl) ?_
    obtain ⟨g_12, hf⟩ := gd_inv hf
    refine w_iald hx hb hK hP t_35 g_12 dX9_areAlike_14 ?_
    refine lv_aload_n hx hb dX9_areAlike_15 rfl (lv_at hl 0 rfl) ?_
    refine w_gR (z := 35) (C := RX9) (T := TX9) hx hb hts n9 hown hK hP t_28 rfl 19 (by decide) L28 rfl rfl dX9_areAlike_16 ?_
    refine lv_iload_n hx hb dX9_areAlike_19 rfl (lv_at hl 2 rfl) ?_
    obtain ⟨g_13, hf⟩ := gd_inv hf
    refine w_iald hx hb hK hP t_35 g_13 dX9_areAlike_20 ?_
    refine lv_icmp_ne (tgt := 53) hx hb dX9_areAlike_21 (by decide) (fun b_14 => ?_) (fun b_14 => ?_)
    · have hf := if_f b_14 hf
      exact j53   S a1 a2 _ _ _ hf hP hS (lv_sub hl [0, 1, 2] rfl)
    · have hf := if_t b_14 hf
      refine lv_aload_n hx hb dX9_areAlike_24 rfl (lv_at hl 0 rfl) ?_
      refine w_gR (z := 41) (C := RX9) (T := TX9) hx hb hts n9 hown hK hP t_28 rfl 25 (by decide) L46 rfl rfl dX9_areAlike_25 ?_
      refine lv_aload_n hx hb dX9_areAlike_28 rfl (lv_at hl 0 rfl) ?_
      refine w_gR (z := 36) (C := RX9) (T := TX9) hx hb hts n9 hown hK hP t_28 rfl 20 (by decide) L31 rfl rfl dX9_areAlike_29 ?_
      refine lv_iload_n hx hb dX9_areAlike_32 rfl (lv_at hl 1 rfl) ?_
      obtain ⟨g_15, hf⟩ := gd_inv hf
      refine w_iald hx hb hK hP t_36 g_15 dX9_areAlike_33 ?_
      obtain ⟨g_16, hf⟩ := gd_inv hf
      refine w_iald hx hb hK hP t_41 g_16 dX9_areAlike_34 ?_
      refine lv_aload_n hx hb dX9_areAlike_35 rfl (lv_at hl 0 rfl) ?_
      refine w_gR (z := 41) (C := RX9) (T := TX9) hx hb hts n9 hown hK hP t_28 rfl 25 (by decide) L46 rfl rfl dX9_areAlike_36 ?_
      refine lv_aload_n hx hb dX9_areAlike_39 rfl (lv_at hl 0 rfl) ?_
      refine w_gR (z := 36) (C := RX9) (T := TX9) hx hb hts n9 hown hK hP t_28 rfl 20 (by decide) L31 rfl rfl dX9_areAlike_40 ?_
      refine lv_iload_n hx hb dX9_areAlike_43 rfl (lv_at hl 2 rfl) ?_
      obtain ⟨g_17, hf⟩ := gd_inv hf
      refine w_iald hx hb hK hP t_36 g_17 dX9_areAlike_44 ?_
      obtain ⟨g_18, hf⟩ := gd_inv hf
      refine w_iald hx hb hK hP t_41 g_18 dX9_areAlike_45 ?_
      refine lv_icmp_ne (tgt := 53) hx hb dX9_areAlike_46 (by decide) (fun b_19 => ?_) (fun b_19 => ?_)
      · have hf := if_f b_19 hf
        exact j53   S a1 a2 _ _ _ hf hP hS (lv_sub hl [0, 1, 2] rfl)
      · have hf := if_t b_19 hf
        refine lv_iconst (v := 1) hx hb dX9_areAlike_49 (by decide) ?_
        refine lv_goto (tgt := 54) hx hb dX9_areAlike_50 (by decide) ?_
        exact j54   S a1 a2 ((1 : Int32)) _ _ _ hf hP hS (lv_sub hl [0, 1, 2] rfl)
set_option maxHeartbeats 4000000 in
set_option maxRecDepth 100000 in
theorem c_X9_growSame (l : Launch) (D : va_G) (y : y4) (ad : Nat → Nat) (aL aU : Nat) (hI : Inj ad) (n : Nat) (S : St) (r : Unit) (S2 : St) (hf : f_X9_growSame n S = some (r, S2)) : KV l D y ad aL aU yX9_growSame wsX9_growSame ({ frames := 2, cells := 0, slots := 0, locals := 45 }) [.ref (ad 28)] S r S2 := by
  refine Met.ofW (cc := cX9_growSame) (maxL := 4) (ret := none) (by decide) rfl ?_
  intro p e s m args below meth c s₁ B hml hv
  obtain ⟨rfl, hP, hK, hZ⟩ := hv
  have hx := B.exec
  have hb := B.bytes
  have hr := B.returns
  have hts := atoms_spec (ws := wsX9_growSame) B.pre
  have hown : s.vm.findClass RX9 = some m.cls := findClass_of_methodNamed B.named
  have hlocks := B.notSynchronized
  have hS : va_S (AA ad) s.heap s.heap [] := va_S.rf
  have L46 := hts (.fieldLink RX9 46 "JoinedTheoriesModel" "sameOf" "[I") (by decide +kernel)
  have L133 := hts (.fieldLink RX9 133 "JoinedTheoriesModel" "terms" "I") (by decide +kernel)
  have n9 : ∀ w ∈ wsX90, w ∈ wsX9_growSame := by decide +kernel
  have hl := lv_entry ([.ref (ad 28)]) (n := 4) (Nat.le_of_ble_eq_true rfl)
  rw [lg_entry_eq]
  generalize (lg_sl ([.ref (ad 28)]) ++ List.replicate (4 - (lg_sl ([.ref (ad 28)])).length) Slot.unset).toArray = ls at hl ⊢
  have hl : lv_has ls 4 [(0, .ref (ad 28))] := hl
  have j57 : ∀ (x2 : Int32) (k2 : St → Int32 → Option (Unit × St)) (hk2 : ∀ (S : St) (x1 : Int32) (H : Heap) (locs : List Loc) (ls : Array Slot), k2 S x1 = some (r, S2) → PW D y ad S H → va_S (AA ad) s.heap H locs → lv_has ls 4 [(0, .ref (ad 28)), (1, .int x1)] → W p l e (headSpec wsX9_growSame ({ frames := 2, cells := 0, slots := 0, locals := 45 })).room s m ([.ref (ad 28)] : List Value).toArray below meth c H locs 0 0 (QV below r S2 D y ad ([.ref (ad 28)] : List Value).toArray s) (F0 m 2 ls [])) (k10 : St → Int32 → Int32 → Option (Unit × St)) (hk10 : ∀ (S : St) (x1 : Int32) (x2 : Int32) (H : Heap) (locs : List Loc) (ls : Array Slot), k10 S x1 x2 = some (r, S2) → PW D y ad S H → va_S (AA ad) s.heap H locs → lv_has ls 4 [(0, .ref (ad 28)), (1, .int x1), (2, .int x2)] → W p l e (headSpec wsX9_growSame ({ frames := 2, cells := 0, slots := 0, locals := 45 })).room s m ([.ref (ad 28)] : List Value).toArray below meth c H locs 0 0 (QV below r S2 D y ad ([.ref (ad 28)] : List Value).toArray s) (F0 m 10 ls [])) (k20 : St → Int32 → Int32 → Option (Unit × St)) (hk20 : ∀ (S : St) (x1 : Int32) (x3 : Int32) (H : Heap) (locs : List Loc) (ls : Array Slot), k20 S x1 x3 = some (r, S2) → PW D y ad S H → va_S (AA ad) s.heap H locs → lv_has ls 4 [(0, .ref (ad 28)), (1, .int x1), (2, .int x2), (3, .int x3)] → W p l e (headSpec wsX9_growSame ({ frames := 2, cells := 0, slots := 0, locals := 45 })).room s m ([.ref (ad 28)] : List Value).toArray below meth c H locs 0 0 (QV below r S2 D y ad ([.ref (ad 28)] : List Value).toArray s) (F0 m 20 ls [])), ∀ (S : St) (x1 : Int32) (x3 : Int32) (H : Heap) (locs : List Loc) (ls : Array Slot), f_X9_growSame_57 n x2 k2 k10 k20 S x1 x3 = some (r, S2) → PW D y ad S H → va_S (AA ad) s.heap H locs → lv_has ls 4 [(0, .ref (ad 28)), (1, .int x1), (2, .int x2), (3, .int x3)] → W p l e (headSpec wsX9_growSame ({ frames := 2, cells := 0, slots := 0, locals := 45 })).room s m ([.ref (ad 28)] : List Value).toArray below meth c H locs 0 0 (QV below r S2 D y ad ([.ref (ad 28)] : List Value).toArray s) (F0 m 57 ls []) := by
    intro x2 k2 hk2 k10 hk10 k20 hk20 S x1 x3 H locs ls hf hP hS hl
    unfold f_X9_growSame_57 at hf
    obtain ⟨x3_1, ex3_1, hf⟩ := bd_inv hf
    refine lv_iinc (v := x3_1) (lv' := [(3, .int x3_1), (0, .ref (ad 28)), (1, .int x1), (2, .int x2)]) hx hb dX9_growSame_57 hl (k := 3) rfl (by rw [ex3_1]; rfl) (by decide) rfl (fun ls hl => ?_)
    refine lv_goto (tgt := 20) hx hb dX9_growSame_60 (by decide) ?_
    exact hk20 S x1 x3_1 _ _ _ hf hP hS (lv_sub hl [1, 2, 3, 0] rfl)
  have b20 : ∀ (x2 : Int32) (k2 : St → Int32 → Option (Unit × St)) (hk2 : ∀ (S : St) (x1 : Int32) (H : Heap) (locs : List Loc) (ls : Array Slot), k2 S x1 = some (r, S2) → PW D y ad S H → va_S (AA ad) s.heap H locs → lv_has ls 4 [(0, .ref (ad 28)), (1, .int x1)] → W p l e (headSpec wsX9_growSame ({ frames := 2, cells := 0, slots := 0, locals := 45 })).room s m ([.ref (ad 28)] : List Value).toArray below meth c H locs 0 0 (QV below r S2 D y ad ([.ref (ad 28)] : List Value).toArray s) (F0 m 2 ls [])) (k10 : St → Int32 → Int32 → Option (Unit × St)) (hk10 : ∀ (S : St) (x1 : Int32) (x2 : Int32) (H : Heap) (locs : List Loc) (ls : Array Slot), k10 S x1 x2 = some (r, S2) → PW D y ad S H → va_S (AA ad) s.heap H locs → lv_has ls 4 [(0, .ref (ad 28)), (1, .int x1), (2, .int x2)] → W p l e (headSpec wsX9_growSame ({ frames := 2, cells := 0, slots := 0, locals := 45 })).room s m ([.ref (ad 28)] : List Value).toArray below meth c H locs 0 0 (QV below r S2 D y ad ([.ref (ad 28)] : List Value).toArray s) (F0 m 10 ls [])) (k20 : St → Int32 → Int32 → Option (Unit × St)) (hk20 : ∀ (S : St) (x1 : Int32) (x3 : Int32) (H : Heap) (locs : List Loc) (ls : Array Slot), k20 S x1 x3 = some (r, S2) → PW D y ad S H → va_S (AA ad) s.heap H locs → lv_has ls 4 [(0, .ref (ad 28)), (1, .int x1), (2, .int x2), (3, .int x3)] → W p l e (headSpec wsX9_growSame ({ frames := 2, cells := 0, slots := 0, locals := 45 })).room s m ([.ref (ad 28)] : List Value).toArray below meth c H locs 0 0 (QV below r S2 D y ad ([.ref (ad 28)] : List Value).toArray s) (F0 m 20 ls [])), ∀ (S : St) (x1 : Int32) (x3 : Int32) (H : Heap) (locs : List Loc) (ls : Array Slot), f_X9_growSame_20 n x2 k2 k10 k20 S x1 x3 = some (r, S2) → PW D y ad S H → va_S (AA ad) s.heap H locs → lv_has ls 4 [(0, .ref (ad 28)), (1, .int x1), (2, .int x2), (3, .int x3)] → W p l e (headSpec wsX9_growSame ({ frames := 2, cells := 0, slots := 0, locals := 45 })).room s m ([.ref (ad 28)] : List Value).toArray below meth c H locs 0 0 (QV below r S2 D y ad ([.ref (ad 28)] : List Value).toArray s) (F0 m 20 ls []) := by
    intro x2 k2 hk2 k10 hk10 k20 hk20 S x1 x3 H locs ls hf hP hS hl
    unfold f_X9_growSame_20 at hf
    refine lv_iload_n hx hb dX9_growSame_20 rfl (lv_at hl 3 rfl) ?_
    refine lv_iload_n hx hb dX9_growSame_21 rfl (lv_at hl 2 rfl) ?_
    refine lv_icmp_ge (tgt := 63) hx hb dX9_growSame_22 (by decide) (fun b_2 => ?_) (fun b_2 => ?_)
    · have hf := if_t b_2 hf
      obtain ⟨x2_3, ex2_3, hf⟩ := bd_inv hf
      refine lv_iinc (v := x2_3) (lv' := [(2, .int x2_3), (0, .ref (ad 28)), (1, .int x1), (3, .int x3)]) hx hb dX9_growSame_63 hl (k := 2) rfl (by rw [ex2_3]; rfl) (by decide) rfl (fun ls hl => ?_)
      refine lv_goto (tgt := 10) hx hb dX9_growSame_66 (by decide) ?_
      exact hk10 S x1 x2_3 _ _ _ hf hP hS (lv_sub hl [1, 2, 0] rfl)
    · have hf := if_f b_2 hf
      refine lv_aload_n hx hb dX9_growSame_25 rfl (lv_at hl 0 rfl) ?_
      refine w_gR (z := 41) (C := RX9) (T := TX9) hx hb hts n9 hown hK hP t_28 rfl 25 (by decide) L46 rfl rfl dX9_growSame_26 ?_
      refine lv_iload_n hx hb dX9_growSame_29 rfl (lv_at hl 2 rfl) ?_
      obtain ⟨g_4, hf⟩ := gd_inv hf
      refine w_iald hx hb hK hP t_41 g_4 dX9_growSame_30 ?_
      refine lv_aload_n hx hb dX9_growSame_31 rfl (lv_at hl 0 rfl) ?_
      refine w_gR (z := 41) (C := RX9) (T := TX9) hx hb hts n9 hown hK hP t_28 rfl 25 (by decide) L46 rfl rfl dX9_growSame_32 ?_
      refine lv_iload_n hx hb dX9_growSame_35 rfl (lv_at hl 3 rfl) ?_
      obtain ⟨g_5, hf⟩ := gd_inv hf
      refine w_iald hx hb hK hP t_41 g_5 dX9_growSame_36 ?_
      refine lv_icmp_eq (tgt := 57) hx hb dX9_growSame_37 (by decide) (fun b_6 => ?_) (fun b_6 => ?_)
      · have hf := if_t b_6 hf
        exact j57 x2 k2 hk2 k10 hk10 k20 hk20 S x1 x3 _ _ _ hf hP hS (lv_sub hl [0, 1, 2, 3] rfl)
      · have hf := if_f b_6 hf
        refine lv_aload_n hx hb dX9_growSame_40 rfl (lv_at hl 0 rfl) ?_
        refine lv_iload_n hx hb dX9_growSame_41 rfl (lv_at hl 2 rfl) ?_
        refine lv_iload_n hx hb dX9_growSame_42 rfl (lv_at hl 3 rfl) ?_
        obtain ⟨r_7, S_8, hc_9, hf⟩ := bo_inv hf
        refine w_ci (va_runV (As := [.int x2, .int x3]) (rest := []) ⟨hx, hb, hml, hown, hts⟩ (c_X9_areAlike l D y ad aL aU hI n S x2 x3 _ _ hc_9) (cwV 2 hts gX9_growSame_X9_areAlike rfl rfl rfl (by decide +kernel) ⟨Nat.le_of_ble_eq_true rfl, Nat.le_of_ble_eq_true rfl⟩) (pwu_V t_28 rfl hP hK hZ hS) rfl rfl hl.1 rfl (lv_room (Nat.le_of_ble_eq_true rfl)) dX9_growSame_43 ⟨Nat.zero_le _, Nat.zero_le _⟩) hS (fun H locs hP hS => ?_)
        refine lv_if_eq (tgt := 57) hx hb dX9_growSame_46 (by decide) (fun b_10 => ?_) (fun b_10 => ?_)
        · have hf := if_t b_10 hf
          exact j57 x2 k2 hk2 k10 hk10 k20 hk20 S_8 x1 x3 _ _ _ hf hP hS (lv_sub hl [0, 1, 2, 3] rfl)
        · have hf := if_f b_10 hf
          refine lv_aload_n hx hb dX9_growSame_49 rfl (lv_at hl 0 rfl) ?_
          refine lv_iload_n hx hb dX9_growSame_50 rfl (lv_at hl 2 rfl) ?_
          refine lv_iload_n hx hb dX9_growSame_51 rfl (lv_at hl 3 rfl) ?_
          obtain ⟨r_11, S_12, hc_13, hf⟩ := bo_inv hf
          refine w_cv (va_runV (As := [.int x2, .int x3]) (rest := []) ⟨hx, hb, hml, hown, hts⟩ (c_X9_join l D y ad aL aU hI n S_8 x2 x3 _ _ hc_13) (cwV 2 hts gX9_growSame_X9_join rfl rfl rfl (by decide +kernel) ⟨Nat.le_of_ble_eq_true rfl, Nat.le_of_ble_eq_true rfl⟩) (pwu_V t_28 rfl hP hK hZ hS) rfl rfl hl.1 rfl (lv_room (Nat.le_of_ble_eq_true rfl)) dX9_growSame_52 ⟨Nat.zero_le _, Nat.zero_le _⟩) hS (fun H locs hP hS => ?_)
          refine lv_iconst (v := 1) hx hb dX9_growSame_55 (by decide) ?_
          obtain ⟨x1_14, ex1_14, hf⟩ := bd_inv hf
          refine w_topI ex1_14 ?_
          refine lv_istore_n (lv' := [(1, .int x1_14), (0, .ref (ad 28)), (2, .int x2), (3, .int x3)]) hx hb dX9_growSame_56 rfl hl (by decide) rfl (fun ls hl => ?_)
          exact j57 x2 k2 hk2 k10 hk10 k20 hk20 S_12 x1_14 x3 _ _ _ hf hP hS (lv_sub hl [1, 0, 2, 3] rfl)
  have j20 : ∀ (x2 : Int32) (k2 : St → Int32 → Option (Unit × St)) (hk2 : ∀ (S : St) (x1 : Int32) (H : Heap) (locs : List Loc) (ls : Array Slot), k2 S x1 = some (r, S2) → PW D y ad S H → va_S (AA ad) s.heap H locs → lv_has ls 4 [(0, .ref (ad 28)), (1, .int x1)] → W p l e (headSpec wsX9_growSame ({ frames := 2, cells := 0, slots := 0, locals := 45 })).room s m ([.ref (ad 28)] : List Value).toArray below meth c H locs 0 0 (QV below r S2 D y ad ([.ref (ad 28)] : List Value).toArray s) (F0 m 2 ls [])) (k10 : St → Int32 → Int32 → Option (Unit × St)) (hk10 : ∀ (S : St) (x1 : Int32) (x2 : Int32) (H : Heap) (locs : List Loc) (ls : Array Slot), k10 S x1 x2 = some (r, S2) → PW D y ad S H → va_S (AA ad) s.heap H locs → lv_has ls 4 [(0, .ref (ad 28)), (1, .int x1), (2, .int x2)] → W p l e (headSpec wsX9_growSame ({ frames := 2, cells := 0, slots := 0, locals := 45 })).room s m ([.ref (ad 28)] : List Value).toArray below meth c H locs 0 0 (QV below r S2 D y ad ([.ref (ad 28)] : List Value).toArray s) (F0 m 10 ls [])) (fu : Nat), ∀ (S : St) (x1 : Int32) (x3 : Int32) (H : Heap) (locs : List Loc) (ls : Array Slot), fixF (fun _ _ _ => none) (f_X9_growSame_20 n x2 k2 k10) fu S x1 x3 = some (r, S2) → PW D y ad S H → va_S (AA ad) s.heap H locs → lv_has ls 4 [(0, .ref (ad 28)), (1, .int x1), (2, .int x2), (3, .int x3)] → W p l e (headSpec wsX9_growSame ({ frames := 2, cells := 0, slots := 0, locals := 45 })).room s m ([.ref (ad 28)] : List Value).toArray below meth c H locs 0 0 (QV below r S2 D y ad ([.ref (ad 28)] : List Value).toArray s) (F0 m 20 ls []) := by
    intro x2 k2 hk2 k10 hk10 fu
    induction fu with
    | zero => intro S x1 x3 H locs ls hf hP hS hl; cases hf
    | succ fu ih => exact b20 x2 k2 hk2 k10 hk10 (fixF (fun _ _ _ => none) (f_X9_growSame_20 n x2 k2 k10) fu) ih
  have b10 : ∀ (k2 : St → Int32 → Option (Unit × St)) (hk2 : ∀ (S : St) (x1 : Int32) (H : Heap) (locs : List Loc) (ls : Array Slot), k2 S x1 = some (r, S2) → PW D y ad S H → va_S (AA ad) s.heap H locs → lv_has ls 4 [(0, .ref (ad 28)), (1, .int x1)] → W p l e (headSpec wsX9_growSame ({ frames := 2, cells := 0, slots := 0, locals := 45 })).room s m ([.ref (ad 28)] : List Value).toArray below meth c H locs 0 0 (QV below r S2 D y ad ([.ref (ad 28)] : List Value).toArray s) (F0 m 2 ls [])) (k10 : St → Int32 → Int32 → Option (Unit × St)) (hk10 : ∀ (S : St) (x1 : Int32) (x2 : Int32) (H : Heap) (locs : List Loc) (ls : Array Slot), k10 S x1 x2 = some (r, S2) → PW D y ad S H → va_S (AA ad) s.heap H locs → lv_has ls 4 [(0, .ref (ad 28)), (1, .int x1), (2, .int x2)] → W p l e (headSpec wsX9_growSame ({ frames := 2, cells := 0, slots := 0, locals := 45 })).room s m ([.ref (ad 28)] : List Value).toArray below meth c H locs 0 0 (QV below r S2 D y ad ([.ref (ad 28)] : List Value).toArray s) (F0 m 10 ls [])), ∀ (S : St) (x1 : Int32) (x2 : Int32) (H : Heap) (locs : List Loc) (ls : Array Slot), f_X9_growSame_10 n k2 k10 S x1 x2 = some (r, S2) → PW D y ad S H → va_S (AA ad) s.heap H locs → lv_has ls 4 [(0, .ref (ad 28)), (1, .int x1), (2, .int x2)] → W p l e (headSpec wsX9_growSame ({ frames := 2, cells := 0, slots := 0, locals := 45 })).room s m ([.ref (ad 28)] : List Value).toArray below meth c H locs 0 0 (QV below r S2 D y ad ([.ref (ad 28)] : List Value).toArray s) (F0 m 10 ls []) := by
    intro  k2 hk2 k10 hk10 S x1 x2 H locs ls hf hP hS hl
    unfold f_X9_growSame_10 at hf
    refine lv_iload_n hx hb dX9_growSame_10 rfl (lv_at hl 2 rfl) ?_
    refine lv_aload_n hx hb dX9_growSame_11 rfl (lv_at hl 0 rfl) ?_
    refine w_gI (C := RX9) (T := TX9) hx hb hts n9 hown hK hP t_28 rfl 18 (by decide) L133 rfl dX9_growSame_12 ?_
    refine lv_icmp_ge (tgt := 69) hx hb dX9_growSame_15 (by decide) (fun b_15 => ?_) (fun b_15 => ?_)
    · have hf := if_t b_15 hf
      refine lv_goto (tgt := 2) hx hb dX9_growSame_69 (by decide) ?_
      exact hk2 S x1 _ _ _ hf hP hS (lv_sub hl [0, 1] rfl)
    · have hf := if_f b_15 hf
      refine lv_iconst (v := 5) hx hb dX9_growSame_18 (by decide) ?_
      obtain ⟨x3_16, ex3_16, hf⟩ := bd_inv hf
      refine w_topI ex3_16 ?_
      refine lv_istore_n (lv' := [(3, .int x3_16), (0, .ref (ad 28)), (1, .int x1), (2, .int x2)]) hx hb dX9_growSame_19 rfl hl (by decide) rfl (fun ls hl => ?_)
      exact j20 x2 k2 hk2 k10 hk10 n S x1 x3_16 _ _ _ hf hP hS (lv_sub hl [1, 2, 3, 0] rfl)
  have j10 : ∀ (k2 : St → Int32 → Option (Unit × St)) (hk2 : ∀ (S : St) (x1 : Int32) (H : Heap) (locs : List Loc) (ls : Array Slot), k2 S x1 = some (r, S2) → PW D y ad S H → va_S (AA ad) s.heap H locs → lv_has ls 4 [(0, .ref (ad 28)), (1, .int x1)] → W p l e (headSpec wsX9_growSame ({ frames := 2, cells := 0, slots := 0, locals := 45 })).room s m ([.ref (ad 28)] : List Value).toArray below meth c H locs 0 0 (QV below r S2 D y ad ([.ref (ad 28)] : List Value).toArray s) (F0 m 2 ls [])) (fu : Nat), ∀ (S : St) (x1 : Int32) (x2 : Int32) (H : Heap) (locs : List Loc) (ls : Array Slot), fixF (fun _ _ _ => none) (f_X9_growSame_10 n k2) fu S x1 x2 = some (r, S2) → PW D y ad S H → va_S (AA ad) s.heap H locs → lv_has ls 4 [(0, .ref (ad 28)), (1, .int x1), (2, .int x2)] → W p l e (headSpec wsX9_growSame ({ frames := 2, cells := 0, slots := 0, locals := 45 })).room s m ([.ref (ad 28)] : List Value).toArray below meth c H locs 0 0 (QV below r S2 D y ad ([.ref (ad 28)] : List Value).toArray s) (F0 m 10 ls []) := by
    intro  k2 hk2 fu
    induction fu with
    | zero => intro S x1 x2 H locs ls hf hP hS hl; cases hf
    | succ fu ih => exact b10  k2 hk2 (fixF (fun _ _ _ => none) (f_X9_growSame_10 n k2) fu) ih
  have b2 : ∀ (k2 : St → Int32 → Option (Unit × St)) (hk2 : ∀ (S : St) (x1 : Int32) (H : Heap) (locs : List Loc) (ls : Array Slot), k2 S x1 = some (r, S2) → PW D y ad S H → va_S (AA ad) s.heap H locs → lv_has ls 4 [(0, .ref (ad 28)), (1, .int x1)] → W p l e (headSpec wsX9_growSame ({ frames := 2, cells := 0, slots := 0, locals := 45 })).room s m ([.ref (ad 28)] : List Value).toArray below meth c H locs 0 0 (QV below r S2 D y ad ([.ref (ad 28)] : List Value).toArray s) (F0 m 2 ls [])), ∀ (S : St) (x1 : Int32) (H : Heap) (locs : List Loc) (ls : Array Slot), f_X9_growSame_2 n k2 S x1 = some (r, S2) → PW D y ad S H → va_S (AA ad) s.heap H locs → lv_has ls 4 [(0, .ref (ad 28)), (1, .int x1)] → W p l e (headSpec wsX9_growSame ({ frames := 2, cells := 0, slots := 0, locals := 45 })).room s m ([.ref (ad 28)] : List Value).toArray below meth c H locs 0 0 (QV below r S2 D y ad ([.ref (ad 28)] : List Value).toArray s) (F0 m 2 ls []) := by
    intro  k2 hk2 S x1 H locs ls hf hP hS hl
    unfold f_X9_growSame_2 at hf
    refine lv_iload_n hx hb dX9_growSame_2 rfl (lv_at hl 1 rfl) ?_
    refine lv_if_eq (tgt := 72) hx hb dX9_growSame_3 (by decide) (fun b_17 => ?_) (fun b_17 => ?_)
    · have hf := if_t b_17 hf
      exact w_vret hx hb hr hlocks hP hS (rt_inv hf) dX9_growSame_72
    · have hf := if_f b_17 hf
      refine lv_iconst (v := 0) hx hb dX9_growSame_6 (by decide) ?_
      obtain ⟨x1_18, ex1_18, hf⟩ := bd_inv hf
      refine w_topI ex1_18 ?_
      refine lv_istore_n (lv' := [(1, .int x1_18), (0, .ref (ad 28))]) hx hb dX9_growSame_7 rfl hl (by decide) rfl (fun ls hl => ?_)
      refine lv_iconst (v := 5) hx hb dX9_growSame_8 (by decide) ?_
      obtain ⟨x2_19, ex2_19, hf⟩ := bd_inv hf
      refine w_topI ex2_19 ?_
      refine lv_istore_n (lv' := [(2, .int x2_19), (1, .int x1_18), (0, .ref (ad 28))]) hx hb dX9_growSame_9 rfl hl (by decide) rfl (fun ls hl => ?_)
      exact j10  k2 hk2 n S x1_18 x2_19 _ _ _ hf hP hS (lv_sub hl [2, 1, 0] rfl)
  have j2 : ∀ (fu : Nat), ∀ (S : St) (x1 : Int32) (H : Heap) (locs : List Loc) (ls : Array Slot), fixF (fun _ _ => none) (f_X9_growSame_2 n) fu S x1 = some (r, S2) → PW D y ad S H → va_S (AA ad) s.heap H locs → lv_has ls 4 [(0, .ref (ad 28)), (1, .int x1)] → W p l e (headSpec wsX9_growSame ({ frames := 2, cells := 0, slots := 0, locals := 45 })).room s m ([.ref (ad 28)] : List Value).toArray below meth c H locs 0 0 (QV below r S2 D y ad ([.ref (ad 28)] : List Value).toArray s) (F0 m 2 ls []) := by
    intro   fu
    induction fu with
    | zero => intro S x1 H locs ls hf hP hS hl; cases hf
    | succ fu ih => exact b2   (fixF (fun _ _ => none) (f_X9_growSame_2 n) fu) ih
  unfold f_X9_growSame at hf
  refine lv_iconst (v := 1) hx hb dX9_growSame_0 (by decide) ?_
  obtain ⟨x1_20, ex1_20, hf⟩ := bd_inv hf
  refine w_topI ex1_20 ?_
  refine lv_istore_n (lv' := [(1, .int x1_20), (0, .ref (ad 28))]) hx hb dX9_growSame_1 rfl hl (by decide) rfl (fun ls hl => ?_)
  exact j2   n S x1_20 _ _ _ hf hP hS (lv_sub hl [1, 0] rfl)
set_option maxHeartbeats 4000000 in
set_option maxRecDepth 100000 in
theorem c_X9_least (l : Launch) (D : va_G) (y : y4) (ad : Nat → Nat) (aL aU : Nat) (hI : Inj ad) (n : Nat) (S : St) (a0 : Int64) (a2 : Int64) (r : Int64) (S2 : St) (hf : f_X9_least n S a0 a2 = some (r, S2)) : KL l D y ad aL aU yX9_least wsX9_least ({ frames := 1, cells := 0, slots := 0, locals := 20 }) [.long a0, .long a2] S r S2 := by
  refine Met.ofW (cc := cX9_least) (maxL := 4) (ret := (some .long)) (by decide) rfl ?_
  intro p e s m args below meth c s₁ B hml hv
  obtain ⟨rfl, hP, hK, hZ⟩ := hv
  have hx := B.exec
  have hb := B.bytes
  have hr := B.returns
  have hts := atoms_spec (ws := wsX9_least) B.pre
  have hown : s.vm.findClass RX9 = some m.cls := findClass_of_methodNamed B.named
  have hlocks := B.notSynchronized
  have hS : va_S (AA ad) s.heap s.heap [] := va_S.rf
  have hl := lv_entry ([.long a0, .long a2]) (n := 4) (Nat.le_of_ble_eq_true rfl)
  rw [lg_entry_eq]
  generalize (lg_sl ([.long a0, .long a2]) ++ List.replicate (4 - (lg_sl ([.long a0, .long a2])).length) Slot.unset).toArray = ls at hl ⊢
  have hl : lv_has ls 4 [(0, .long a0), (2, .long a2)] := hl
  unfold f_X9_least at hf
  refine lv_lload_n hx hb dX9_least_0 rfl (lv_at hl 0 rfl) ?_
  refine lv_lload_n hx hb dX9_least_1 rfl (lv_at hl 1 rfl) ?_
  refine W.lcmp hx hb dX9_least_2 ?_
  refine lv_if_ge (tgt := 10) hx hb dX9_least_3 (by decide) (fun b_1 => ?_) (fun b_1 => ?_)
  · have hf := if_t b_1 hf
    refine lv_lload_n hx hb dX9_least_10 rfl (lv_at hl 1 rfl) ?_
    exact w_lret hx hb hr hlocks hP hS (rt_inv hf) dX9_least_11
  · have hf := if_f b_1 hf
    refine lv_lload_n hx hb dX9_least_6 rfl (lv_at hl 0 rfl) ?_
    refine lv_goto (tgt := 11) hx hb dX9_least_7 (by decide) ?_
    exact w_lret hx hb hr hlocks hP hS (rt_inv hf) dX9_least_11
