set_option maxHeartbeats 4000000 in
set_option maxRecDepth 100000 in
theorem c_X5_firstFault (l : Launch) (D : va_G) (y : y4) (ad : Nat → Nat) (aL aU : Nat) (hI : Inj ad) (n : Nat) (S : St) (a2 : Int32) (r : Int32) (S2 : St) (hf : f_X5_firstFault n S a2 = some (r, S2)) : KI l D y ad aL aU yX5_firstFault wsX5_firstFault ({ frames := 4, cells := 0, slots := 0, locals := 84 }) [.ref (ad 2), .ref (ad 1), .int a2] S r S2 := by
  refine Met.ofW (cc := cX5_firstFault) (maxL := 4) (ret := (some .int)) (by decide) rfl ?_
  intro p e s m args below meth c s₁ B hml hv
  obtain ⟨rfl, hP, hK, hZ⟩ := hv
  have hx := B.exec
  have hb := B.bytes
  have hr := B.returns
  have hts := atoms_spec (ws := wsX5_firstFault) B.pre
  have hown : s.vm.findClass RX5 = some m.cls := findClass_of_methodNamed B.named
  have hlocks := B.notSynchronized
  have hS : va_S (AA ad) s.heap s.heap [] := va_S.rf
  have L21 := hts (.fieldLink RX5 21 "JoinedTheories$Reader" "state" "I") (by decide +kernel)
  have L25 := hts (.fieldLink RX5 25 "JoinedTheories$Reader" "depth" "I") (by decide +kernel)
  have L28 := hts (.fieldLink RX5 28 "JoinedTheories$Reader" "symbolCount" "I") (by decide +kernel)
  have L31 := hts (.fieldLink RX5 31 "JoinedTheories$Reader" "kind" "I") (by decide +kernel)
  have L34 := hts (.fieldLink RX5 34 "JoinedTheories$Reader" "negative" "Z") (by decide +kernel)
  have L38 := hts (.fieldLink RX5 38 "JoinedTheories$Reader" "digits" "I") (by decide +kernel)
  have n5 : ∀ w ∈ wsX50, w ∈ wsX5_firstFault := by decide +kernel
  have hl := lv_entry ([.ref (ad 2), .ref (ad 1), .int a2]) (n := 4) (Nat.le_of_ble_eq_true rfl)
  rw [lg_entry_eq]
  generalize (lg_sl ([.ref (ad 2), .ref (ad 1), .int a2]) ++ List.replicate (4 - (lg_sl ([.ref (ad 2), .ref (ad 1), .int a2])).length) Slot.unset).toArray = ls at hl ⊢
  have hl : lv_has ls 4 [(0, .ref (ad 2)), (1, .ref (ad 1)), (2, .int a2)] := hl
  have b32 : ∀ (x2 : Int32) (k32 : St → Int32 → Option (Int32 × St)) (hk32 : ∀ (S : St) (x3 : Int32) (H : Heap) (locs : List Loc) (ls : Array Slot), k32 S x3 = some (r, S2) → PW D y ad S H → va_S (AA ad) s.heap H locs → lv_has ls 4 [(0, .ref (ad 2)), (1, .ref (ad 1)), (2, .int x2), (3, .int x3)] → W p l e (headSpec wsX5_firstFault ({ frames := 4, cells := 0, slots := 0, locals := 84 })).room s m ([.ref (ad 2), .ref (ad 1), .int a2] : List Value).toArray below meth c H locs 0 0 (QI below r S2 D y ad ([.ref (ad 2), .ref (ad 1), .int a2] : List Value).toArray s) (F0 m 32 ls [])), ∀ (S : St) (x3 : Int32) (H : Heap) (locs : List Loc) (ls : Array Slot), f_X5_firstFault_32 n x2 k32 S x3 = some (r, S2) → PW D y ad S H → va_S (AA ad) s.heap H locs → lv_has ls 4 [(0, .ref (ad 2)), (1, .ref (ad 1)), (2, .int x2), (3, .int x3)] → W p l e (headSpec wsX5_firstFault ({ frames := 4, cells := 0, slots := 0, locals := 84 })).room s m ([.ref (ad 2), .ref (ad 1), .int a2] : List Value).toArray below meth c H locs 0 0 (QI below r S2 D y ad ([.ref (ad 2), .ref (ad 1), .int a2] : List Value).toArray s) (F0 m 32 ls []) := by
    intro x2 k32 hk32 S x3 H locs ls hf hP hS hl
    unfold f_X5_firstFault_32 at hf
    refine lv_iload_n hx hb dX5_firstFault_32 rfl (lv_at hl 3 rfl) ?_
    refine lv_iload_n hx hb dX5_firstFault_33 rfl (lv_at hl 2 rfl) ?_
    refine lv_icmp_ge (tgt := 61) hx hb dX5_firstFault_34 (by decide) (fun b_1 => ?_) (fun b_1 => ?_)
    · have hf := if_t b_1 hf
      refine lv_iload_n hx hb dX5_firstFault_61 rfl (lv_at hl 2 rfl) ?_
      exact w_iret hx hb hr hlocks hP hS (rt_inv hf) dX5_firstFault_62
    · have hf := if_f b_1 hf
      refine lv_iload_n hx hb dX5_firstFault_37 rfl (lv_at hl 3 rfl) ?_
      refine lv_aload_n hx hb dX5_firstFault_38 rfl (lv_at hl 1 rfl) ?_
      refine w_alenI hx hb hK hP t_1 dX5_firstFault_39 ?_
      refine lv_icmp_ge (tgt := 61) hx hb dX5_firstFault_40 (by decide) (fun b_2 => ?_) (fun b_2 => ?_)
      · have hf := if_t b_2 hf
        refine lv_iload_n hx hb dX5_firstFault_61 rfl (lv_at hl 2 rfl) ?_
        exact w_iret hx hb hr hlocks hP hS (rt_inv hf) dX5_firstFault_62
      · have hf := if_f b_2 hf
        refine lv_aload_n hx hb dX5_firstFault_43 rfl (lv_at hl 0 rfl) ?_
        refine lv_aload_n hx hb dX5_firstFault_44 rfl (lv_at hl 1 rfl) ?_
        refine lv_iload_n hx hb dX5_firstFault_45 rfl (lv_at hl 3 rfl) ?_
        obtain ⟨g_3, hf⟩ := gd_inv hf
        refine w_iald hx hb hK hP t_1 g_3 dX5_firstFault_46 ?_
        obtain ⟨r_4, S_5, hc_6, hf⟩ := bo_inv hf
        refine w_ci (va_runV (As := [.int (S.1 1 (x3).toNatClampNeg)]) (rest := []) ⟨hx, hb, hml, hown, hts⟩ (c_X5_goesOnWith l D y ad aL aU hI n S ((S.1 1 (x3).toNatClampNeg)) _ _ hc_6) (cwV 1 hts gX5_firstFault_X5_goesOnWith rfl rfl rfl (by decide +kernel) ⟨Nat.le_of_ble_eq_true rfl, Nat.le_of_ble_eq_true rfl⟩) (pwu_V t_2 rfl hP hK hZ hS) rfl rfl hl.1 rfl (lv_room (Nat.le_of_ble_eq_true rfl)) dX5_firstFault_47 ⟨Nat.zero_le _, Nat.zero_le _⟩) hS (fun H locs hP hS => ?_)
        refine lv_if_ne (tgt := 55) hx hb dX5_firstFault_50 (by decide) (fun b_7 => ?_) (fun b_7 => ?_)
        · have hf := if_f b_7 hf
          obtain ⟨x3_8, ex3_8, hf⟩ := bd_inv hf
          refine lv_iinc (v := x3_8) (lv' := [(3, .int x3_8), (0, .ref (ad 2)), (1, .ref (ad 1)), (2, .int x2)]) hx hb dX5_firstFault_55 hl (k := 3) rfl (by rw [ex3_8]; rfl) (by decide) rfl (fun ls hl => ?_)
          refine lv_goto (tgt := 32) hx hb dX5_firstFault_58 (by decide) ?_
          exact hk32 S_5 x3_8 _ _ _ hf hP hS (lv_sub hl [1, 2, 3, 0] rfl)
        · have hf := if_t b_7 hf
          refine lv_iload_n hx hb dX5_firstFault_53 rfl (lv_at hl 3 rfl) ?_
          exact w_iret hx hb hr hlocks hP hS (rt_inv hf) dX5_firstFault_54
  have j32 : ∀ (x2 : Int32) (fu : Nat), ∀ (S : St) (x3 : Int32) (H : Heap) (locs : List Loc) (ls : Array Slot), fixF (fun _ _ => none) (f_X5_firstFault_32 n x2) fu S x3 = some (r, S2) → PW D y ad S H → va_S (AA ad) s.heap H locs → lv_has ls 4 [(0, .ref (ad 2)), (1, .ref (ad 1)), (2, .int x2), (3, .int x3)] → W p l e (headSpec wsX5_firstFault ({ frames := 4, cells := 0, slots := 0, locals := 84 })).room s m ([.ref (ad 2), .ref (ad 1), .int a2] : List Value).toArray below meth c H locs 0 0 (QI below r S2 D y ad ([.ref (ad 2), .ref (ad 1), .int a2] : List Value).toArray s) (F0 m 32 ls []) := by
    intro x2  fu
    induction fu with
    | zero => intro S x3 H locs ls hf hP hS hl; cases hf
    | succ fu ih => exact b32 x2  (fixF (fun _ _ => none) (f_X5_firstFault_32 n x2) fu) ih
  unfold f_X5_firstFault at hf
  refine lv_aload_n hx hb dX5_firstFault_0 rfl (lv_at hl 0 rfl) ?_
  refine lv_iconst (v := 0) hx hb dX5_firstFault_1 (by decide) ?_
  obtain ⟨S_9, eS_9, hf⟩ := bd_inv hf
  refine w_pI (ty := .int) (C := RX5) (T := TX5) hx hb hts n5 tyX5 tyX5_ok nmX5 hown hK hI hP hS t_2 rfl 0 (by decide) L21 rfl rfl rfl ⟨rfl, rfl⟩ dX5_firstFault_2 (fun H locs hP hS => ?_)
  rw [← eS_9] at hP
  refine lv_aload_n hx hb dX5_firstFault_5 rfl (lv_at hl 0 rfl) ?_
  refine lv_iconst (v := 0) hx hb dX5_firstFault_6 (by decide) ?_
  obtain ⟨S_10, eS_10, hf⟩ := bd_inv hf
  refine w_pI (ty := .int) (C := RX5) (T := TX5) hx hb hts n5 tyX5 tyX5_ok nmX5 hown hK hI hP hS t_2 rfl 2 (by decide) L25 rfl rfl rfl ⟨rfl, rfl⟩ dX5_firstFault_7 (fun H locs hP hS => ?_)
  rw [← eS_10] at hP
  refine lv_aload_n hx hb dX5_firstFault_10 rfl (lv_at hl 0 rfl) ?_
  refine lv_iconst (v := 0) hx hb dX5_firstFault_11 (by decide) ?_
  obtain ⟨S_11, eS_11, hf⟩ := bd_inv hf
  refine w_pI (ty := .int) (C := RX5) (T := TX5) hx hb hts n5 tyX5 tyX5_ok nmX5 hown hK hI hP hS t_2 rfl 4 (by decide) L28 rfl rfl rfl ⟨rfl, rfl⟩ dX5_firstFault_12 (fun H locs hP hS => ?_)
  rw [← eS_11] at hP
  refine lv_aload_n hx hb dX5_firstFault_15 rfl (lv_at hl 0 rfl) ?_
  refine lv_iconst (v := (-1)) hx hb dX5_firstFault_16 (by decide) ?_
  obtain ⟨S_12, eS_12, hf⟩ := bd_inv hf
  refine w_pI (ty := .int) (C := RX5) (T := TX5) hx hb hts n5 tyX5 tyX5_ok nmX5 hown hK hI hP hS t_2 rfl 5 (by decide) L31 rfl rfl rfl ⟨rfl, rfl⟩ dX5_firstFault_17 (fun H locs hP hS => ?_)
  rw [← eS_12] at hP
  refine lv_aload_n hx hb dX5_firstFault_20 rfl (lv_at hl 0 rfl) ?_
  refine lv_iconst (v := 0) hx hb dX5_firstFault_21 (by decide) ?_
  obtain ⟨S_13, eS_13, hf⟩ := bd_inv hf
  refine w_pI (ty := .boolean) (C := RX5) (T := TX5) hx hb hts n5 tyX5 tyX5_ok nmX5 hown hK hI hP hS t_2 rfl 6 (by decide) L34 rfl rfl rfl ⟨rfl, rfl⟩ dX5_firstFault_22 (fun H locs hP hS => ?_)
  rw [← eS_13] at hP
  refine lv_aload_n hx hb dX5_firstFault_25 rfl (lv_at hl 0 rfl) ?_
  refine lv_iconst (v := 0) hx hb dX5_firstFault_26 (by decide) ?_
  obtain ⟨S_14, eS_14, hf⟩ := bd_inv hf
  refine w_pI (ty := .int) (C := RX5) (T := TX5) hx hb hts n5 tyX5 tyX5_ok nmX5 hown hK hI hP hS t_2 rfl 7 (by decide) L38 rfl rfl rfl ⟨rfl, rfl⟩ dX5_firstFault_27 (fun H locs hP hS => ?_)
  rw [← eS_14] at hP
  refine lv_iconst (v := 0) hx hb dX5_firstFault_30 (by decide) ?_
  obtain ⟨x3_15, ex3_15, hf⟩ := bd_inv hf
  refine w_topI ex3_15 ?_
  refine lv_istore_n (lv' := [(3, .int x3_15), (0, .ref (ad 2)), (1, .ref (ad 1)), (2, .int a2)]) hx hb dX5_firstFault_31 rfl hl (by decide) rfl (fun ls hl => ?_)
  exact j32 a2  n S_14 x3_15 _ _ _ hf hP hS (lv_sub hl [1, 2, 3, 0] rfl)
set_option maxHeartbeats 4000000 in
set_option maxRecDepth 100000 in
theorem c_X5_isComplete (l : Launch) (D : va_G) (y : y4) (ad : Nat → Nat) (aL aU : Nat) (hI : Inj ad) (n : Nat) (S : St) (r : Int32) (S2 : St) (hf : f_X5_isComplete n S = some (r, S2)) : KI l D y ad aL aU yX5_isComplete wsX5_isComplete ({ frames := 1, cells := 0, slots := 0, locals := 20 }) [.ref (ad 2)] S r S2 := by
  refine Met.ofW (cc := cX5_isComplete) (maxL := 2) (ret := (some .boolean)) (by decide) rfl ?_
  intro p e s m args below meth c s₁ B hml hv
  obtain ⟨rfl, hP, hK, hZ⟩ := hv
  have hx := B.exec
  have hb := B.bytes
  have hr := B.returns
  have hts := atoms_spec (ws := wsX5_isComplete) B.pre
  have hown : s.vm.findClass RX5 = some m.cls := findClass_of_methodNamed B.named
  have hlocks := B.notSynchronized
  have hS : va_S (AA ad) s.heap s.heap [] := va_S.rf
  have L21 := hts (.fieldLink RX5 21 "JoinedTheories$Reader" "state" "I") (by decide +kernel)
  have L25 := hts (.fieldLink RX5 25 "JoinedTheories$Reader" "depth" "I") (by decide +kernel)
  have L31 := hts (.fieldLink RX5 31 "JoinedTheories$Reader" "kind" "I") (by decide +kernel)
  have n5 : ∀ w ∈ wsX50, w ∈ wsX5_isComplete := by decide +kernel
  have hl := lv_entry ([.ref (ad 2)]) (n := 2) (Nat.le_of_ble_eq_true rfl)
  rw [lg_entry_eq]
  generalize (lg_sl ([.ref (ad 2)]) ++ List.replicate (2 - (lg_sl ([.ref (ad 2)])).length) Slot.unset).toArray = ls at hl ⊢
  have hl : lv_has ls 2 [(0, .ref (ad 2))] := hl
  have j41 : ∀ (S : St) (H : Heap) (locs : List Loc) (ls : Array Slot), f_X5_isComplete_41 n S = some (r, S2) → PW D y ad S H → va_S (AA ad) s.heap H locs → lv_has ls 2 [(0, .ref (ad 2))] → W p l e (headSpec wsX5_isComplete ({ frames := 1, cells := 0, slots := 0, locals := 20 })).room s m ([.ref (ad 2)] : List Value).toArray below meth c H locs 0 0 (QI below r S2 D y ad ([.ref (ad 2)] : List Value).toArray s) (F0 m 41 ls []) := by
    intro  S H locs ls hf hP hS hl
    unfold f_X5_isComplete_41 at hf
    refine lv_iconst (v := 1) hx hb dX5_isComplete_41 (by decide) ?_
    refine lv_goto (tgt := 46) hx hb dX5_isComplete_42 (by decide) ?_
    exact w_zret hx hb hr hlocks (fun h => h (by decide)) hP hS (rt_inv hf) dX5_isComplete_46
  have j28 : ∀ (S : St) (t0 : Int32) (H : Heap) (locs : List Loc) (ls : Array Slot), f_X5_isComplete_28 n S t0 = some (r, S2) → PW D y ad S H → va_S (AA ad) s.heap H locs → lv_has ls 2 [(0, .ref (ad 2))] → W p l e (headSpec wsX5_isComplete ({ frames := 1, cells := 0, slots := 0, locals := 20 })).room s m ([.ref (ad 2)] : List Value).toArray below meth c H locs 0 0 (QI below r S2 D y ad ([.ref (ad 2)] : List Value).toArray s) (F0 m 28 ls [.int t0]) := by
    intro  S t0 H locs ls hf hP hS hl
    unfold f_X5_isComplete_28 at hf
    obtain ⟨x1_1, ex1_1, hf⟩ := bd_inv hf
    refine w_topI ex1_1 ?_
    refine lv_istore_n (lv' := [(1, .int x1_1), (0, .ref (ad 2))]) hx hb dX5_isComplete_28 rfl hl (by decide) rfl (fun ls hl => ?_)
    refine lv_iload_n hx hb dX5_isComplete_29 rfl (lv_at hl 0 rfl) ?_
    refine lv_if_ne (tgt := 41) hx hb dX5_isComplete_30 (by decide) (fun b_2 => ?_) (fun b_2 => ?_)
    · have hf := if_f b_2 hf
      exact j41   S  _ _ _ hf hP hS (lv_sub hl [1] rfl)
    · have hf := if_t b_2 hf
      refine lv_aload_n hx hb dX5_isComplete_33 rfl (lv_at hl 1 rfl) ?_
      refine w_gI (C := RX5) (T := TX5) hx hb hts n5 hown hK hP t_2 rfl 0 (by decide) L21 rfl dX5_isComplete_34 ?_
      refine lv_iconst (v := 4) hx hb dX5_isComplete_37 (by decide) ?_
      refine lv_icmp_ne (tgt := 45) hx hb dX5_isComplete_38 (by decide) (fun b_3 => ?_) (fun b_3 => ?_)
      · have hf := if_f b_3 hf
        refine lv_iconst (v := 0) hx hb dX5_isComplete_45 (by decide) ?_
        exact w_zret hx hb hr hlocks (fun h => h (by decide)) hP hS (rt_inv hf) dX5_isComplete_46
      · have hf := if_t b_3 hf
        exact j41   S  _ _ _ hf hP hS (lv_sub hl [1] rfl)
  have j27 : ∀ (S : St) (H : Heap) (locs : List Loc) (ls : Array Slot), f_X5_isComplete_27 n S = some (r, S2) → PW D y ad S H → va_S (AA ad) s.heap H locs → lv_has ls 2 [(0, .ref (ad 2))] → W p l e (headSpec wsX5_isComplete ({ frames := 1, cells := 0, slots := 0, locals := 20 })).room s m ([.ref (ad 2)] : List Value).toArray below meth c H locs 0 0 (QI below r S2 D y ad ([.ref (ad 2)] : List Value).toArray s) (F0 m 27 ls []) := by
    intro  S H locs ls hf hP hS hl
    unfold f_X5_isComplete_27 at hf
    refine lv_iconst (v := 0) hx hb dX5_isComplete_27 (by decide) ?_
    exact j28   S ((0 : Int32)) _ _ _ hf hP hS (lv_sub hl [0] rfl)
  unfold f_X5_isComplete at hf
  refine lv_aload_n hx hb dX5_isComplete_0 rfl (lv_at hl 0 rfl) ?_
  refine w_gI (C := RX5) (T := TX5) hx hb hts n5 hown hK hP t_2 rfl 0 (by decide) L21 rfl dX5_isComplete_1 ?_
  refine lv_iconst (v := 2) hx hb dX5_isComplete_4 (by decide) ?_
  refine lv_icmp_ne (tgt := 27) hx hb dX5_isComplete_5 (by decide) (fun b_4 => ?_) (fun b_4 => ?_)
  · have hf := if_f b_4 hf
    exact j27   S  _ _ _ hf hP hS (lv_sub hl [0] rfl)
  · have hf := if_t b_4 hf
    refine lv_aload_n hx hb dX5_isComplete_8 rfl (lv_at hl 0 rfl) ?_
    refine w_gI (C := RX5) (T := TX5) hx hb hts n5 hown hK hP t_2 rfl 2 (by decide) L25 rfl dX5_isComplete_9 ?_
    refine lv_if_ne (tgt := 27) hx hb dX5_isComplete_12 (by decide) (fun b_5 => ?_) (fun b_5 => ?_)
    · have hf := if_f b_5 hf
      exact j27   S  _ _ _ hf hP hS (lv_sub hl [0] rfl)
    · have hf := if_t b_5 hf
      refine lv_aload_n hx hb dX5_isComplete_15 rfl (lv_at hl 0 rfl) ?_
      refine w_gI (C := RX5) (T := TX5) hx hb hts n5 hown hK hP t_2 rfl 5 (by decide) L31 rfl dX5_isComplete_16 ?_
      refine lv_iconst (v := (-1)) hx hb dX5_isComplete_19 (by decide) ?_
      refine lv_icmp_eq (tgt := 27) hx hb dX5_isComplete_20 (by decide) (fun b_6 => ?_) (fun b_6 => ?_)
      · have hf := if_t b_6 hf
        exact j27   S  _ _ _ hf hP hS (lv_sub hl [0] rfl)
      · have hf := if_f b_6 hf
        refine lv_iconst (v := 1) hx hb dX5_isComplete_23 (by decide) ?_
        refine lv_goto (tgt := 28) hx hb dX5_isComplete_24 (by decide) ?_
        exact j28   S ((1 : Int32)) _ _ _ hf hP hS (lv_sub hl [0] rfl)
set_option maxHeartbeats 4000000 in
set_option maxRecDepth 100000 in
theorem c_X5_kind (l : Launch) (D : va_G) (y : y4) (ad : Nat → Nat) (aL aU : Nat) (hI : Inj ad) (n : Nat) (S : St) (r : Int32) (S2 : St) (hf : f_X5_kind n S = some (r, S2)) : KI l D y ad aL aU yX5_kind wsX5_kind ({ frames := 1, cells := 0, slots := 0, locals := 20 }) [.ref (ad 2)] S r S2 := by
  refine Met.ofW (cc := cX5_kind) (maxL := 1) (ret := (some .int)) (by decide) rfl ?_
  intro p e s m args below meth c s₁ B hml hv
  obtain ⟨rfl, hP, hK, hZ⟩ := hv
  have hx := B.exec
  have hb := B.bytes
  have hr := B.returns
  have hts := atoms_spec (ws := wsX5_kind) B.pre
  have hown : s.vm.findClass RX5 = some m.cls := findClass_of_methodNamed B.named
  have hlocks := B.notSynchronized
  have hS : va_S (AA ad) s.heap s.heap [] := va_S.rf
  have L31 := hts (.fieldLink RX5 31 "JoinedTheories$Reader" "kind" "I") (by decide +kernel)
  have n5 : ∀ w ∈ wsX50, w ∈ wsX5_kind := by decide +kernel
  have hl := lv_entry ([.ref (ad 2)]) (n := 1) (Nat.le_of_ble_eq_true rfl)
  rw [lg_entry_eq]
  generalize (lg_sl ([.ref (ad 2)]) ++ List.replicate (1 - (lg_sl ([.ref (ad 2)])).length) Slot.unset).toArray = ls at hl ⊢
  have hl : lv_has ls 1 [(0, .ref (ad 2))] := hl
  unfold f_X5_kind at hf
  refine lv_aload_n hx hb dX5_kind_0 rfl (lv_at hl 0 rfl) ?_
  refine w_gI (C := RX5) (T := TX5) hx hb hts n5 hown hK hP t_2 rfl 5 (by decide) L31 rfl dX5_kind_1 ?_
  exact w_iret hx hb hr hlocks hP hS (rt_inv hf) dX5_kind_4
set_option maxHeartbeats 4000000 in
set_option maxRecDepth 100000 in
theorem c_X5_number (l : Launch) (D : va_G) (y : y4) (ad : Nat → Nat) (aL aU : Nat) (hI : Inj ad) (n : Nat) (S : St) (r : Int32) (S2 : St) (hf : f_X5_number n S = some (r, S2)) : KI l D y ad aL aU yX5_number wsX5_number ({ frames := 1, cells := 0, slots := 0, locals := 20 }) [.ref (ad 2)] S r S2 := by
  refine Met.ofW (cc := cX5_number) (maxL := 1) (ret := (some .int)) (by decide) rfl ?_
  intro p e s m args below meth c s₁ B hml hv
  obtain ⟨rfl, hP, hK, hZ⟩ := hv
  have hx := B.exec
  have hb := B.bytes
  have hr := B.returns
  have hts := atoms_spec (ws := wsX5_number) B.pre
  have hown : s.vm.findClass RX5 = some m.cls := findClass_of_methodNamed B.named
  have hlocks := B.notSynchronized
  have hS : va_S (AA ad) s.heap s.heap [] := va_S.rf
  have L34 := hts (.fieldLink RX5 34 "JoinedTheories$Reader" "negative" "Z") (by decide +kernel)
  have L38 := hts (.fieldLink RX5 38 "JoinedTheories$Reader" "digits" "I") (by decide +kernel)
  have n5 : ∀ w ∈ wsX50, w ∈ wsX5_number := by decide +kernel
  have hl := lv_entry ([.ref (ad 2)]) (n := 1) (Nat.le_of_ble_eq_true rfl)
  rw [lg_entry_eq]
  generalize (lg_sl ([.ref (ad 2)]) ++ List.replicate (1 - (lg_sl ([.ref (ad 2)])).length) Slot.unset).toArray = ls at hl ⊢
  have hl : lv_has ls 1 [(0, .ref (ad 2))] := hl
  unfold f_X5_number at hf
  refine lv_aload_n hx hb dX5_number_0 rfl (lv_at hl 0 rfl) ?_
  refine w_gI (C := RX5) (T := TX5) hx hb hts n5 hown hK hP t_2 rfl 6 (by decide) L34 rfl dX5_number_1 ?_
  refine lv_if_eq (tgt := 15) hx hb dX5_number_4 (by decide) (fun b_1 => ?_) (fun b_1 => ?_)
  · have hf := if_t b_1 hf
    refine lv_aload_n hx hb dX5_number_15 rfl (lv_at hl 0 rfl) ?_
    refine w_gI (C := RX5) (T := TX5) hx hb hts n5 hown hK hP t_2 rfl 7 (by decide) L38 rfl dX5_number_16 ?_
    exact w_iret hx hb hr hlocks hP hS (rt_inv hf) dX5_number_19
  · have hf := if_f b_1 hf
    refine lv_aload_n hx hb dX5_number_7 rfl (lv_at hl 0 rfl) ?_
    refine w_gI (C := RX5) (T := TX5) hx hb hts n5 hown hK hP t_2 rfl 7 (by decide) L38 rfl dX5_number_8 ?_
    refine lv_ineg hx hb dX5_number_11 ?_
    refine lv_goto (tgt := 19) hx hb dX5_number_12 (by decide) ?_
    exact w_iret hx hb hr hlocks hP hS (rt_inv hf) dX5_number_19
set_option maxHeartbeats 4000000 in
set_option maxRecDepth 100000 in
theorem c_X5_left (l : Launch) (D : va_G) (y : y4) (ad : Nat → Nat) (aL aU : Nat) (hI : Inj ad) (n : Nat) (S : St) (r : Int32) (S2 : St) (hf : f_X5_left n S = some (r, S2)) : KI l D y ad aL aU yX5_left wsX5_left ({ frames := 1, cells := 0, slots := 0, locals := 20 }) [.ref (ad 2)] S r S2 := by
  refine Met.ofW (cc := cX5_left) (maxL := 1) (ret := (some .int)) (by decide) rfl ?_
  intro p e s m args below meth c s₁ B hml hv
  obtain ⟨rfl, hP, hK, hZ⟩ := hv
  have hx := B.exec
  have hb := B.bytes
  have hr := B.returns
  have hts := atoms_spec (ws := wsX5_left) B.pre
  have hown : s.vm.findClass RX5 = some m.cls := findClass_of_methodNamed B.named
  have hlocks := B.notSynchronized
  have hS : va_S (AA ad) s.heap s.heap [] := va_S.rf
  have L18 := hts (.fieldLink RX5 18 "JoinedTheories$Reader" "built" "[I") (by decide +kernel)
  have L45 := hts (.fieldLink RX5 45 "JoinedTheories$Reader" "builtCount" "I") (by decide +kernel)
  have K48 := hts (.constant RX5 48 (-2000000001)) (by decide +kernel)
  have n5 : ∀ w ∈ wsX50, w ∈ wsX5_left := by decide +kernel
  have hl := lv_entry ([.ref (ad 2)]) (n := 1) (Nat.le_of_ble_eq_true rfl)
  rw [lg_entry_eq]
  generalize (lg_sl ([.ref (ad 2)]) ++ List.replicate (1 - (lg_sl ([.ref (ad 2)])).length) Slot.unset).toArray = ls at hl ⊢
  have hl : lv_has ls 1 [(0, .ref (ad 2))] := hl
  unfold f_X5_left at hf
  refine lv_aload_n hx hb dX5_left_0 rfl (lv_at hl 0 rfl) ?_
  refine w_gI (C := RX5) (T := TX5) hx hb hts n5 hown hK hP t_2 rfl 9 (by decide) L45 rfl dX5_left_1 ?_
  refine lv_iconst (v := 2) hx hb dX5_left_4 (by decide) ?_
  refine lv_icmp_ne (tgt := 17) hx hb dX5_left_5 (by decide) (fun b_1 => ?_) (fun b_1 => ?_)
  · have hf := if_f b_1 hf
    refine lv_ldc (v := (-2000000001)) hx hb hown K48 dX5_left_17 ?_
    exact w_iret hx hb hr hlocks hP hS (rt_inv hf) dX5_left_19
  · have hf := if_t b_1 hf
    refine lv_aload_n hx hb dX5_left_8 rfl (lv_at hl 0 rfl) ?_
    refine w_gR (z := 5) (C := RX5) (T := TX5) hx hb hts n5 hown hK hP t_2 rfl 8 (by decide) L18 rfl rfl dX5_left_9 ?_
    refine lv_iconst (v := 0) hx hb dX5_left_12 (by decide) ?_
    obtain ⟨g_2, hf⟩ := gd_inv hf
    refine w_iald hx hb hK hP t_5 g_2 dX5_left_13 ?_
    refine lv_goto (tgt := 19) hx hb dX5_left_14 (by decide) ?_
    exact w_iret hx hb hr hlocks hP hS (rt_inv hf) dX5_left_19
set_option maxHeartbeats 4000000 in
set_option maxRecDepth 100000 in
theorem c_X5_right (l : Launch) (D : va_G) (y : y4) (ad : Nat → Nat) (aL aU : Nat) (hI : Inj ad) (n : Nat) (S : St) (r : Int32) (S2 : St) (hf : f_X5_right n S = some (r, S2)) : KI l D y ad aL aU yX5_right wsX5_right ({ frames := 1, cells := 0, slots := 0, locals := 20 }) [.ref (ad 2)] S r S2 := by
  refine Met.ofW (cc := cX5_right) (maxL := 1) (ret := (some .int)) (by decide) rfl ?_
  intro p e s m args below meth c s₁ B hml hv
  obtain ⟨rfl, hP, hK, hZ⟩ := hv
  have hx := B.exec
  have hb := B.bytes
  have hr := B.returns
  have hts := atoms_spec (ws := wsX5_right) B.pre
  have hown : s.vm.findClass RX5 = some m.cls := findClass_of_methodNamed B.named
  have hlocks := B.notSynchronized
  have hS : va_S (AA ad) s.heap s.heap [] := va_S.rf
  have L18 := hts (.fieldLink RX5 18 "JoinedTheories$Reader" "built" "[I") (by decide +kernel)
  have L45 := hts (.fieldLink RX5 45 "JoinedTheories$Reader" "builtCount" "I") (by decide +kernel)
  have K48 := hts (.constant RX5 48 (-2000000001)) (by decide +kernel)
  have n5 : ∀ w ∈ wsX50, w ∈ wsX5_right := by decide +kernel
  have hl := lv_entry ([.ref (ad 2)]) (n := 1) (Nat.le_of_ble_eq_true rfl)
  rw [lg_entry_eq]
  generalize (lg_sl ([.ref (ad 2)]) ++ List.replicate (1 - (lg_sl ([.ref (ad 2)])).length) Slot.unset).toArray = ls at hl ⊢
  have hl : lv_has ls 1 [(0, .ref (ad 2))] := hl
  unfold f_X5_right at hf
  refine lv_aload_n hx hb dX5_right_0 rfl (lv_at hl 0 rfl) ?_
  refine w_gI (C := RX5) (T := TX5) hx hb hts n5 hown hK hP t_2 rfl 9 (by decide) L45 rfl dX5_right_1 ?_
  refine lv_iconst (v := 2) hx hb dX5_right_4 (by decide) ?_
  refine lv_icmp_ne (tgt := 17) hx hb dX5_right_5 (by decide) (fun b_1 => ?_) (fun b_1 => ?_)
  · have hf := if_f b_1 hf
    refine lv_ldc (v := (-2000000001)) hx hb hown K48 dX5_right_17 ?_
    exact w_iret hx hb hr hlocks hP hS (rt_inv hf) dX5_right_19
  · have hf := if_t b_1 hf
    refine lv_aload_n hx hb dX5_right_8 rfl (lv_at hl 0 rfl) ?_
    refine w_gR (z := 5) (C := RX5) (T := TX5) hx hb hts n5 hown hK hP t_2 rfl 8 (by decide) L18 rfl rfl dX5_right_9 ?_
    refine lv_iconst (v := 1) hx hb dX5_right_12 (by decide) ?_
    obtain ⟨g_2, hf⟩ := gd_inv hf
    refine w_iald hx hb hK hP t_5 g_2 dX5_right_13 ?_
    refine lv_goto (tgt := 19) hx hb dX5_right_14 (by decide) ?_
    exact w_iret hx hb hr hlocks hP hS (rt_inv hf) dX5_right_19
set_option maxHeartbeats 4000000 in
set_option maxRecDepth 100000 in
theorem c_X5_takeBuilt (l : Launch) (D : va_G) (y : y4) (ad : Nat → Nat) (aL aU : Nat) (hI : Inj ad) (n : Nat) (S : St) (r : Int32) (S2 : St) (hf : f_X5_takeBuilt n S = some (r, S2)) : KI l D y ad aL aU yX5_takeBuilt wsX5_takeBuilt ({ frames := 1, cells := 0, slots := 0, locals := 20 }) [.ref (ad 2)] S r S2 := by
  refine Met.ofW (cc := cX5_takeBuilt) (maxL := 1) (ret := (some .int)) (by decide) rfl ?_
  intro p e s m args below meth c s₁ B hml hv
  obtain ⟨rfl, hP, hK, hZ⟩ := hv
  have hx := B.exec
  have hb := B.bytes
  have hr := B.returns
  have hts := atoms_spec (ws := wsX5_takeBuilt) B.pre
  have hown : s.vm.findClass RX5 = some m.cls := findClass_of_methodNamed B.named
  have hlocks := B.notSynchronized
  have hS : va_S (AA ad) s.heap s.heap [] := va_S.rf
  have L18 := hts (.fieldLink RX5 18 "JoinedTheories$Reader" "built" "[I") (by decide +kernel)
  have L45 := hts (.fieldLink RX5 45 "JoinedTheories$Reader" "builtCount" "I") (by decide +kernel)
  have K48 := hts (.constant RX5 48 (-2000000001)) (by decide +kernel)
  have n5 : ∀ w ∈ wsX50, w ∈ wsX5_takeBuilt := by decide +kernel
  have hl := lv_entry ([.ref (ad 2)]) (n := 1) (Nat.le_of_ble_eq_true rfl)
  rw [lg_entry_eq]
  generalize (lg_sl ([.ref (ad 2)]) ++ List.replicate (1 - (lg_sl ([.ref (ad 2)])).length) Slot.unset).toArray = ls at hl ⊢
  have hl : lv_has ls 1 [(0, .ref (ad 2))] := hl
  unfold f_X5_takeBuilt at hf
  refine lv_aload_n hx hb dX5_takeBuilt_0 rfl (lv_at hl 0 rfl) ?_
  refine w_gI (C := RX5) (T := TX5) hx hb hts n5 hown hK hP t_2 rfl 9 (by decide) L45 rfl dX5_takeBuilt_1 ?_
  refine lv_iconst (v := 1) hx hb dX5_takeBuilt_4 (by decide) ?_
  refine lv_icmp_lt (tgt := 17) hx hb dX5_takeBuilt_5 (by decide) (fun b_1 => ?_) (fun b_1 => ?_)
  · have hf := if_t b_1 hf
    refine lv_ldc (v := (-2000000001)) hx hb hown K48 dX5_takeBuilt_17 ?_
    exact w_iret hx hb hr hlocks hP hS (rt_inv hf) dX5_takeBuilt_19
  · have hf := if_f b_1 hf
    refine lv_aload_n hx hb dX5_takeBuilt_8 rfl (lv_at hl 0 rfl) ?_
    refine w_gI (C := RX5) (T := TX5) hx hb hts n5 hown hK hP t_2 rfl 9 (by decide) L45 rfl dX5_takeBuilt_9 ?_
    refine lv_bipush (v := (40)) hx hb dX5_takeBuilt_12 (by decide) ?_
    refine lv_icmp_le (tgt := 20) hx hb dX5_takeBuilt_14 (by decide) (fun b_2 => ?_) (fun b_2 => ?_)
    · have hf := if_t b_2 hf
      refine lv_aload_n hx hb dX5_takeBuilt_20 rfl (lv_at hl 0 rfl) ?_
      refine lv_dup hx hb dX5_takeBuilt_21 rfl ?_
      refine w_gI (C := RX5) (T := TX5) hx hb hts n5 hown hK hP t_2 rfl 9 (by decide) L45 rfl dX5_takeBuilt_22 ?_
      refine lv_iconst (v := 1) hx hb dX5_takeBuilt_25 (by decide) ?_
      refine lv_isub hx hb dX5_takeBuilt_26 ?_
      obtain ⟨S_3, eS_3, hf⟩ := bd_inv hf
      refine w_pI (ty := .int) (C := RX5) (T := TX5) hx hb hts n5 tyX5 tyX5_ok nmX5 hown hK hI hP hS t_2 rfl 9 (by decide) L45 rfl rfl rfl ⟨rfl, rfl⟩ dX5_takeBuilt_27 (fun H locs hP hS => ?_)
      rw [← eS_3] at hP
      refine lv_aload_n hx hb dX5_takeBuilt_30 rfl (lv_at hl 0 rfl) ?_
      refine w_gR (z := 5) (C := RX5) (T := TX5) hx hb hts n5 hown hK hP t_2 rfl 8 (by decide) L18 rfl rfl dX5_takeBuilt_31 ?_
      refine lv_aload_n hx hb dX5_takeBuilt_34 rfl (lv_at hl 0 rfl) ?_
      refine w_gI (C := RX5) (T := TX5) hx hb hts n5 hown hK hP t_2 rfl 9 (by decide) L45 rfl dX5_takeBuilt_35 ?_
      obtain ⟨g_4, hf⟩ := gd_inv hf
      refine w_iald hx hb hK hP t_5 g_4 dX5_takeBuilt_38 ?_
      exact w_iret hx hb hr hlocks hP hS (rt_inv hf) dX5_takeBuilt_39
    · have hf := if_f b_2 hf
      refine lv_ldc (v := (-2000000001)) hx hb hown K48 dX5_takeBuilt_17 ?_
      exact w_iret hx hb hr hlocks hP hS (rt_inv hf) dX5_takeBuilt_19
set_option maxHeartbeats 4000000 in
set_option maxRecDepth 100000 in
theorem c_X7_lengthOf (l : Launch) (D : va_G) (y : y4) (ad : Nat → Nat) (aL aU : Nat) (hI : Inj ad) (n : Nat) (q : Nat) (hq : isT q) (S : St) (a1 : Int32) (r : Int32) (S2 : St) (hf : f_X7_lengthOf n q S a1 = some (r, S2)) : KI l D y ad aL aU yX7_lengthOf wsX7_lengthOf ({ frames := 2, cells := 0, slots := 0, locals := 41 }) [.ref (ad q), .int a1] S r S2 := by
  refine Met.ofW (cc := cX7_lengthOf) (maxL := 2) (ret := (some .int)) (by decide) rfl ?_
  intro p e s m args below meth c s₁ B hml hv
  obtain ⟨rfl, hP, hK, hZ⟩ := hv
  have hx := B.exec
  have hb := B.bytes
  have hr := B.returns
  have hts := atoms_spec (ws := wsX7_lengthOf) B.pre
  have hown : s.vm.findClass RX7 = some m.cls := findClass_of_methodNamed B.named
  have hlocks := B.notSynchronized
  have hS : va_S (AA ad) s.heap s.heap [] := va_S.rf
  have L21 := hts (.fieldLink RX7 21 "JoinedTheories$Terms" "lengths" "[I") (by decide +kernel)
  have n7 : ∀ w ∈ wsX70, w ∈ wsX7_lengthOf := by decide +kernel
  have hl := lv_entry ([.ref (ad q), .int a1]) (n := 2) (Nat.le_of_ble_eq_true rfl)
  rw [lg_entry_eq]
  generalize (lg_sl ([.ref (ad q), .int a1]) ++ List.replicate (2 - (lg_sl ([.ref (ad q), .int a1])).length) Slot.unset).toArray = ls at hl ⊢
  have hl : lv_has ls 2 [(0, .ref (ad q)), (1, .int a1)] := hl
  unfold f_X7_lengthOf at hf
  refine lv_aload_n hx hb dX7_lengthOf_0 rfl (lv_at hl 0 rfl) ?_
  refine lv_iload_n hx hb dX7_lengthOf_1 rfl (lv_at hl 1 rfl) ?_
  obtain ⟨r_1, S_2, hc_3, hf⟩ := bo_inv hf
  refine w_ci (va_runV (As := [.int a1]) (rest := []) ⟨hx, hb, hml, hown, hts⟩ (c_X7_has l D y ad aL aU hI n q hq S a1 _ _ hc_3) (cwV 1 hts gX7_lengthOf_X7_has rfl rfl rfl (by decide +kernel) ⟨Nat.le_of_ble_eq_true rfl, Nat.le_of_ble_eq_true rfl⟩) (pwu_V (tT hq) rfl hP hK hZ hS) rfl rfl hl.1 rfl (lv_room (Nat.le_of_ble_eq_true rfl)) dX7_lengthOf_2 ⟨Nat.zero_le _, Nat.zero_le _⟩) hS (fun H locs hP hS => ?_)
  refine lv_if_eq (tgt := 17) hx hb dX7_lengthOf_5 (by decide) (fun b_4 => ?_) (fun b_4 => ?_)
  · have hf := if_t b_4 hf
    refine lv_iconst (v := 0) hx hb dX7_lengthOf_17 (by decide) ?_
    exact w_iret hx hb hr hlocks hP hS (rt_inv hf) dX7_lengthOf_18
  · have hf := if_f b_4 hf
    refine lv_aload_n hx hb dX7_lengthOf_8 rfl (lv_at hl 0 rfl) ?_
    refine w_gR (z := (q + 4)) (C := RX7) (T := TX7) hx hb hts n7 hown hK hP (tT hq) rfl 3 (by decide) L21 rfl (rT3 hq) dX7_lengthOf_9 ?_
    refine lv_iload_n hx hb dX7_lengthOf_12 rfl (lv_at hl 1 rfl) ?_
    obtain ⟨g_5, hf⟩ := gd_inv hf
    refine w_iald hx hb hK hP (tT3 hq) g_5 dX7_lengthOf_13 ?_
    refine lv_goto (tgt := 18) hx hb dX7_lengthOf_14 (by decide) ?_
    exact w_iret hx hb hr hlocks hP hS (rt_inv hf) dX7_lengthOf_18
set_option maxHeartbeats 4000000 in
set_option maxRecDepth 100000 in
theorem c_X7_numberFor (l : Launch) (D : va_G) (y : y4) (ad : Nat → Nat) (aL aU : Nat) (hI : Inj ad) (n : Nat) (q : Nat) (hq : isT q) (S : St) (a1 : Int32) (a2 : Int32) (a3 : Int32) (r : Int32) (S2 : St) (hf : f_X7_numberFor n q S a1 a2 a3 = some (r, S2)) : KI l D y ad aL aU yX7_numberFor wsX7_numberFor ({ frames := 3, cells := 0, slots := 0, locals := 62 }) [.ref (ad q), .int a1, .int a2, .int a3] S r S2 := by
  refine Met.ofW (cc := cX7_numberFor) (maxL := 5) (ret := (some .int)) (by decide) rfl ?_
  intro p e s m args below meth c s₁ B hml hv
  obtain ⟨rfl, hP, hK, hZ⟩ := hv
  have hx := B.exec
  have hb := B.bytes
  have hr := B.returns
  have hts := atoms_spec (ws := wsX7_numberFor) B.pre
  have hown : s.vm.findClass RX7 = some m.cls := findClass_of_methodNamed B.named
  have hlocks := B.notSynchronized
  have hS : va_S (AA ad) s.heap s.heap [] := va_S.rf
  have L9 := hts (.fieldLink RX7 9 "JoinedTheories$Terms" "kinds" "[I") (by decide +kernel)
  have L15 := hts (.fieldLink RX7 15 "JoinedTheories$Terms" "firsts" "[I") (by decide +kernel)
  have L18 := hts (.fieldLink RX7 18 "JoinedTheories$Terms" "seconds" "[I") (by decide +kernel)
  have L21 := hts (.fieldLink RX7 21 "JoinedTheories$Terms" "lengths" "[I") (by decide +kernel)
  have L24 := hts (.fieldLink RX7 24 "JoinedTheories$Terms" "size" "I") (by decide +kernel)
  have K28 := hts (.constant RX7 28 (-2000000001)) (by decide +kernel)
  have n7 : ∀ w ∈ wsX70, w ∈ wsX7_numberFor := by decide +kernel
  have hl := lv_entry ([.ref (ad q), .int a1, .int a2, .int a3]) (n := 5) (Nat.le_of_ble_eq_true rfl)
  rw [lg_entry_eq]
  generalize (lg_sl ([.ref (ad q), .int a1, .int a2, .int a3]) ++ List.replicate (5 - (lg_sl ([.ref (ad q), .int a1, .int a2, .int a3])).length) Slot.unset).toArray = ls at hl ⊢
  have hl : lv_has ls 5 [(0, .ref (ad q)), (1, .int a1), (2, .int a2), (3, .int a3)] := hl
  have j147 : ∀ (S : St) (t1 : Int32) (t2 : Int32) (H : Heap) (locs : List Loc) (ls : Array Slot), f_X7_numberFor_147 n q S t1 t2 = some (r, S2) → PW D y ad S H → va_S (AA ad) s.heap H locs → lv_has ls 5 [(0, .ref (ad q))] → W p l e (headSpec wsX7_numberFor ({ frames := 3, cells := 0, slots := 0, locals := 62 })).room s m ([.ref (ad q), .int a1, .int a2, .int a3] : List Value).toArray below meth c H locs 0 0 (QI below r S2 D y ad ([.ref (ad q), .int a1, .int a2, .int a3] : List Value).toArray s) (F0 m 147 ls [.int t2, .int t1, .ref (ad (q + 4))]) := by
    intro  S t1 t2 H locs ls hf hP hS hl
    unfold f_X7_numberFor_147 at hf
    obtain ⟨g_1, hf⟩ := gd_inv hf
    obtain ⟨S_2, eS_2, hf⟩ := bd_inv hf
    refine w_iast hx hb hK hI hP hS (tT3 hq) g_1 dX7_numberFor_147 (fun H locs hP hS => ?_)
    rw [← eS_2] at hP
    refine lv_aload_n hx hb dX7_numberFor_148 rfl (lv_at hl 0 rfl) ?_
    refine lv_dup hx hb dX7_numberFor_149 rfl ?_
    refine w_gI (C := RX7) (T := TX7) hx hb hts n7 hown hK hP (tT hq) rfl 4 (by decide) L24 rfl dX7_numberFor_150 ?_
    refine lv_iconst (v := 1) hx hb dX7_numberFor_153 (by decide) ?_
    refine lv_iadd hx hb dX7_numberFor_154 ?_
    obtain ⟨S_3, eS_3, hf⟩ := bd_inv hf
    refine w_pI (ty := .int) (C := RX7) (T := TX7) hx hb hts n7 tyX7 tyX7_ok nmX7 hown hK hI hP hS (tT hq) rfl 4 (by decide) L24 rfl rfl rfl ⟨rfl, rfl⟩ dX7_numberFor_155 (fun H locs hP hS => ?_)
    rw [← eS_3] at hP
    refine lv_aload_n hx hb dX7_numberFor_158 rfl (lv_at hl 0 rfl) ?_
    refine w_gI (C := RX7) (T := TX7) hx hb hts n7 hown hK hP (tT hq) rfl 4 (by decide) L24 rfl dX7_numberFor_159 ?_
    refine lv_iconst (v := 1) hx hb dX7_numberFor_162 (by decide) ?_
    refine lv_isub hx hb dX7_numberFor_163 ?_
    exact w_iret hx hb hr hlocks hP hS (rt_inv hf) dX7_numberFor_164
  have j61 : ∀ (S : St) (x1 : Int32) (x2 : Int32) (x3 : Int32) (H : Heap) (locs : List Loc) (ls : Array Slot), f_X7_numberFor_61 n q S x1 x2 x3 = some (r, S2) → PW D y ad S H → va_S (AA ad) s.heap H locs → lv_has ls 5 [(0, .ref (ad q)), (1, .int x1), (2, .int x2), (3, .int x3)] → W p l e (headSpec wsX7_numberFor ({ frames := 3, cells := 0, slots := 0, locals := 62 })).room s m ([.ref (ad q), .int a1, .int a2, .int a3] : List Value).toArray below meth c H locs 0 0 (QI below r S2 D y ad ([.ref (ad q), .int a1, .int a2, .int a3] : List Value).toArray s) (F0 m 61 ls []) := by
    intro  S x1 x2 x3 H locs ls hf hP hS hl
    unfold f_X7_numberFor_61 at hf
    refine lv_aload_n hx hb dX7_numberFor_61 rfl (lv_at hl 0 rfl) ?_
    refine w_gI (C := RX7) (T := TX7) hx hb hts n7 hown hK hP (tT hq) rfl 4 (by decide) L24 rfl dX7_numberFor_62 ?_
    refine lv_iconst (v := 5) hx hb dX7_numberFor_65 (by decide) ?_
    refine lv_icmp_lt (tgt := 78) hx hb dX7_numberFor_66 (by decide) (fun b_4 => ?_) (fun b_4 => ?_)
    · have hf := if_t b_4 hf
      refine lv_ldc (v := (-2000000001)) hx hb hown K28 dX7_numberFor_78 ?_
      exact w_iret hx hb hr hlocks hP hS (rt_inv hf) dX7_numberFor_80
    · have hf := if_f b_4 hf
      refine lv_aload_n hx hb dX7_numberFor_69 rfl (lv_at hl 0 rfl) ?_
      refine w_gI (C := RX7) (T := TX7) hx hb hts n7 hown hK hP (tT hq) rfl 4 (by decide) L24 rfl dX7_numberFor_70 ?_
      refine lv_bipush (v := (10)) hx hb dX7_numberFor_73 (by decide) ?_
      refine lv_icmp_lt (tgt := 81) hx hb dX7_numberFor_75 (by decide) (fun b_5 => ?_) (fun b_5 => ?_)
      · have hf := if_t b_5 hf
        refine lv_aload_n hx hb dX7_numberFor_81 rfl (lv_at hl 0 rfl) ?_
        refine w_gR (z := (q + 1)) (C := RX7) (T := TX7) hx hb hts n7 hown hK hP (tT hq) rfl 0 (by decide) L9 rfl (rT0 hq) dX7_numberFor_82 ?_
        refine lv_aload_n hx hb dX7_numberFor_85 rfl (lv_at hl 0 rfl) ?_
        refine w_gI (C := RX7) (T := TX7) hx hb hts n7 hown hK hP (tT hq) rfl 4 (by decide) L24 rfl dX7_numberFor_86 ?_
        refine lv_iload_n hx hb dX7_numberFor_89 rfl (lv_at hl 1 rfl) ?_
        obtain ⟨g_6, hf⟩ := gd_inv hf
        obtain ⟨S_7, eS_7, hf⟩ := bd_inv hf
        refine w_iast hx hb hK hI hP hS (tT0 hq) g_6 dX7_numberFor_90 (fun H locs hP hS => ?_)
        rw [← eS_7] at hP
        refine lv_aload_n hx hb dX7_numberFor_91 rfl (lv_at hl 0 rfl) ?_
        refine w_gR (z := (q + 2)) (C := RX7) (T := TX7) hx hb hts n7 hown hK hP (tT hq) rfl 1 (by decide) L15 rfl (rT1 hq) dX7_numberFor_92 ?_
        refine lv_aload_n hx hb dX7_numberFor_95 rfl (lv_at hl 0 rfl) ?_
        refine w_gI (C := RX7) (T := TX7) hx hb hts n7 hown hK hP (tT hq) rfl 4 (by decide) L24 rfl dX7_numberFor_96 ?_
        refine lv_iload_n hx hb dX7_numberFor_99 rfl (lv_at hl 2 rfl) ?_
        obtain ⟨g_8, hf⟩ := gd_inv hf
        obtain ⟨S_9, eS_9, hf⟩ := bd_inv hf
        refine w_iast hx hb hK hI hP hS (tT1 hq) g_8 dX7_numberFor_100 (fun H locs hP hS => ?_)
        rw [← eS_9] at hP
        refine lv_aload_n hx hb dX7_numberFor_101 rfl (lv_at hl 0 rfl) ?_
        refine w_gR (z := (q + 3)) (C := RX7) (T := TX7) hx hb hts n7 hown hK hP (tT hq) rfl 2 (by decide) L18 rfl (rT2 hq) dX7_numberFor_102 ?_
        refine lv_aload_n hx hb dX7_numberFor_105 rfl (lv_at hl 0 rfl) ?_
        refine w_gI (C := RX7) (T := TX7) hx hb hts n7 hown hK hP (tT hq) rfl 4 (by decide) L24 rfl dX7_numberFor_106 ?_
        refine lv_iload_n hx hb dX7_numberFor_109 rfl (lv_at hl 3 rfl) ?_
        obtain ⟨g_10, hf⟩ := gd_inv hf
        obtain ⟨S_11, eS_11, hf⟩ := bd_inv hf
        refine w_iast hx hb hK hI hP hS (tT2 hq) g_10 dX7_numberFor_110 (fun H locs hP hS => ?_)
        rw [← eS_11] at hP
        refine lv_aload_n hx hb dX7_numberFor_111 rfl (lv_at hl 0 rfl) ?_
        refine w_gR (z := (q + 4)) (C := RX7) (T := TX7) hx hb hts n7 hown hK hP (tT hq) rfl 3 (by decide) L21 rfl (rT3 hq) dX7_numberFor_112 ?_
        refine lv_aload_n hx hb dX7_numberFor_115 rfl (lv_at hl 0 rfl) ?_
        refine w_gI (C := RX7) (T := TX7) hx hb hts n7 hown hK hP (tT hq) rfl 4 (by decide) L24 rfl dX7_numberFor_116 ?_
        refine lv_iload_n hx hb dX7_numberFor_119 rfl (lv_at hl 1 rfl) ?_
        refine lv_iconst (v := 1) hx hb dX7_numberFor_120 (by decide) ?_
        refine lv_icmp_ne (tgt := 134) hx hb dX7_numberFor_121 (by decide) (fun b_12 => ?_) (fun b_12 => ?_)
        · have hf := if_f b_12 hf
          refine lv_aload_n hx hb dX7_numberFor_134 rfl (lv_at hl 0 rfl) ?_
          refine lv_iload_n hx hb dX7_numberFor_135 rfl (lv_at hl 2 rfl) ?_
          obtain ⟨r_13, S_14, hc_15, hf⟩ := bo_inv hf
          refine w_ci (va_runV (As := [.int x2]) (rest := [.int (S_11.1 q 4), .ref (ad (q + 4))]) ⟨hx, hb, hml, hown, hts⟩ (c_X7_lengthOf l D y ad aL aU hI n q hq S_11 x2 _ _ hc_15) (cwV 1 hts gX7_numberFor_X7_lengthOf rfl rfl rfl (by decide +kernel) ⟨Nat.le_of_ble_eq_true rfl, Nat.le_of_ble_eq_true rfl⟩) (pwu_V (tT hq) rfl hP hK hZ hS) rfl rfl hl.1 rfl (lv_room (Nat.le_of_ble_eq_true rfl)) dX7_numberFor_136 ⟨Nat.zero_le _, Nat.zero_le _⟩) hS (fun H locs hP hS => ?_)
          refine lv_aload_n hx hb dX7_numberFor_139 rfl (lv_at hl 0 rfl) ?_
          refine lv_iload_n hx hb dX7_numberFor_140 rfl (lv_at hl 3 rfl) ?_
          obtain ⟨r_16, S_17, hc_18, hf⟩ := bo_inv hf
          refine w_ci (va_runV (As := [.int x3]) (rest := [.int r_13, .int (S_11.1 q 4), .ref (ad (q + 4))]) ⟨hx, hb, hml, hown, hts⟩ (c_X7_lengthOf l D y ad aL aU hI n q hq S_14 x3 _ _ hc_18) (cwV 1 hts gX7_numberFor_X7_lengthOf rfl rfl rfl (by decide +kernel) ⟨Nat.le_of_ble_eq_true rfl, Nat.le_of_ble_eq_true rfl⟩) (pwu_V (tT hq) rfl hP hK hZ hS) rfl rfl hl.1 rfl (lv_room (Nat.le_of_ble_eq_true rfl)) dX7_numberFor_141 ⟨Nat.zero_le _, Nat.zero_le _⟩) hS (fun H locs hP hS => ?_)
          refine lv_iadd hx hb dX7_numberFor_144 ?_
          refine lv_iconst (v := 4) hx hb dX7_numberFor_145 (by decide) ?_
          refine lv_iadd hx hb dX7_numberFor_146 ?_
          exact j147   S_17 ((S_11.1 q 4)) (((r_13 + r_16) + (4 : Int32))) _ _ _ hf hP hS (lv_sub hl [0] rfl)
        · have hf := if_t b_12 hf
          refine lv_aload_n hx hb dX7_numberFor_124 rfl (lv_at hl 0 rfl) ?_
          refine lv_iload_n hx hb dX7_numberFor_125 rfl (lv_at hl 2 rfl) ?_
          obtain ⟨r_19, S_20, hc_21, hf⟩ := bo_inv hf
          refine w_ci (va_runV (As := [.int x2]) (rest := [.int (S_11.1 q 4), .ref (ad (q + 4))]) ⟨hx, hb, hml, hown, hts⟩ (c_X7_lengthOf l D y ad aL aU hI n q hq S_11 x2 _ _ hc_21) (cwV 1 hts gX7_numberFor_X7_lengthOf rfl rfl rfl (by decide +kernel) ⟨Nat.le_of_ble_eq_true rfl, Nat.le_of_ble_eq_true rfl⟩) (pwu_V (tT hq) rfl hP hK hZ hS) rfl rfl hl.1 rfl (lv_room (Nat.le_of_ble_eq_true rfl)) dX7_numberFor_126 ⟨Nat.zero_le _, Nat.zero_le _⟩) hS (fun H locs hP hS => ?_)
          refine lv_iconst (v := 3) hx hb dX7_numberFor_129 (by decide) ?_
          refine lv_iadd hx hb dX7_numberFor_130 ?_
          refine lv_goto (tgt := 147) hx hb dX7_numberFor_131 (by decide) ?_
          exact j147   S_20 ((S_11.1 q 4)) ((r_19 + (3 : Int32))) _ _ _ hf hP hS (lv_sub hl [0] rfl)
      · have hf := if_f b_5 hf
        refine lv_ldc (v := (-2000000001)) hx hb hown K28 dX7_numberFor_78 ?_
        exact w_iret hx hb hr hlocks hP hS (rt_inv hf) dX7_numberFor_80
  have j55 : ∀ (x1 : Int32) (x2 : Int32) (x3 : Int32) (k3 : St → Int32 → Option (Int32 × St)) (hk3 : ∀ (S : St) (x4 : Int32) (H : Heap) (locs : List Loc) (ls : Array Slot), k3 S x4 = some (r, S2) → PW D y ad S H → va_S (AA ad) s.heap H locs → lv_has ls 5 [(0, .ref (ad q)), (1, .int x1), (2, .int x2), (3, .int x3), (4, .int x4)] → W p l e (headSpec wsX7_numberFor ({ frames := 3, cells := 0, slots := 0, locals := 62 })).room s m ([.ref (ad q), .int a1, .int a2, .int a3] : List Value).toArray below meth c H locs 0 0 (QI below r S2 D y ad ([.ref (ad q), .int a1, .int a2, .int a3] : List Value).toArray s) (F0 m 3 ls [])), ∀ (S : St) (x4 : Int32) (H : Heap) (locs : List Loc) (ls : Array Slot), f_X7_numberFor_55 n q x1 x2 x3 k3 S x4 = some (r, S2) → PW D y ad S H → va_S (AA ad) s.heap H locs → lv_has ls 5 [(0, .ref (ad q)), (1, .int x1), (2, .int x2), (3, .int x3), (4, .int x4)] → W p l e (headSpec wsX7_numberFor ({ frames := 3, cells := 0, slots := 0, locals := 62 })).room s m ([.ref (ad q), .int a1, .int a2, .int a3] : List Value).toArray below meth c H locs 0 0 (QI below r S2 D y ad ([.ref (ad q), .int a1, .int a2, .int a3] : List Value).toArray s) (F0 m 55 ls []) := by
    intro x1 x2 x3 k3 hk3 S x4 H locs ls hf hP hS hl
    unfold f_X7_numberFor_55 at hf
    obtain ⟨x4_22, ex4_22, hf⟩ := bd_inv hf
    refine lv_iinc (v := x4_22) (lv' := [(4, .int x4_22), (0, .ref (ad q)), (1, .int x1), (2, .int x2), (3, .int x3)]) hx hb dX7_numberFor_55 hl (k := 4) rfl (by rw [ex4_22]; rfl) (by decide) rfl (fun ls hl => ?_)
    refine lv_goto (tgt := 3) hx hb dX7_numberFor_58 (by decide) ?_
    exact hk3 S x4_22 _ _ _ hf hP hS (lv_sub hl [1, 2, 3, 4, 0] rfl)
  have b3 : ∀ (x1 : Int32) (x2 : Int32) (x3 : Int32) (k3 : St → Int32 → Option (Int32 × St)) (hk3 : ∀ (S : St) (x4 : Int32) (H : Heap) (locs : List Loc) (ls : Array Slot), k3 S x4 = some (r, S2) → PW D y ad S H → va_S (AA ad) s.heap H locs → lv_has ls 5 [(0, .ref (ad q)), (1, .int x1), (2, .int x2), (3, .int x3), (4, .int x4)] → W p l e (headSpec wsX7_numberFor ({ frames := 3, cells := 0, slots := 0, locals := 62 })).room s m ([.ref (ad q), .int a1, .int a2, .int a3] : List Value).toArray below meth c H locs 0 0 (QI below r S2 D y ad ([.ref (ad q), .int a1, .int a2, .int a3] : List Value).toArray s) (F0 m 3 ls [])), ∀ (S : St) (x4 : Int32) (H : Heap) (locs : List Loc) (ls : Array Slot), f_X7_numberFor_3 n q x1 x2 x3 k3 S x4 = some (r, S2) → PW D y ad S H → va_S (AA ad) s.heap H locs → lv_has ls 5 [(0, .ref (ad q)), (1, .int x1), (2, .int x2), (3, .int x3), (4, .int x4)] → W p l e (headSpec wsX7_numberFor ({ frames := 3, cells := 0, slots := 0, locals := 62 })).room s m ([.ref (ad q), .int a1, .int a2, .int a3] : List Value).toArray below meth c H locs 0 0 (QI below r S2 D y ad ([.ref (ad q), .int a1, .int a2, .int a3] : List Value).toArray s) (F0 m 3 ls []) := by
    intro x1 x2 x3 k3 hk3 S x4 H locs ls hf hP hS hl
    unfold f_X7_numberFor_3 at hf
    refine lv_iload hx hb dX7_numberFor_3 (lv_at hl 4 rfl) ?_
    refine lv_aload_n hx hb dX7_numberFor_5 rfl (lv_at hl 0 rfl) ?_
    refine w_gI (C := RX7) (T := TX7) hx hb hts n7 hown hK hP (tT hq) rfl 4 (by decide) L24 rfl dX7_numberFor_6 ?_
    refine lv_icmp_ge (tgt := 61) hx hb dX7_numberFor_9 (by decide) (fun b_23 => ?_) (fun b_23 => ?_)
    · have hf := if_t b_23 hf
      exact j61   S x1 x2 x3 _ _ _ hf hP hS (lv_sub hl [0, 1, 2, 3] rfl)
    · have hf := if_f b_23 hf
      refine lv_iload hx hb dX7_numberFor_12 (lv_at hl 4 rfl) ?_
      refine lv_bipush (v := (10)) hx hb dX7_numberFor_14 (by decide) ?_
      refine lv_icmp_ge (tgt := 61) hx hb dX7_numberFor_16 (by decide) (fun b_24 => ?_) (fun b_24 => ?_)
      · have hf := if_t b_24 hf
        exact j61   S x1 x2 x3 _ _ _ hf hP hS (lv_sub hl [0, 1, 2, 3] rfl)
      · have hf := if_f b_24 hf
        refine lv_aload_n hx hb dX7_numberFor_19 rfl (lv_at hl 0 rfl) ?_
        refine w_gR (z := (q + 1)) (C := RX7) (T := TX7) hx hb hts n7 hown hK hP (tT hq) rfl 0 (by decide) L9 rfl (rT0 hq) dX7_numberFor_20 ?_
        refine lv_iload hx hb dX7_numberFor_23 (lv_at hl 4 rfl) ?_
        obtain ⟨g_25, hf⟩ := gd_inv hf
        refine w_iald hx hb hK hP (tT0 hq) g_25 dX7_numberFor_25 ?_
        refine lv_iload_n hx hb dX7_numberFor_26 rfl (lv_at hl 1 rfl) ?_
        refine lv_icmp_ne (tgt := 55) hx hb dX7_numberFor_27 (by decide) (fun b_26 => ?_) (fun b_26 => ?_)
        · have hf := if_f b_26 hf
          exact j55 x1 x2 x3 k3 hk3 S x4 _ _ _ hf hP hS (lv_sub hl [0, 1, 2, 3, 4] rfl)
        · have hf := if_t b_26 hf
          refine lv_aload_n hx hb dX7_numberFor_30 rfl (lv_at hl 0 rfl) ?_
          refine w_gR (z := (q + 2)) (C := RX7) (T := TX7) hx hb hts n7 hown hK hP (tT hq) rfl 1 (by decide) L15 rfl (rT1 hq) dX7_numberFor_31 ?_
          refine lv_iload hx hb dX7_numberFor_34 (lv_at hl 4 rfl) ?_
          obtain ⟨g_27, hf⟩ := gd_inv hf
          refine w_iald hx hb hK hP (tT1 hq) g_27 dX7_numberFor_36 ?_
          refine lv_iload_n hx hb dX7_numberFor_37 rfl (lv_at hl 2 rfl) ?_
          refine lv_icmp_ne (tgt := 55) hx hb dX7_numberFor_38 (by decide) (fun b_28 => ?_) (fun b_28 => ?_)
          · have hf := if_f b_28 hf
            exact j55 x1 x2 x3 k3 hk3 S x4 _ _ _ hf hP hS (lv_sub hl [0, 1, 2, 3, 4] rfl)
          · have hf := if_t b_28 hf
            refine lv_aload_n hx hb dX7_numberFor_41 rfl (lv_at hl 0 rfl) ?_
            refine w_gR (z := (q + 3)) (C := RX7) (T := TX7) hx hb hts n7 hown hK hP (tT hq) rfl 2 (by decide) L18 rfl (rT2 hq) dX7_numberFor_42 ?_
            refine lv_iload hx hb dX7_numberFor_45 (lv_at hl 4 rfl) ?_
            obtain ⟨g_29, hf⟩ := gd_inv hf
            refine w_iald hx hb hK hP (tT2 hq) g_29 dX7_numberFor_47 ?_
            refine lv_iload_n hx hb dX7_numberFor_48 rfl (lv_at hl 3 rfl) ?_
            refine lv_icmp_ne (tgt := 55) hx hb dX7_numberFor_49 (by decide) (fun b_30 => ?_) (fun b_30 => ?_)
            · have hf := if_f b_30 hf
              exact j55 x1 x2 x3 k3 hk3 S x4 _ _ _ hf hP hS (lv_sub hl [0, 1, 2, 3, 4] rfl)
            · have hf := if_t b_30 hf
              refine lv_iload hx hb dX7_numberFor_52 (lv_at hl 4 rfl) ?_
              exact w_iret hx hb hr hlocks hP hS (rt_inv hf) dX7_numberFor_54
  have j3 : ∀ (x1 : Int32) (x2 : Int32) (x3 : Int32) (fu : Nat), ∀ (S : St) (x4 : Int32) (H : Heap) (locs : List Loc) (ls : Array Slot), fixF (fun _ _ => none) (f_X7_numberFor_3 n q x1 x2 x3) fu S x4 = some (r, S2) → PW D y ad S H → va_S (AA ad) s.heap H locs → lv_has ls 5 [(0, .ref (ad q)), (1, .int x1), (2, .int x2), (3, .int x3), (4, .int x4)] → W p l e (headSpec wsX7_numberFor ({ frames := 3, cells := 0, slots := 0, locals := 62 })).room s m ([.ref (ad q), .int a1, .int a2, .int a3] : List Value).toArray below meth c H locs 0 0 (QI below r S2 D y ad ([.ref (ad q), .int a1, .int a2, .int a3] : List Value).toArray s) (F0 m 3 ls []) := by
    intro x1 x2 x3  fu
    induction fu with
    | zero => intro S x4 H locs ls hf hP hS hl; cases hf
    | succ fu ih => exact b3 x1 x2 x3  (fixF (fun _ _ => none) (f_X7_numberFor_3 n q x1 x2 x3) fu) ih
  unfold f_X7_numberFor at hf
  refine lv_iconst (v := 5) hx hb dX7_numberFor_0 (by decide) ?_
  obtain ⟨x4_31, ex4_31, hf⟩ := bd_inv hf
  refine w_topI ex4_31 ?_
  refine lv_istore (lv' := [(4, .int x4_31), (0, .ref (ad q)), (1, .int a1), (2, .int a2), (3, .int a3)]) hx hb dX7_numberFor_1 hl (by decide) rfl (fun ls hl => ?_)
  exact j3 a1 a2 a3  n S x4_31 _ _ _ hf hP hS (lv_sub hl [1, 2, 3, 4, 0] rfl)
set_option maxHeartbeats 4000000 in
set_option maxRecDepth 100000 in
theorem c_X5_buildIn (l : Launch) (D : va_G) (y : y4) (ad : Nat → Nat) (aL aU : Nat) (hI : Inj ad) (n : Nat) (S : St) (q1 : Nat) (hq1 : isT q1) (r : Int32) (S2 : St) (hf : f_X5_buildIn n S q1 = some (r, S2)) : KI l D y ad aL aU yX5_buildIn wsX5_buildIn ({ frames := 4, cells := 0, slots := 0, locals := 86 }) [.ref (ad 2), .ref (ad q1)] S r S2 := by
  refine Met.ofW (cc := cX5_buildIn) (maxL := 5) (ret := (some .boolean)) (by decide) rfl ?_
  intro p e s m args below meth c s₁ B hml hv
  obtain ⟨rfl, hP, hK, hZ⟩ := hv
  have hx := B.exec
  have hb := B.bytes
  have hr := B.returns
  have hts := atoms_spec (ws := wsX5_buildIn) B.pre
  have hown : s.vm.findClass RX5 = some m.cls := findClass_of_methodNamed B.named
  have hlocks := B.notSynchronized
  have hS : va_S (AA ad) s.heap s.heap [] := va_S.rf
  have L15 := hts (.fieldLink RX5 15 "JoinedTheories$Reader" "symbols" "[I") (by decide +kernel)
  have L18 := hts (.fieldLink RX5 18 "JoinedTheories$Reader" "built" "[I") (by decide +kernel)
  have L28 := hts (.fieldLink RX5 28 "JoinedTheories$Reader" "symbolCount" "I") (by decide +kernel)
  have L45 := hts (.fieldLink RX5 45 "JoinedTheories$Reader" "builtCount" "I") (by decide +kernel)
  have K48 := hts (.constant RX5 48 (-2000000001)) (by decide +kernel)
  have n5 : ∀ w ∈ wsX50, w ∈ wsX5_buildIn := by decide +kernel
  have hl := lv_entry ([.ref (ad 2), .ref (ad q1)]) (n := 5) (Nat.le_of_ble_eq_true rfl)
  rw [lg_entry_eq]
  generalize (lg_sl ([.ref (ad 2), .ref (ad q1)]) ++ List.replicate (5 - (lg_sl ([.ref (ad 2), .ref (ad q1)])).length) Slot.unset).toArray = ls at hl ⊢
  have hl : lv_has ls 5 [(0, .ref (ad 2)), (1, .ref (ad q1))] := hl
  have j122 : ∀ (S : St) (H : Heap) (locs : List Loc) (ls : Array Slot), f_X5_buildIn_122 n q1 S = some (r, S2) → PW D y ad S H → va_S (AA ad) s.heap H locs → lv_has ls 5 [(0, .ref (ad 2))] → W p l e (headSpec wsX5_buildIn ({ frames := 4, cells := 0, slots := 0, locals := 86 })).room s m ([.ref (ad 2), .ref (ad q1)] : List Value).toArray below meth c H locs 0 0 (QI below r S2 D y ad ([.ref (ad 2), .ref (ad q1)] : List Value).toArray s) (F0 m 122 ls []) := by
    intro  S H locs ls hf hP hS hl
    unfold f_X5_buildIn_122 at hf
    refine lv_aload_n hx hb dX5_buildIn_122 rfl (lv_at hl 0 rfl) ?_
    refine w_gI (C := RX5) (T := TX5) hx hb hts n5 hown hK hP t_2 rfl 9 (by decide) L45 rfl dX5_buildIn_123 ?_
    refine lv_iconst (v := 2) hx hb dX5_buildIn_126 (by decide) ?_
    refine lv_icmp_ne (tgt := 134) hx hb dX5_buildIn_127 (by decide) (fun b_1 => ?_) (fun b_1 => ?_)
    · have hf := if_f b_1 hf
      refine lv_iconst (v := 0) hx hb dX5_buildIn_134 (by decide) ?_
      exact w_zret hx hb hr hlocks (fun h => h (by decide)) hP hS (rt_inv hf) dX5_buildIn_135
    · have hf := if_t b_1 hf
      refine lv_iconst (v := 1) hx hb dX5_buildIn_130 (by decide) ?_
      refine lv_goto (tgt := 135) hx hb dX5_buildIn_131 (by decide) ?_
      exact w_zret hx hb hr hlocks (fun h => h (by decide)) hP hS (rt_inv hf) dX5_buildIn_135
  have j72 : ∀ (k7 : St → Int32 → Option (Int32 × St)) (hk7 : ∀ (S : St) (x2 : Int32) (H : Heap) (locs : List Loc) (ls : Array Slot), k7 S x2 = some (r, S2) → PW D y ad S H → va_S (AA ad) s.heap H locs → lv_has ls 5 [(0, .ref (ad 2)), (1, .ref (ad q1)), (2, .int x2)] → W p l e (headSpec wsX5_buildIn ({ frames := 4, cells := 0, slots := 0, locals := 86 })).room s m ([.ref (ad 2), .ref (ad q1)] : List Value).toArray below meth c H locs 0 0 (QI below r S2 D y ad ([.ref (ad 2), .ref (ad q1)] : List Value).toArray s) (F0 m 7 ls [])), ∀ (S : St) (x2 : Int32) (x3 : Int32) (H : Heap) (locs : List Loc) (ls : Array Slot), f_X5_buildIn_72 n q1 k7 S x2 x3 = some (r, S2) → PW D y ad S H → va_S (AA ad) s.heap H locs → lv_has ls 5 [(0, .ref (ad 2)), (1, .ref (ad q1)), (2, .int x2), (3, .int x3)] → W p l e (headSpec wsX5_buildIn ({ frames := 4, cells := 0, slots := 0, locals := 86 })).room s m ([.ref (ad 2), .ref (ad q1)] : List Value).toArray below meth c H locs 0 0 (QI below r S2 D y ad ([.ref (ad 2), .ref (ad q1)] : List Value).toArray s) (F0 m 72 ls []) := by
    intro  k7 hk7 S x2 x3 H locs ls hf hP hS hl
    unfold f_X5_buildIn_72 at hf
    refine lv_iload_n hx hb dX5_buildIn_72 rfl (lv_at hl 3 rfl) ?_
    refine lv_ldc (v := (-2000000001)) hx hb hown K48 dX5_buildIn_73 ?_
    refine lv_icmp_eq (tgt := 94) hx hb dX5_buildIn_75 (by decide) (fun b_2 => ?_) (fun b_2 => ?_)
    · have hf := if_t b_2 hf
      refine lv_iconst (v := 0) hx hb dX5_buildIn_94 (by decide) ?_
      exact w_zret hx hb hr hlocks (fun h => h (by decide)) hP hS (rt_inv hf) dX5_buildIn_95
    · have hf := if_f b_2 hf
      refine lv_aload_n hx hb dX5_buildIn_78 rfl (lv_at hl 0 rfl) ?_
      refine w_gI (C := RX5) (T := TX5) hx hb hts n5 hown hK hP t_2 rfl 9 (by decide) L45 rfl dX5_buildIn_79 ?_
      refine lv_if_lt (tgt := 94) hx hb dX5_buildIn_82 (by decide) (fun b_3 => ?_) (fun b_3 => ?_)
      · have hf := if_t b_3 hf
        refine lv_iconst (v := 0) hx hb dX5_buildIn_94 (by decide) ?_
        exact w_zret hx hb hr hlocks (fun h => h (by decide)) hP hS (rt_inv hf) dX5_buildIn_95
      · have hf := if_f b_3 hf
        refine lv_aload_n hx hb dX5_buildIn_85 rfl (lv_at hl 0 rfl) ?_
        refine w_gI (C := RX5) (T := TX5) hx hb hts n5 hown hK hP t_2 rfl 9 (by decide) L45 rfl dX5_buildIn_86 ?_
        refine lv_bipush (v := (40)) hx hb dX5_buildIn_89 (by decide) ?_
        refine lv_icmp_lt (tgt := 96) hx hb dX5_buildIn_91 (by decide) (fun b_4 => ?_) (fun b_4 => ?_)
        · have hf := if_t b_4 hf
          refine lv_aload_n hx hb dX5_buildIn_96 rfl (lv_at hl 0 rfl) ?_
          refine w_gR (z := 5) (C := RX5) (T := TX5) hx hb hts n5 hown hK hP t_2 rfl 8 (by decide) L18 rfl rfl dX5_buildIn_97 ?_
          refine lv_aload_n hx hb dX5_buildIn_100 rfl (lv_at hl 0 rfl) ?_
          refine w_gI (C := RX5) (T := TX5) hx hb hts n5 hown hK hP t_2 rfl 9 (by decide) L45 rfl dX5_buildIn_101 ?_
          refine lv_iload_n hx hb dX5_buildIn_104 rfl (lv_at hl 3 rfl) ?_
          obtain ⟨g_5, hf⟩ := gd_inv hf
          obtain ⟨S_6, eS_6, hf⟩ := bd_inv hf
          refine w_iast hx hb hK hI hP hS t_5 g_5 dX5_buildIn_105 (fun H locs hP hS => ?_)
          rw [← eS_6] at hP
          refine lv_aload_n hx hb dX5_buildIn_106 rfl (lv_at hl 0 rfl) ?_
          refine lv_dup hx hb dX5_buildIn_107 rfl ?_
          refine w_gI (C := RX5) (T := TX5) hx hb hts n5 hown hK hP t_2 rfl 9 (by decide) L45 rfl dX5_buildIn_108 ?_
          refine lv_iconst (v := 1) hx hb dX5_buildIn_111 (by decide) ?_
          refine lv_iadd hx hb dX5_buildIn_112 ?_
          obtain ⟨S_7, eS_7, hf⟩ := bd_inv hf
          refine w_pI (ty := .int) (C := RX5) (T := TX5) hx hb hts n5 tyX5 tyX5_ok nmX5 hown hK hI hP hS t_2 rfl 9 (by decide) L45 rfl rfl rfl ⟨rfl, rfl⟩ dX5_buildIn_113 (fun H locs hP hS => ?_)
          rw [← eS_7] at hP
          obtain ⟨x2_8, ex2_8, hf⟩ := bd_inv hf
          refine lv_iinc (v := x2_8) (lv' := [(2, .int x2_8), (0, .ref (ad 2)), (1, .ref (ad q1)), (3, .int x3)]) hx hb dX5_buildIn_116 hl (k := 2) rfl (by rw [ex2_8]; rfl) (by decide) rfl (fun ls hl => ?_)
          refine lv_goto (tgt := 7) hx hb dX5_buildIn_119 (by decide) ?_
          exact hk7 S_7 x2_8 _ _ _ hf hP hS (lv_sub hl [1, 2, 0] rfl)
        · have hf := if_f b_4 hf
          refine lv_iconst (v := 0) hx hb dX5_buildIn_94 (by decide) ?_
          exact w_zret hx hb hr hlocks (fun h => h (by decide)) hP hS (rt_inv hf) dX5_buildIn_95
  have b7 : ∀ (k7 : St → Int32 → Option (Int32 × St)) (hk7 : ∀ (S : St) (x2 : Int32) (H : Heap) (locs : List Loc) (ls : Array Slot), k7 S x2 = some (r, S2) → PW D y ad S H → va_S (AA ad) s.heap H locs → lv_has ls 5 [(0, .ref (ad 2)), (1, .ref (ad q1)), (2, .int x2)] → W p l e (headSpec wsX5_buildIn ({ frames := 4, cells := 0, slots := 0, locals := 86 })).room s m ([.ref (ad 2), .ref (ad q1)] : List Value).toArray below meth c H locs 0 0 (QI below r S2 D y ad ([.ref (ad 2), .ref (ad q1)] : List Value).toArray s) (F0 m 7 ls [])), ∀ (S : St) (x2 : Int32) (H : Heap) (locs : List Loc) (ls : Array Slot), f_X5_buildIn_7 n q1 k7 S x2 = some (r, S2) → PW D y ad S H → va_S (AA ad) s.heap H locs → lv_has ls 5 [(0, .ref (ad 2)), (1, .ref (ad q1)), (2, .int x2)] → W p l e (headSpec wsX5_buildIn ({ frames := 4, cells := 0, slots := 0, locals := 86 })).room s m ([.ref (ad 2), .ref (ad q1)] : List Value).toArray below meth c H locs 0 0 (QI below r S2 D y ad ([.ref (ad 2), .ref (ad q1)] : List Value).toArray s) (F0 m 7 ls []) := by
    intro  k7 hk7 S x2 H locs ls hf hP hS hl
    unfold f_X5_buildIn_7 at hf
    refine lv_iload_n hx hb dX5_buildIn_7 rfl (lv_at hl 2 rfl) ?_
    refine lv_aload_n hx hb dX5_buildIn_8 rfl (lv_at hl 0 rfl) ?_
    refine w_gI (C := RX5) (T := TX5) hx hb hts n5 hown hK hP t_2 rfl 4 (by decide) L28 rfl dX5_buildIn_9 ?_
    refine lv_icmp_ge (tgt := 122) hx hb dX5_buildIn_12 (by decide) (fun b_9 => ?_) (fun b_9 => ?_)
    · have hf := if_t b_9 hf
      exact j122   S  _ _ _ hf hP hS (lv_sub hl [0] rfl)
    · have hf := if_f b_9 hf
      refine lv_iload_n hx hb dX5_buildIn_15 rfl (lv_at hl 2 rfl) ?_
      refine lv_bipush (v := (40)) hx hb dX5_buildIn_16 (by decide) ?_
      refine lv_icmp_ge (tgt := 122) hx hb dX5_buildIn_18 (by decide) (fun b_10 => ?_) (fun b_10 => ?_)
      · have hf := if_t b_10 hf
        exact j122   S  _ _ _ hf hP hS (lv_sub hl [0] rfl)
      · have hf := if_f b_10 hf
        refine lv_aload_n hx hb dX5_buildIn_21 rfl (lv_at hl 0 rfl) ?_
        refine w_gR (z := 4) (C := RX5) (T := TX5) hx hb hts n5 hown hK hP t_2 rfl 3 (by decide) L15 rfl rfl dX5_buildIn_22 ?_
        refine lv_iload_n hx hb dX5_buildIn_25 rfl (lv_at hl 2 rfl) ?_
        obtain ⟨g_11, hf⟩ := gd_inv hf
        refine w_iald hx hb hK hP t_4 g_11 dX5_buildIn_26 ?_
        obtain ⟨x3_12, ex3_12, hf⟩ := bd_inv hf
        refine w_topI ex3_12 ?_
        refine lv_istore_n (lv' := [(3, .int x3_12), (0, .ref (ad 2)), (1, .ref (ad q1)), (2, .int x2)]) hx hb dX5_buildIn_27 rfl hl (by decide) rfl (fun ls hl => ?_)
        refine lv_iload_n hx hb dX5_buildIn_28 rfl (lv_at hl 0 rfl) ?_
        refine lv_iconst (v := 5) hx hb dX5_buildIn_29 (by decide) ?_
        refine lv_icmp_ne (tgt := 48) hx hb dX5_buildIn_30 (by decide) (fun b_13 => ?_) (fun b_13 => ?_)
        · have hf := if_f b_13 hf
          refine lv_iload_n hx hb dX5_buildIn_48 rfl (lv_at hl 0 rfl) ?_
          refine lv_bipush (v := (6)) hx hb dX5_buildIn_49 (by decide) ?_
          refine lv_icmp_ne (tgt := 72) hx hb dX5_buildIn_51 (by decide) (fun b_14 => ?_) (fun b_14 => ?_)
          · have hf := if_f b_14 hf
            exact j72  k7 hk7 S x2 x3_12 _ _ _ hf hP hS (lv_sub hl [1, 2, 3, 0] rfl)
          · have hf := if_t b_14 hf
            refine lv_aload_n hx hb dX5_buildIn_54 rfl (lv_at hl 1 rfl) ?_
            obtain ⟨r_15, S_16, hc_17, hf⟩ := bo_inv hf
            refine w_ci (va_runV (As := []) (rest := []) ⟨hx, hb, hml, hown, hts⟩ (c_X5_takeBuilt l D y ad aL aU hI n S  _ _ hc_17) (cwV 0 hts gX5_buildIn_X5_takeBuilt rfl rfl rfl (by decide +kernel) ⟨Nat.le_of_ble_eq_true rfl, Nat.le_of_ble_eq_true rfl⟩) (pwu_V t_2 rfl hP hK hZ hS) rfl rfl hl.1 rfl (lv_room (Nat.le_of_ble_eq_true rfl)) dX5_buildIn_55 ⟨Nat.zero_le _, Nat.zero_le _⟩) hS (fun H locs hP hS => ?_)
            obtain ⟨x4_18, ex4_18, hf⟩ := bd_inv hf
            refine w_topI ex4_18 ?_
            refine lv_istore (lv' := [(4, .int x4_18), (3, .int x3_12), (0, .ref (ad 2)), (1, .ref (ad q1)), (2, .int x2)]) hx hb dX5_buildIn_58 hl (by decide) rfl (fun ls hl => ?_)
            refine lv_aload_n hx hb dX5_buildIn_60 rfl (lv_at hl 3 rfl) ?_
            refine lv_iconst (v := 2) hx hb dX5_buildIn_61 (by decide) ?_
            refine lv_aload_n hx hb dX5_buildIn_62 rfl (lv_at hl 2 rfl) ?_
            obtain ⟨r_19, S_20, hc_21, hf⟩ := bo_inv hf
            refine w_ci (va_runV (As := []) (rest := [.int (2 : Int32), .ref (ad q1)]) ⟨hx, hb, hml, hown, hts⟩ (c_X5_takeBuilt l D y ad aL aU hI n S_16  _ _ hc_21) (cwV 0 hts gX5_buildIn_X5_takeBuilt rfl rfl rfl (by decide +kernel) ⟨Nat.le_of_ble_eq_true rfl, Nat.le_of_ble_eq_true rfl⟩) (pwu_V t_2 rfl hP hK hZ hS) rfl rfl hl.1 rfl (lv_room (Nat.le_of_ble_eq_true rfl)) dX5_buildIn_63 ⟨Nat.zero_le _, Nat.zero_le _⟩) hS (fun H locs hP hS => ?_)
            refine lv_iload hx hb dX5_buildIn_66 (lv_at hl 0 rfl) ?_
            obtain ⟨r_22, S_23, hc_24, hf⟩ := bo_inv hf
            refine w_ci (va_runV (As := [.int (2 : Int32), .int r_19, .int x4_18]) (rest := []) ⟨hx, hb, hml, hown, hts⟩ (c_X7_numberFor l D y ad aL aU hI n q1 hq1 S_20 (2 : Int32) r_19 x4_18 _ _ hc_24) (cwV 3 hts gX5_buildIn_X7_numberFor rfl rfl rfl (by decide +kernel) ⟨Nat.le_of_ble_eq_true rfl, Nat.le_of_ble_eq_true rfl⟩) (pwu_V (tT hq1) rfl hP hK hZ hS) rfl rfl hl.1 rfl (lv_room (Nat.le_of_ble_eq_true rfl)) dX5_buildIn_68 ⟨Nat.zero_le _, Nat.zero_le _⟩) hS (fun H locs hP hS => ?_)
            obtain ⟨x3_25, ex3_25, hf⟩ := bd_inv hf
            refine w_topI ex3_25 ?_
            refine lv_istore_n (lv' := [(3, .int x3_25), (4, .int x4_18), (0, .ref (ad 2)), (1, .ref (ad q1)), (2, .int x2)]) hx hb dX5_buildIn_71 rfl hl (by decide) rfl (fun ls hl => ?_)
            exact j72  k7 hk7 S_23 x2 x3_25 _ _ _ hf hP hS (lv_sub hl [2, 3, 4, 0] rfl)
        · have hf := if_t b_13 hf
          refine lv_aload_n hx hb dX5_buildIn_33 rfl (lv_at hl 2 rfl) ?_
          refine lv_iconst (v := 1) hx hb dX5_buildIn_34 (by decide) ?_
          refine lv_aload_n hx hb dX5_buildIn_35 rfl (lv_at hl 1 rfl) ?_
          obtain ⟨r_26, S_27, hc_28, hf⟩ := bo_inv hf
          refine w_ci (va_runV (As := []) (rest := [.int (1 : Int32), .ref (ad q1)]) ⟨hx, hb, hml, hown, hts⟩ (c_X5_takeBuilt l D y ad aL aU hI n S  _ _ hc_28) (cwV 0 hts gX5_buildIn_X5_takeBuilt rfl rfl rfl (by decide +kernel) ⟨Nat.le_of_ble_eq_true rfl, Nat.le_of_ble_eq_true rfl⟩) (pwu_V t_2 rfl hP hK hZ hS) rfl rfl hl.1 rfl (lv_room (Nat.le_of_ble_eq_true rfl)) dX5_buildIn_36 ⟨Nat.zero_le _, Nat.zero_le _⟩) hS (fun H locs hP hS => ?_)
          refine lv_ldc (v := (-2000000001)) hx hb hown K48 dX5_buildIn_39 ?_
          obtain ⟨r_29, S_30, hc_31, hf⟩ := bo_inv hf
          refine w_ci (va_runV (As := [.int (1 : Int32), .int r_26, .int (-2000000001 : Int32)]) (rest := []) ⟨hx, hb, hml, hown, hts⟩ (c_X7_numberFor l D y ad aL aU hI n q1 hq1 S_27 (1 : Int32) r_26 (-2000000001 : Int32) _ _ hc_31) (cwV 3 hts gX5_buildIn_X7_numberFor rfl rfl rfl (by decide +kernel) ⟨Nat.le_of_ble_eq_true rfl, Nat.le_of_ble_eq_true rfl⟩) (pwu_V (tT hq1) rfl hP hK hZ hS) rfl rfl hl.1 rfl (lv_room (Nat.le_of_ble_eq_true rfl)) dX5_buildIn_41 ⟨Nat.zero_le _, Nat.zero_le _⟩) hS (fun H locs hP hS => ?_)
          obtain ⟨x3_32, ex3_32, hf⟩ := bd_inv hf
          refine w_topI ex3_32 ?_
          refine lv_istore_n (lv' := [(3, .int x3_32), (0, .ref (ad 2)), (1, .ref (ad q1)), (2, .int x2)]) hx hb dX5_buildIn_44 rfl hl (by decide) rfl (fun ls hl => ?_)
          refine lv_goto (tgt := 72) hx hb dX5_buildIn_45 (by decide) ?_
          exact j72  k7 hk7 S_30 x2 x3_32 _ _ _ hf hP hS (lv_sub hl [1, 2, 3, 0] rfl)
  have j7 : ∀ (fu : Nat), ∀ (S : St) (x2 : Int32) (H : Heap) (locs : List Loc) (ls : Array Slot), fixF (fun _ _ => none) (f_X5_buildIn_7 n q1) fu S x2 = some (r, S2) → PW D y ad S H → va_S (AA ad) s.heap H locs → lv_has ls 5 [(0, .ref (ad 2)), (1, .ref (ad q1)), (2, .int x2)] → W p l e (headSpec wsX5_buildIn ({ frames := 4, cells := 0, slots := 0, locals := 86 })).room s m ([.ref (ad 2), .ref (ad q1)] : List Value).toArray below meth c H locs 0 0 (QI below r S2 D y ad ([.ref (ad 2), .ref (ad q1)] : List Value).toArray s) (F0 m 7 ls []) := by
    intro   fu
    induction fu with
    | zero => intro S x2 H locs ls hf hP hS hl; cases hf
    | succ fu ih => exact b7   (fixF (fun _ _ => none) (f_X5_buildIn_7 n q1) fu) ih
  unfold f_X5_buildIn at hf
  refine lv_aload_n hx hb dX5_buildIn_0 rfl (lv_at hl 0 rfl) ?_
  refine lv_iconst (v := 0) hx hb dX5_buildIn_1 (by decide) ?_
  obtain ⟨S_33, eS_33, hf⟩ := bd_inv hf
  refine w_pI (ty := .int) (C := RX5) (T := TX5) hx hb hts n5 tyX5 tyX5_ok nmX5 hown hK hI hP hS t_2 rfl 9 (by decide) L45 rfl rfl rfl ⟨rfl, rfl⟩ dX5_buildIn_2 (fun H locs hP hS => ?_)
  rw [← eS_33] at hP
  refine lv_iconst (v := 0) hx hb dX5_buildIn_5 (by decide) ?_
  obtain ⟨x2_34, ex2_34, hf⟩ := bd_inv hf
  refine w_topI ex2_34 ?_
  refine lv_istore_n (lv' := [(2, .int x2_34), (0, .ref (ad 2)), (1, .ref (ad q1))]) hx hb dX5_buildIn_6 rfl hl (by decide) rfl (fun ls hl => ?_)
  exact j7   n S_33 x2_34 _ _ _ hf hP hS (lv_sub hl [1, 2, 0] rfl)
set_option maxHeartbeats 4000000 in
set_option maxRecDepth 100000 in
theorem c_X7_shrinkTo (l : Launch) (D : va_G) (y : y4) (ad : Nat → Nat) (aL aU : Nat) (hI : Inj ad) (n : Nat) (q : Nat) (hq : isT q) (S : St) (a1 : Int32) (r : Unit) (S2 : St) (hf : f_X7_shrinkTo n q S a1 = some (r, S2)) : KV l D y ad aL aU yX7_shrinkTo wsX7_shrinkTo ({ frames := 1, cells := 0, slots := 0, locals := 20 }) [.ref (ad q), .int a1] S r S2 := by
  refine Met.ofW (cc := cX7_shrinkTo) (maxL := 2) (ret := none) (by decide) rfl ?_
  intro p e s m args below meth c s₁ B hml hv
  obtain ⟨rfl, hP, hK, hZ⟩ := hv
  have hx := B.exec
  have hb := B.bytes
  have hr := B.returns
  have hts := atoms_spec (ws := wsX7_shrinkTo) B.pre
  have hown : s.vm.findClass RX7 = some m.cls := findClass_of_methodNamed B.named
  have hlocks := B.notSynchronized
  have hS : va_S (AA ad) s.heap s.heap [] := va_S.rf
  have L24 := hts (.fieldLink RX7 24 "JoinedTheories$Terms" "size" "I") (by decide +kernel)
  have n7 : ∀ w ∈ wsX70, w ∈ wsX7_shrinkTo := by decide +kernel
  have hl := lv_entry ([.ref (ad q), .int a1]) (n := 2) (Nat.le_of_ble_eq_true rfl)
  rw [lg_entry_eq]
  generalize (lg_sl ([.ref (ad q), .int a1]) ++ List.replicate (2 - (lg_sl ([.ref (ad q), .int a1])).length) Slot.unset).toArray = ls at hl ⊢
  have hl : lv_has ls 2 [(0, .ref (ad q)), (1, .int a1)] := hl
  unfold f_X7_shrinkTo at hf
  refine lv_iload_n hx hb dX7_shrinkTo_0 rfl (lv_at hl 1 rfl) ?_
  refine lv_iconst (v := 5) hx hb dX7_shrinkTo_1 (by decide) ?_
  refine lv_icmp_lt (tgt := 18) hx hb dX7_shrinkTo_2 (by decide) (fun b_1 => ?_) (fun b_1 => ?_)
  · have hf := if_t b_1 hf
    exact w_vret hx hb hr hlocks hP hS (rt_inv hf) dX7_shrinkTo_18
  · have hf := if_f b_1 hf
    refine lv_iload_n hx hb dX7_shrinkTo_5 rfl (lv_at hl 1 rfl) ?_
    refine lv_aload_n hx hb dX7_shrinkTo_6 rfl (lv_at hl 0 rfl) ?_
    refine w_gI (C := RX7) (T := TX7) hx hb hts n7 hown hK hP (tT hq) rfl 4 (by decide) L24 rfl dX7_shrinkTo_7 ?_
    refine lv_icmp_ge (tgt := 18) hx hb dX7_shrinkTo_10 (by decide) (fun b_2 => ?_) (fun b_2 => ?_)
    · have hf := if_t b_2 hf
      exact w_vret hx hb hr hlocks hP hS (rt_inv hf) dX7_shrinkTo_18
    · have hf := if_f b_2 hf
      refine lv_aload_n hx hb dX7_shrinkTo_13 rfl (lv_at hl 0 rfl) ?_
      refine lv_iload_n hx hb dX7_shrinkTo_14 rfl (lv_at hl 1 rfl) ?_
      obtain ⟨S_3, eS_3, hf⟩ := bd_inv hf
      refine w_pI (ty := .int) (C := RX7) (T := TX7) hx hb hts n7 tyX7 tyX7_ok nmX7 hown hK hI hP hS (tT hq) rfl 4 (by decide) L24 rfl rfl rfl ⟨rfl, rfl⟩ dX7_shrinkTo_15 (fun H locs hP hS => ?_)
      rw [← eS_3] at hP
      exact w_vret hx hb hr hlocks hP hS (rt_inv hf) dX7_shrinkTo_18
set_option maxHeartbeats 4000000 in
set_option maxRecDepth 100000 in
theorem c_X7_copyFrom (l : Launch) (D : va_G) (y : y4) (ad : Nat → Nat) (aL aU : Nat) (hI : Inj ad) (n : Nat) (q : Nat) (hq : isT q) (S : St) (q1 : Nat) (hq1 : isT q1) (r : Unit) (S2 : St) (hf : f_X7_copyFrom n q S q1 = some (r, S2)) : KV l D y ad aL aU yX7_copyFrom wsX7_copyFrom ({ frames := 1, cells := 0, slots := 0, locals := 20 }) [.ref (ad q), .ref (ad q1)] S r S2 := by
  refine Met.ofW (cc := cX7_copyFrom) (maxL := 3) (ret := none) (by decide) rfl ?_
  intro p e s m args below meth c s₁ B hml hv
  obtain ⟨rfl, hP, hK, hZ⟩ := hv
  have hx := B.exec
  have hb := B.bytes
  have hr := B.returns
  have hts := atoms_spec (ws := wsX7_copyFrom) B.pre
  have hown : s.vm.findClass RX7 = some m.cls := findClass_of_methodNamed B.named
  have hlocks := B.notSynchronized
  have hS : va_S (AA ad) s.heap s.heap [] := va_S.rf
  have L9 := hts (.fieldLink RX7 9 "JoinedTheories$Terms" "kinds" "[I") (by decide +kernel)
  have L15 := hts (.fieldLink RX7 15 "JoinedTheories$Terms" "firsts" "[I") (by decide +kernel)
  have L18 := hts (.fieldLink RX7 18 "JoinedTheories$Terms" "seconds" "[I") (by decide +kernel)
  have L21 := hts (.fieldLink RX7 21 "JoinedTheories$Terms" "lengths" "[I") (by decide +kernel)
  have L24 := hts (.fieldLink RX7 24 "JoinedTheories$Terms" "size" "I") (by decide +kernel)
  have n7 : ∀ w ∈ wsX70, w ∈ wsX7_copyFrom := by decide +kernel
  have hl := lv_entry ([.ref (ad q), .ref (ad q1)]) (n := 3) (Nat.le_of_ble_eq_true rfl)
  rw [lg_entry_eq]
  generalize (lg_sl ([.ref (ad q), .ref (ad q1)]) ++ List.replicate (3 - (lg_sl ([.ref (ad q), .ref (ad q1)])).length) Slot.unset).toArray = ls at hl ⊢
  have hl : lv_has ls 3 [(0, .ref (ad q)), (1, .ref (ad q1))] := hl
  have b2 : ∀ (k2 : St → Int32 → Option (Unit × St)) (hk2 : ∀ (S : St) (x2 : Int32) (H : Heap) (locs : List Loc) (ls : Array Slot), k2 S x2 = some (r, S2) → PW D y ad S H → va_S (AA ad) s.heap H locs → lv_has ls 3 [(0, .ref (ad q)), (1, .ref (ad q1)), (2, .int x2)] → W p l e (headSpec wsX7_copyFrom ({ frames := 1, cells := 0, slots := 0, locals := 20 })).room s m ([.ref (ad q), .ref (ad q1)] : List Value).toArray below meth c H locs 0 0 (QV below r S2 D y ad ([.ref (ad q), .ref (ad q1)] : List Value).toArray s) (F0 m 2 ls [])), ∀ (S : St) (x2 : Int32) (H : Heap) (locs : List Loc) (ls : Array Slot), f_X7_copyFrom_2 n q q1 k2 S x2 = some (r, S2) → PW D y ad S H → va_S (AA ad) s.heap H locs → lv_has ls 3 [(0, .ref (ad q)), (1, .ref (ad q1)), (2, .int x2)] → W p l e (headSpec wsX7_copyFrom ({ frames := 1, cells := 0, slots := 0, locals := 20 })).room s m ([.ref (ad q), .ref (ad q1)] : List Value).toArray below meth c H locs 0 0 (QV below r S2 D y ad ([.ref (ad q), .ref (ad q1)] : List Value).toArray s) (F0 m 2 ls []) := by
    intro  k2 hk2 S x2 H locs ls hf hP hS hl
    unfold f_X7_copyFrom_2 at hf
    refine lv_iload_n hx hb dX7_copyFrom_2 rfl (lv_at hl 2 rfl) ?_
    refine lv_bipush (v := (10)) hx hb dX7_copyFrom_3 (by decide) ?_
    refine lv_icmp_ge (tgt := 62) hx hb dX7_copyFrom_5 (by decide) (fun b_1 => ?_) (fun b_1 => ?_)
    · have hf := if_t b_1 hf
      refine lv_aload_n hx hb dX7_copyFrom_62 rfl (lv_at hl 0 rfl) ?_
      refine lv_aload_n hx hb dX7_copyFrom_63 rfl (lv_at hl 1 rfl) ?_
      refine w_gI (C := RX7) (T := TX7) hx hb hts n7 hown hK hP (tT hq1) rfl 4 (by decide) L24 rfl dX7_copyFrom_64 ?_
      obtain ⟨S_2, eS_2, hf⟩ := bd_inv hf
      refine w_pI (ty := .int) (C := RX7) (T := TX7) hx hb hts n7 tyX7 tyX7_ok nmX7 hown hK hI hP hS (tT hq) rfl 4 (by decide) L24 rfl rfl rfl ⟨rfl, rfl⟩ dX7_copyFrom_67 (fun H locs hP hS => ?_)
      rw [← eS_2] at hP
      exact w_vret hx hb hr hlocks hP hS (rt_inv hf) dX7_copyFrom_70
    · have hf := if_f b_1 hf
      refine lv_aload_n hx hb dX7_copyFrom_8 rfl (lv_at hl 0 rfl) ?_
      refine w_gR (z := (q + 1)) (C := RX7) (T := TX7) hx hb hts n7 hown hK hP (tT hq) rfl 0 (by decide) L9 rfl (rT0 hq) dX7_copyFrom_9 ?_
      refine lv_iload_n hx hb dX7_copyFrom_12 rfl (lv_at hl 2 rfl) ?_
      refine lv_aload_n hx hb dX7_copyFrom_13 rfl (lv_at hl 1 rfl) ?_
      refine w_gR (z := (q1 + 1)) (C := RX7) (T := TX7) hx hb hts n7 hown hK hP (tT hq1) rfl 0 (by decide) L9 rfl (rT0 hq1) dX7_copyFrom_14 ?_
      refine lv_iload_n hx hb dX7_copyFrom_17 rfl (lv_at hl 2 rfl) ?_
      obtain ⟨g_3, hf⟩ := gd_inv hf
      refine w_iald hx hb hK hP (tT0 hq1) g_3 dX7_copyFrom_18 ?_
      obtain ⟨g_4, hf⟩ := gd_inv hf
      obtain ⟨S_5, eS_5, hf⟩ := bd_inv hf
      refine w_iast hx hb hK hI hP hS (tT0 hq) g_4 dX7_copyFrom_19 (fun H locs hP hS => ?_)
      rw [← eS_5] at hP
      refine lv_aload_n hx hb dX7_copyFrom_20 rfl (lv_at hl 0 rfl) ?_
      refine w_gR (z := (q + 2)) (C := RX7) (T := TX7) hx hb hts n7 hown hK hP (tT hq) rfl 1 (by decide) L15 rfl (rT1 hq) dX7_copyFrom_21 ?_
      refine lv_iload_n hx hb dX7_copyFrom_24 rfl (lv_at hl 2 rfl) ?_
      refine lv_aload_n hx hb dX7_copyFrom_25 rfl (lv_at hl 1 rfl) ?_
      refine w_gR (z := (q1 + 2)) (C := RX7) (T := TX7) hx hb hts n7 hown hK hP (tT hq1) rfl 1 (by decide) L15 rfl (rT1 hq1) dX7_copyFrom_26 ?_
      refine lv_iload_n hx hb dX7_copyFrom_29 rfl (lv_at hl 2 rfl) ?_
      obtain ⟨g_6, hf⟩ := gd_inv hf
      refine w_iald hx hb hK hP (tT1 hq1) g_6 dX7_copyFrom_30 ?_
      obtain ⟨g_7, hf⟩ := gd_inv hf
      obtain ⟨S_8, eS_8, hf⟩ := bd_inv hf
      refine w_iast hx hb hK hI hP hS (tT1 hq) g_7 dX7_copyFrom_31 (fun H locs hP hS => ?_)
      rw [← eS_8] at hP
      refine lv_aload_n hx hb dX7_copyFrom_32 rfl (lv_at hl 0 rfl) ?_
      refine w_gR (z := (q + 3)) (C := RX7) (T := TX7) hx hb hts n7 hown hK hP (tT hq) rfl 2 (by decide) L18 rfl (rT2 hq) dX7_copyFrom_33 ?_
      refine lv_iload_n hx hb dX7_copyFrom_36 rfl (lv_at hl 2 rfl) ?_
      refine lv_aload_n hx hb dX7_copyFrom_37 rfl (lv_at hl 1 rfl) ?_
      refine w_gR (z := (q1 + 3)) (C := RX7) (T := TX7) hx hb hts n7 hown hK hP (tT hq1) rfl 2 (by decide) L18 rfl (rT2 hq1) dX7_copyFrom_38 ?_
      refine lv_iload_n hx hb dX7_copyFrom_41 rfl (lv_at hl 2 rfl) ?_
      obtain ⟨g_9, hf⟩ := gd_inv hf
      refine w_iald hx hb hK hP (tT2 hq1) g_9 dX7_copyFrom_42 ?_
      obtain ⟨g_10, hf⟩ := gd_inv hf
      obtain ⟨S_11, eS_11, hf⟩ := bd_inv hf
      refine w_iast hx hb hK hI hP hS (tT2 hq) g_10 dX7_copyFrom_43 (fun H locs hP hS => ?_)
      rw [← eS_11] at hP
      refine lv_aload_n hx hb dX7_copyFrom_44 rfl (lv_at hl 0 rfl) ?_
      refine w_gR (z := (q + 4)) (C := RX7) (T := TX7) hx hb hts n7 hown hK hP (tT hq) rfl 3 (by decide) L21 rfl (rT3 hq) dX7_copyFrom_45 ?_
      refine lv_iload_n hx hb dX7_copyFrom_48 rfl (lv_at hl 2 rfl) ?_
      refine lv_aload_n hx hb dX7_copyFrom_49 rfl (lv_at hl 1 rfl) ?_
      refine w_gR (z := (q1 + 4)) (C := RX7) (T := TX7) hx hb hts n7 hown hK hP (tT hq1) rfl 3 (by decide) L21 rfl (rT3 hq1) dX7_copyFrom_50 ?_
      refine lv_iload_n hx hb dX7_copyFrom_53 rfl (lv_at hl 2 rfl) ?_
      obtain ⟨g_12, hf⟩ := gd_inv hf
      refine w_iald hx hb hK hP (tT3 hq1) g_12 dX7_copyFrom_54 ?_
      obtain ⟨g_13, hf⟩ := gd_inv hf
      obtain ⟨S_14, eS_14, hf⟩ := bd_inv hf
      refine w_iast hx hb hK hI hP hS (tT3 hq) g_13 dX7_copyFrom_55 (fun H locs hP hS => ?_)
      rw [← eS_14] at hP
      obtain ⟨x2_15, ex2_15, hf⟩ := bd_inv hf
      refine lv_iinc (v := x2_15) (lv' := [(2, .int x2_15), (0, .ref (ad q)), (1, .ref (ad q1))]) hx hb dX7_copyFrom_56 hl (k := 2) rfl (by rw [ex2_15]; rfl) (by decide) rfl (fun ls hl => ?_)
      refine lv_goto (tgt := 2) hx hb dX7_copyFrom_59 (by decide) ?_
      exact hk2 S_14 x2_15 _ _ _ hf hP hS (lv_sub hl [1, 2, 0] rfl)
  have j2 : ∀ (fu : Nat), ∀ (S : St) (x2 : Int32) (H : Heap) (locs : List Loc) (ls : Array Slot), fixF (fun _ _ => none) (f_X7_copyFrom_2 n q q1) fu S x2 = some (r, S2) → PW D y ad S H → va_S (AA ad) s.heap H locs → lv_has ls 3 [(0, .ref (ad q)), (1, .ref (ad q1)), (2, .int x2)] → W p l e (headSpec wsX7_copyFrom ({ frames := 1, cells := 0, slots := 0, locals := 20 })).room s m ([.ref (ad q), .ref (ad q1)] : List Value).toArray below meth c H locs 0 0 (QV below r S2 D y ad ([.ref (ad q), .ref (ad q1)] : List Value).toArray s) (F0 m 2 ls []) := by
    intro   fu
    induction fu with
    | zero => intro S x2 H locs ls hf hP hS hl; cases hf
    | succ fu ih => exact b2   (fixF (fun _ _ => none) (f_X7_copyFrom_2 n q q1) fu) ih
  unfold f_X7_copyFrom at hf
  refine lv_iconst (v := 0) hx hb dX7_copyFrom_0 (by decide) ?_
  obtain ⟨x2_16, ex2_16, hf⟩ := bd_inv hf
  refine w_topI ex2_16 ?_
  refine lv_istore_n (lv' := [(2, .int x2_16), (0, .ref (ad q)), (1, .ref (ad q1))]) hx hb dX7_copyFrom_1 rfl hl (by decide) rfl (fun ls hl => ?_)
  exact j2   n S x2_16 _ _ _ hf hP hS (lv_sub hl [1, 2, 0] rfl)
set_option maxHeartbeats 4000000 in
set_option maxRecDepth 100000 in
theorem c_X8_letter (l : Launch) (D : va_G) (y : y4) (ad : Nat → Nat) (aL aU : Nat) (hI : Inj ad) (n : Nat) (S : St) (a1 : Int32) (r : Int32) (S2 : St) (hf : f_X8_letter n S a1 = some (r, S2)) : KI l D y ad aL aU yX8_letter wsX8_letter ({ frames := 1, cells := 0, slots := 0, locals := 20 }) [.ref (ad 0), .int a1] S r S2 := by
  refine Met.ofW (cc := cX8_letter) (maxL := 2) (ret := (some .int)) (by decide) rfl ?_
  intro p e s m args below meth c s₁ B hml hv
  obtain ⟨rfl, hP, hK, hZ⟩ := hv
  have hx := B.exec
  have hb := B.bytes
  have hr := B.returns
  have hts := atoms_spec (ws := wsX8_letter) B.pre
  have hown : s.vm.findClass RX8 = some m.cls := findClass_of_methodNamed B.named
  have hlocks := B.notSynchronized
  have hS : va_S (AA ad) s.heap s.heap [] := va_S.rf
  have L9 := hts (.fieldLink RX8 9 "JoinedTheories" "page" "[I") (by decide +kernel)
  have L63 := hts (.fieldLink RX8 63 "JoinedTheories" "pageSize" "I") (by decide +kernel)
  have K62 := hts (.constant RX8 62 (-2000000003)) (by decide +kernel)
  have K67 := hts (.constant RX8 67 (-2000000005)) (by decide +kernel)
  have n8 : ∀ w ∈ wsX80, w ∈ wsX8_letter := by decide +kernel
  have hl := lv_entry ([.ref (ad 0), .int a1]) (n := 2) (Nat.le_of_ble_eq_true rfl)
  rw [lg_entry_eq]
  generalize (lg_sl ([.ref (ad 0), .int a1]) ++ List.replicate (2 - (lg_sl ([.ref (ad 0), .int a1])).length) Slot.unset).toArray = ls at hl ⊢
  have hl : lv_has ls 2 [(0, .ref (ad 0)), (1, .int a1)] := hl
  unfold f_X8_letter at hf
  refine lv_iload_n hx hb dX8_letter_0 rfl (lv_at hl 1 rfl) ?_
  refine lv_bipush (v := (32)) hx hb dX8_letter_1 (by decide) ?_
  refine lv_icmp_lt (tgt := 12) hx hb dX8_letter_3 (by decide) (fun b_1 => ?_) (fun b_1 => ?_)
  · have hf := if_t b_1 hf
    refine lv_ldc (v := (-2000000003)) hx hb hown K62 dX8_letter_12 ?_
    exact w_iret hx hb hr hlocks hP hS (rt_inv hf) dX8_letter_14
  · have hf := if_f b_1 hf
    refine lv_iload_n hx hb dX8_letter_6 rfl (lv_at hl 1 rfl) ?_
    refine lv_bipush (v := (126)) hx hb dX8_letter_7 (by decide) ?_
    refine lv_icmp_le (tgt := 15) hx hb dX8_letter_9 (by decide) (fun b_2 => ?_) (fun b_2 => ?_)
    · have hf := if_t b_2 hf
      refine lv_aload_n hx hb dX8_letter_15 rfl (lv_at hl 0 rfl) ?_
      refine w_gI (C := RX8) (T := TX8) hx hb hts n8 hown hK hP t_0 rfl 1 (by decide) L63 rfl dX8_letter_16 ?_
      refine lv_if_lt (tgt := 31) hx hb dX8_letter_19 (by decide) (fun b_3 => ?_) (fun b_3 => ?_)
      · have hf := if_t b_3 hf
        refine lv_ldc (v := (-2000000005)) hx hb hown K67 dX8_letter_31 ?_
        exact w_iret hx hb hr hlocks hP hS (rt_inv hf) dX8_letter_33
      · have hf := if_f b_3 hf
        refine lv_aload_n hx hb dX8_letter_22 rfl (lv_at hl 0 rfl) ?_
        refine w_gI (C := RX8) (T := TX8) hx hb hts n8 hown hK hP t_0 rfl 1 (by decide) L63 rfl dX8_letter_23 ?_
        refine lv_bipush (v := (40)) hx hb dX8_letter_26 (by decide) ?_
        refine lv_icmp_lt (tgt := 34) hx hb dX8_letter_28 (by decide) (fun b_4 => ?_) (fun b_4 => ?_)
        · have hf := if_t b_4 hf
          refine lv_aload_n hx hb dX8_letter_34 rfl (lv_at hl 0 rfl) ?_
          refine w_gR (z := 1) (C := RX8) (T := TX8) hx hb hts n8 hown hK hP t_0 rfl 0 (by decide) L9 rfl rfl dX8_letter_35 ?_
          refine lv_aload_n hx hb dX8_letter_38 rfl (lv_at hl 0 rfl) ?_
          refine w_gI (C := RX8) (T := TX8) hx hb hts n8 hown hK hP t_0 rfl 1 (by decide) L63 rfl dX8_letter_39 ?_
          refine lv_iload_n hx hb dX8_letter_42 rfl (lv_at hl 1 rfl) ?_
          obtain ⟨g_5, hf⟩ := gd_inv hf
          obtain ⟨S_6, eS_6, hf⟩ := bd_inv hf
          refine w_iast hx hb hK hI hP hS t_1 g_5 dX8_letter_43 (fun H locs hP hS => ?_)
          rw [← eS_6] at hP
          refine lv_aload_n hx hb dX8_letter_44 rfl (lv_at hl 0 rfl) ?_
          refine lv_dup hx hb dX8_letter_45 rfl ?_
          refine w_gI (C := RX8) (T := TX8) hx hb hts n8 hown hK hP t_0 rfl 1 (by decide) L63 rfl dX8_letter_46 ?_
          refine lv_iconst (v := 1) hx hb dX8_letter_49 (by decide) ?_
          refine lv_iadd hx hb dX8_letter_50 ?_
          obtain ⟨S_7, eS_7, hf⟩ := bd_inv hf
          refine w_pI (ty := .int) (C := RX8) (T := TX8) hx hb hts n8 tyX8 tyX8_ok nmX8 hown hK hI hP hS t_0 rfl 1 (by decide) L63 rfl rfl rfl ⟨rfl, rfl⟩ dX8_letter_51 (fun H locs hP hS => ?_)
          rw [← eS_7] at hP
          refine lv_aload_n hx hb dX8_letter_54 rfl (lv_at hl 0 rfl) ?_
          refine w_gI (C := RX8) (T := TX8) hx hb hts n8 hown hK hP t_0 rfl 1 (by decide) L63 rfl dX8_letter_55 ?_
          exact w_iret hx hb hr hlocks hP hS (rt_inv hf) dX8_letter_58
        · have hf := if_f b_4 hf
          refine lv_ldc (v := (-2000000005)) hx hb hown K67 dX8_letter_31 ?_
          exact w_iret hx hb hr hlocks hP hS (rt_inv hf) dX8_letter_33
    · have hf := if_f b_2 hf
      refine lv_ldc (v := (-2000000003)) hx hb hown K62 dX8_letter_12 ?_
      exact w_iret hx hb hr hlocks hP hS (rt_inv hf) dX8_letter_14
set_option maxHeartbeats 4000000 in
set_option maxRecDepth 100000 in
theorem c_X8_blank (l : Launch) (D : va_G) (y : y4) (ad : Nat → Nat) (aL aU : Nat) (hI : Inj ad) (n : Nat) (S : St) (r : Int32) (S2 : St) (hf : f_X8_blank n S = some (r, S2)) : KI l D y ad aL aU yX8_blank wsX8_blank ({ frames := 1, cells := 0, slots := 0, locals := 20 }) [.ref (ad 0)] S r S2 := by
  refine Met.ofW (cc := cX8_blank) (maxL := 2) (ret := (some .int)) (by decide) rfl ?_
  intro p e s m args below meth c s₁ B hml hv
  obtain ⟨rfl, hP, hK, hZ⟩ := hv
  have hx := B.exec
  have hb := B.bytes
  have hr := B.returns
  have hts := atoms_spec (ws := wsX8_blank) B.pre
  have hown : s.vm.findClass RX8 = some m.cls := findClass_of_methodNamed B.named
  have hlocks := B.notSynchronized
  have hS : va_S (AA ad) s.heap s.heap [] := va_S.rf
  have L63 := hts (.fieldLink RX8 63 "JoinedTheories" "pageSize" "I") (by decide +kernel)
  have n8 : ∀ w ∈ wsX80, w ∈ wsX8_blank := by decide +kernel
  have hl := lv_entry ([.ref (ad 0)]) (n := 2) (Nat.le_of_ble_eq_true rfl)
  rw [lg_entry_eq]
  generalize (lg_sl ([.ref (ad 0)]) ++ List.replicate (2 - (lg_sl ([.ref (ad 0)])).length) Slot.unset).toArray = ls at hl ⊢
  have hl : lv_has ls 2 [(0, .ref (ad 0))] := hl
  unfold f_X8_blank at hf
  refine lv_aload_n hx hb dX8_blank_0 rfl (lv_at hl 0 rfl) ?_
  refine w_gI (C := RX8) (T := TX8) hx hb hts n8 hown hK hP t_0 rfl 1 (by decide) L63 rfl dX8_blank_1 ?_
  obtain ⟨x1_1, ex1_1, hf⟩ := bd_inv hf
  refine w_topI ex1_1 ?_
  refine lv_istore_n (lv' := [(1, .int x1_1), (0, .ref (ad 0))]) hx hb dX8_blank_4 rfl hl (by decide) rfl (fun ls hl => ?_)
  refine lv_aload_n hx hb dX8_blank_5 rfl (lv_at hl 1 rfl) ?_
  refine lv_iconst (v := 0) hx hb dX8_blank_6 (by decide) ?_
  obtain ⟨S_2, eS_2, hf⟩ := bd_inv hf
  refine w_pI (ty := .int) (C := RX8) (T := TX8) hx hb hts n8 tyX8 tyX8_ok nmX8 hown hK hI hP hS t_0 rfl 1 (by decide) L63 rfl rfl rfl ⟨rfl, rfl⟩ dX8_blank_7 (fun H locs hP hS => ?_)
  rw [← eS_2] at hP
  refine lv_iload_n hx hb dX8_blank_10 rfl (lv_at hl 0 rfl) ?_
  exact w_iret hx hb hr hlocks hP hS (rt_inv hf) dX8_blank_11
set_option maxHeartbeats 4000000 in
set_option maxRecDepth 100000 in
theorem c_X8_fault (l : Launch) (D : va_G) (y : y4) (ad : Nat → Nat) (aL aU : Nat) (hI : Inj ad) (n : Nat) (S : St) (r : Int32) (S2 : St) (hf : f_X8_fault n S = some (r, S2)) : KI l D y ad aL aU yX8_fault wsX8_fault ({ frames := 5, cells := 0, slots := 0, locals := 107 }) [.ref (ad 0)] S r S2 := by
  refine Met.ofW (cc := cX8_fault) (maxL := 1) (ret := (some .int)) (by decide) rfl ?_
  intro p e s m args below meth c s₁ B hml hv
  obtain ⟨rfl, hP, hK, hZ⟩ := hv
  have hx := B.exec
  have hb := B.bytes
  have hr := B.returns
  have hts := atoms_spec (ws := wsX8_fault) B.pre
  have hown : s.vm.findClass RX8 = some m.cls := findClass_of_methodNamed B.named
  have hlocks := B.notSynchronized
  have hS : va_S (AA ad) s.heap s.heap [] := va_S.rf
  have L9 := hts (.fieldLink RX8 9 "JoinedTheories" "page" "[I") (by decide +kernel)
  have L16 := hts (.fieldLink RX8 16 "JoinedTheories" "reader" "LJoinedTheories$Reader;") (by decide +kernel)
  have L63 := hts (.fieldLink RX8 63 "JoinedTheories" "pageSize" "I") (by decide +kernel)
  have n8 : ∀ w ∈ wsX80, w ∈ wsX8_fault := by decide +kernel
  have hl := lv_entry ([.ref (ad 0)]) (n := 1) (Nat.le_of_ble_eq_true rfl)
  rw [lg_entry_eq]
  generalize (lg_sl ([.ref (ad 0)]) ++ List.replicate (1 - (lg_sl ([.ref (ad 0)])).length) Slot.unset).toArray = ls at hl ⊢
  have hl : lv_has ls 1 [(0, .ref (ad 0))] := hl
  unfold f_X8_fault at hf
  refine lv_aload_n hx hb dX8_fault_0 rfl (lv_at hl 0 rfl) ?_
  refine w_gR (z := 2) (C := RX8) (T := TX8) hx hb hts n8 hown hK hP t_0 rfl 2 (by decide) L16 rfl rfl dX8_fault_1 ?_
  refine lv_aload_n hx hb dX8_fault_4 rfl (lv_at hl 0 rfl) ?_
  refine w_gR (z := 1) (C := RX8) (T := TX8) hx hb hts n8 hown hK hP t_0 rfl 0 (by decide) L9 rfl rfl dX8_fault_5 ?_
  refine lv_aload_n hx hb dX8_fault_8 rfl (lv_at hl 0 rfl) ?_
  refine w_gI (C := RX8) (T := TX8) hx hb hts n8 hown hK hP t_0 rfl 1 (by decide) L63 rfl dX8_fault_9 ?_
  obtain ⟨r_1, S_2, hc_3, hf⟩ := bo_inv hf
  refine w_ci (va_runV (As := [.ref (ad 1), .int (S.1 0 1)]) (rest := []) ⟨hx, hb, hml, hown, hts⟩ (c_X5_firstFault l D y ad aL aU hI n S (S.1 0 1) _ _ hc_3) (cwV 2 hts gX8_fault_X5_firstFault rfl rfl rfl (by decide +kernel) ⟨Nat.le_of_ble_eq_true rfl, Nat.le_of_ble_eq_true rfl⟩) (pwu_V t_2 rfl hP hK hZ hS) rfl rfl hl.1 rfl (lv_room (Nat.le_of_ble_eq_true rfl)) dX8_fault_12 ⟨Nat.zero_le _, Nat.zero_le _⟩) hS (fun H locs hP hS => ?_)
  exact w_iret hx hb hr hlocks hP hS (rt_inv hf) dX8_fault_15
set_option maxHeartbeats 4000000 in
set_option maxRecDepth 100000 in
theorem c_X8_forgetResults (l : Launch) (D : va_G) (y : y4) (ad : Nat → Nat) (aL aU : Nat) (hI : Inj ad) (n : Nat) (S : St) (r : Unit) (S2 : St) (hf : f_X8_forgetResults n S = some (r, S2)) : KV l D y ad aL aU yX8_forgetResults wsX8_forgetResults ({ frames := 1, cells := 0, slots := 0, locals := 20 }) [.ref (ad 0)] S r S2 := by
  refine Met.ofW (cc := cX8_forgetResults) (maxL := 1) (ret := none) (by decide) rfl ?_
  intro p e s m args below meth c s₁ B hml hv
  obtain ⟨rfl, hP, hK, hZ⟩ := hv
  have hx := B.exec
  have hb := B.bytes
  have hr := B.returns
  have hts := atoms_spec (ws := wsX8_forgetResults) B.pre
  have hown : s.vm.findClass RX8 = some m.cls := findClass_of_methodNamed B.named
  have hlocks := B.notSynchronized
  have hS : va_S (AA ad) s.heap s.heap [] := va_S.rf
  have L217 := hts (.fieldLink RX8 217 "JoinedTheories" "pairsKnown" "Z") (by decide +kernel)
  have L250 := hts (.fieldLink RX8 250 "JoinedTheories" "exchangeKnown" "Z") (by decide +kernel)
  have L253 := hts (.fieldLink RX8 253 "JoinedTheories" "solvableKnown" "Z") (by decide +kernel)
  have n8 : ∀ w ∈ wsX80, w ∈ wsX8_forgetResults := by decide +kernel
  have hl := lv_entry ([.ref (ad 0)]) (n := 1) (Nat.le_of_ble_eq_true rfl)
  rw [lg_entry_eq]
  generalize (lg_sl ([.ref (ad 0)]) ++ List.replicate (1 - (lg_sl ([.ref (ad 0)])).length) Slot.unset).toArray = ls at hl ⊢
  have hl : lv_has ls 1 [(0, .ref (ad 0))] := hl
  unfold f_X8_forgetResults at hf
  refine lv_aload_n hx hb dX8_forgetResults_0 rfl (lv_at hl 0 rfl) ?_
  refine lv_iconst (v := 0) hx hb dX8_forgetResults_1 (by decide) ?_
  obtain ⟨S_1, eS_1, hf⟩ := bd_inv hf
  refine w_pI (ty := .boolean) (C := RX8) (T := TX8) hx hb hts n8 tyX8 tyX8_ok nmX8 hown hK hI hP hS t_0 rfl 12 (by decide) L250 rfl rfl rfl ⟨rfl, rfl⟩ dX8_forgetResults_2 (fun H locs hP hS => ?_)
  rw [← eS_1] at hP
  refine lv_aload_n hx hb dX8_forgetResults_5 rfl (lv_at hl 0 rfl) ?_
  refine lv_iconst (v := 0) hx hb dX8_forgetResults_6 (by decide) ?_
  obtain ⟨S_2, eS_2, hf⟩ := bd_inv hf
  refine w_pI (ty := .boolean) (C := RX8) (T := TX8) hx hb hts n8 tyX8 tyX8_ok nmX8 hown hK hI hP hS t_0 rfl 13 (by decide) L253 rfl rfl rfl ⟨rfl, rfl⟩ dX8_forgetResults_7 (fun H locs hP hS => ?_)
  rw [← eS_2] at hP
  refine lv_aload_n hx hb dX8_forgetResults_10 rfl (lv_at hl 0 rfl) ?_
  refine lv_iconst (v := 0) hx hb dX8_forgetResults_11 (by decide) ?_
  obtain ⟨S_3, eS_3, hf⟩ := bd_inv hf
  refine w_pI (ty := .boolean) (C := RX8) (T := TX8) hx hb hts n8 tyX8 tyX8_ok nmX8 hown hK hI hP hS t_0 rfl 15 (by decide) L217 rfl rfl rfl ⟨rfl, rfl⟩ dX8_forgetResults_12 (fun H locs hP hS => ?_)
  rw [← eS_3] at hP
  exact w_vret hx hb hr hlocks hP hS (rt_inv hf) dX8_forgetResults_15
set_option maxHeartbeats 4000000 in
set_option maxRecDepth 100000 in
theorem c_X8_add (l : Launch) (D : va_G) (y : y4) (ad : Nat → Nat) (aL aU : Nat) (hI : Inj ad) (n : Nat) (S : St) (r : Int32) (S2 : St) (hf : f_X8_add n S = some (r, S2)) : KI l D y ad aL aU yX8_add wsX8_add ({ frames := 5, cells := 0, slots := 0, locals := 110 }) [.ref (ad 0)] S r S2 := by
  refine Met.ofW (cc := cX8_add) (maxL := 2) (ret := (some .int)) (by decide) rfl ?_
  intro p e s m args below meth c s₁ B hml hv
  obtain ⟨rfl, hP, hK, hZ⟩ := hv
  have hx := B.exec
  have hb := B.bytes
  have hr := B.returns
  have hts := atoms_spec (ws := wsX8_add) B.pre
  have hown : s.vm.findClass RX8 = some m.cls := findClass_of_methodNamed B.named
  have hlocks := B.notSynchronized
  have hS : va_S (AA ad) s.heap s.heap [] := va_S.rf
  have L9 := hts (.fieldLink RX8 9 "JoinedTheories" "page" "[I") (by decide +kernel)
  have L16 := hts (.fieldLink RX8 16 "JoinedTheories" "reader" "LJoinedTheories$Reader;") (by decide +kernel)
  have L23 := hts (.fieldLink RX8 23 "JoinedTheories" "terms" "LJoinedTheories$Terms;") (by decide +kernel)
  have L33 := hts (.fieldLink RX8 33 "JoinedTheories" "literals" "LJoinedTheories$Literals;") (by decide +kernel)
  have L63 := hts (.fieldLink RX8 63 "JoinedTheories" "pageSize" "I") (by decide +kernel)
  have L106 := hts (.fieldLink RX8 106 "JoinedTheories" "literalsAdded" "I") (by decide +kernel)
  have K67 := hts (.constant RX8 67 (-2000000005)) (by decide +kernel)
  have K76 := hts (.constant RX8 76 (-2000000004)) (by decide +kernel)
  have n8 : ∀ w ∈ wsX80, w ∈ wsX8_add := by decide +kernel
  have hl := lv_entry ([.ref (ad 0)]) (n := 2) (Nat.le_of_ble_eq_true rfl)
  rw [lg_entry_eq]
  generalize (lg_sl ([.ref (ad 0)]) ++ List.replicate (2 - (lg_sl ([.ref (ad 0)])).length) Slot.unset).toArray = ls at hl ⊢
  have hl : lv_has ls 2 [(0, .ref (ad 0))] := hl
  unfold f_X8_add at hf
  refine lv_aload_n hx hb dX8_add_0 rfl (lv_at hl 0 rfl) ?_
  refine w_gR (z := 2) (C := RX8) (T := TX8) hx hb hts n8 hown hK hP t_0 rfl 2 (by decide) L16 rfl rfl dX8_add_1 ?_
  refine lv_aload_n hx hb dX8_add_4 rfl (lv_at hl 0 rfl) ?_
  refine w_gR (z := 1) (C := RX8) (T := TX8) hx hb hts n8 hown hK hP t_0 rfl 0 (by decide) L9 rfl rfl dX8_add_5 ?_
  refine lv_aload_n hx hb dX8_add_8 rfl (lv_at hl 0 rfl) ?_
  refine w_gI (C := RX8) (T := TX8) hx hb hts n8 hown hK hP t_0 rfl 1 (by decide) L63 rfl dX8_add_9 ?_
  obtain ⟨r_1, S_2, hc_3, hf⟩ := bo_inv hf
  refine w_ci (va_runV (As := [.ref (ad 1), .int (S.1 0 1)]) (rest := []) ⟨hx, hb, hml, hown, hts⟩ (c_X5_firstFault l D y ad aL aU hI n S (S.1 0 1) _ _ hc_3) (cwV 2 hts gX8_add_X5_firstFault rfl rfl rfl (by decide +kernel) ⟨Nat.le_of_ble_eq_true rfl, Nat.le_of_ble_eq_true rfl⟩) (pwu_V t_2 rfl hP hK hZ hS) rfl rfl hl.1 rfl (lv_room (Nat.le_of_ble_eq_true rfl)) dX8_add_12 ⟨Nat.zero_le _, Nat.zero_le _⟩) hS (fun H locs hP hS => ?_)
  refine lv_aload_n hx hb dX8_add_15 rfl (lv_at hl 0 rfl) ?_
  refine w_gI (C := RX8) (T := TX8) hx hb hts n8 hown hK hP t_0 rfl 1 (by decide) L63 rfl dX8_add_16 ?_
  refine lv_icmp_lt (tgt := 32) hx hb dX8_add_19 (by decide) (fun b_4 => ?_) (fun b_4 => ?_)
  · have hf := if_t b_4 hf
    refine lv_ldc (v := (-2000000004)) hx hb hown K76 dX8_add_32 ?_
    exact w_iret hx hb hr hlocks hP hS (rt_inv hf) dX8_add_34
  · have hf := if_f b_4 hf
    refine lv_aload_n hx hb dX8_add_22 rfl (lv_at hl 0 rfl) ?_
    refine w_gR (z := 2) (C := RX8) (T := TX8) hx hb hts n8 hown hK hP t_0 rfl 2 (by decide) L16 rfl rfl dX8_add_23 ?_
    obtain ⟨r_5, S_6, hc_7, hf⟩ := bo_inv hf
    refine w_ci (va_runV (As := []) (rest := []) ⟨hx, hb, hml, hown, hts⟩ (c_X5_isComplete l D y ad aL aU hI n S_2  _ _ hc_7) (cwV 0 hts gX8_add_X5_isComplete rfl rfl rfl (by decide +kernel) ⟨Nat.le_of_ble_eq_true rfl, Nat.le_of_ble_eq_true rfl⟩) (pwu_V t_2 rfl hP hK hZ hS) rfl rfl hl.1 rfl (lv_room (Nat.le_of_ble_eq_true rfl)) dX8_add_26 ⟨Nat.zero_le _, Nat.zero_le _⟩) hS (fun H locs hP hS => ?_)
    refine lv_if_ne (tgt := 35) hx hb dX8_add_29 (by decide) (fun b_8 => ?_) (fun b_8 => ?_)
    · have hf := if_f b_8 hf
      refine lv_aload_n hx hb dX8_add_35 rfl (lv_at hl 0 rfl) ?_
      refine w_gR (z := 16) (C := RX8) (T := TX8) hx hb hts n8 hown hK hP t_0 rfl 5 (by decide) L33 rfl rfl dX8_add_36 ?_
      obtain ⟨r_9, S_10, hc_11, hf⟩ := bo_inv hf
      refine w_ci (va_runV (As := []) (rest := []) ⟨hx, hb, hml, hown, hts⟩ (c_X3_size l D y ad aL aU hI n S_6  _ _ hc_11) (cwV 0 hts gX8_add_X3_size rfl rfl rfl (by decide +kernel) ⟨Nat.le_of_ble_eq_true rfl, Nat.le_of_ble_eq_true rfl⟩) (pwu_V t_16 rfl hP hK hZ hS) rfl rfl hl.1 rfl (lv_room (Nat.le_of_ble_eq_true rfl)) dX8_add_39 ⟨Nat.zero_le _, Nat.zero_le _⟩) hS (fun H locs hP hS => ?_)
      refine lv_bipush (v := (10)) hx hb dX8_add_42 (by decide) ?_
      refine lv_icmp_lt (tgt := 50) hx hb dX8_add_44 (by decide) (fun b_12 => ?_) (fun b_12 => ?_)
      · have hf := if_t b_12 hf
        refine lv_aload_n hx hb dX8_add_50 rfl (lv_at hl 0 rfl) ?_
        refine w_gR (z := 6) (C := RX8) (T := TX8) hx hb hts n8 hown hK hP t_0 rfl 3 (by decide) L23 rfl rfl dX8_add_51 ?_
        obtain ⟨r_13, S_14, hc_15, hf⟩ := bo_inv hf
        refine w_ci (va_runV (As := []) (rest := []) ⟨hx, hb, hml, hown, hts⟩ (c_X7_size l D y ad aL aU hI n 6 isT6 S_10  _ _ hc_15) (cwV 0 hts gX8_add_X7_size rfl rfl rfl (by decide +kernel) ⟨Nat.le_of_ble_eq_true rfl, Nat.le_of_ble_eq_true rfl⟩) (pwu_V t_6 rfl hP hK hZ hS) rfl rfl hl.1 rfl (lv_room (Nat.le_of_ble_eq_true rfl)) dX8_add_54 ⟨Nat.zero_le _, Nat.zero_le _⟩) hS (fun H locs hP hS => ?_)
        obtain ⟨x1_16, ex1_16, hf⟩ := bd_inv hf
        refine w_topI ex1_16 ?_
        refine lv_istore_n (lv' := [(1, .int x1_16), (0, .ref (ad 0))]) hx hb dX8_add_57 rfl hl (by decide) rfl (fun ls hl => ?_)
        refine lv_aload_n hx hb dX8_add_58 rfl (lv_at hl 1 rfl) ?_
        refine w_gR (z := 2) (C := RX8) (T := TX8) hx hb hts n8 hown hK hP t_0 rfl 2 (by decide) L16 rfl rfl dX8_add_59 ?_
        refine lv_aload_n hx hb dX8_add_62 rfl (lv_at hl 1 rfl) ?_
        refine w_gR (z := 6) (C := RX8) (T := TX8) hx hb hts n8 hown hK hP t_0 rfl 3 (by decide) L23 rfl rfl dX8_add_63 ?_
        obtain ⟨r_17, S_18, hc_19, hf⟩ := bo_inv hf
        refine w_ci (va_runV (As := [.ref (ad 6)]) (rest := []) ⟨hx, hb, hml, hown, hts⟩ (c_X5_buildIn l D y ad aL aU hI n S_14 6 isT6 _ _ hc_19) (cwV 1 hts gX8_add_X5_buildIn rfl rfl rfl (by decide +kernel) ⟨Nat.le_of_ble_eq_true rfl, Nat.le_of_ble_eq_true rfl⟩) (pwu_V t_2 rfl hP hK hZ hS) rfl rfl hl.1 rfl (lv_room (Nat.le_of_ble_eq_true rfl)) dX8_add_66 ⟨Nat.zero_le _, Nat.zero_le _⟩) hS (fun H locs hP hS => ?_)
        refine lv_if_ne (tgt := 83) hx hb dX8_add_69 (by decide) (fun b_20 => ?_) (fun b_20 => ?_)
        · have hf := if_f b_20 hf
          refine lv_aload_n hx hb dX8_add_83 rfl (lv_at hl 1 rfl) ?_
          refine w_gR (z := 16) (C := RX8) (T := TX8) hx hb hts n8 hown hK hP t_0 rfl 5 (by decide) L33 rfl rfl dX8_add_84 ?_
          refine lv_aload_n hx hb dX8_add_87 rfl (lv_at hl 1 rfl) ?_
          refine w_gR (z := 2) (C := RX8) (T := TX8) hx hb hts n8 hown hK hP t_0 rfl 2 (by decide) L16 rfl rfl dX8_add_88 ?_
          obtain ⟨r_21, S_22, hc_23, hf⟩ := bo_inv hf
          refine w_ci (va_runV (As := []) (rest := [.ref (ad 16)]) ⟨hx, hb, hml, hown, hts⟩ (c_X5_kind l D y ad aL aU hI n S_18  _ _ hc_23) (cwV 0 hts gX8_add_X5_kind rfl rfl rfl (by decide +kernel) ⟨Nat.le_of_ble_eq_true rfl, Nat.le_of_ble_eq_true rfl⟩) (pwu_V t_2 rfl hP hK hZ hS) rfl rfl hl.1 rfl (lv_room (Nat.le_of_ble_eq_true rfl)) dX8_add_91 ⟨Nat.zero_le _, Nat.zero_le _⟩) hS (fun H locs hP hS => ?_)
          refine lv_aload_n hx hb dX8_add_94 rfl (lv_at hl 1 rfl) ?_
          refine w_gR (z := 2) (C := RX8) (T := TX8) hx hb hts n8 hown hK hP t_0 rfl 2 (by decide) L16 rfl rfl dX8_add_95 ?_
          obtain ⟨r_24, S_25, hc_26, hf⟩ := bo_inv hf
          refine w_ci (va_runV (As := []) (rest := [.int r_21, .ref (ad 16)]) ⟨hx, hb, hml, hown, hts⟩ (c_X5_left l D y ad aL aU hI n S_22  _ _ hc_26) (cwV 0 hts gX8_add_X5_left rfl rfl rfl (by decide +kernel) ⟨Nat.le_of_ble_eq_true rfl, Nat.le_of_ble_eq_true rfl⟩) (pwu_V t_2 rfl hP hK hZ hS) rfl rfl hl.1 rfl (lv_room (Nat.le_of_ble_eq_true rfl)) dX8_add_98 ⟨Nat.zero_le _, Nat.zero_le _⟩) hS (fun H locs hP hS => ?_)
          refine lv_aload_n hx hb dX8_add_101 rfl (lv_at hl 1 rfl) ?_
          refine w_gR (z := 2) (C := RX8) (T := TX8) hx hb hts n8 hown hK hP t_0 rfl 2 (by decide) L16 rfl rfl dX8_add_102 ?_
          obtain ⟨r_27, S_28, hc_29, hf⟩ := bo_inv hf
          refine w_ci (va_runV (As := []) (rest := [.int r_24, .int r_21, .ref (ad 16)]) ⟨hx, hb, hml, hown, hts⟩ (c_X5_right l D y ad aL aU hI n S_25  _ _ hc_29) (cwV 0 hts gX8_add_X5_right rfl rfl rfl (by decide +kernel) ⟨Nat.le_of_ble_eq_true rfl, Nat.le_of_ble_eq_true rfl⟩) (pwu_V t_2 rfl hP hK hZ hS) rfl rfl hl.1 rfl (lv_room (Nat.le_of_ble_eq_true rfl)) dX8_add_105 ⟨Nat.zero_le _, Nat.zero_le _⟩) hS (fun H locs hP hS => ?_)
          refine lv_aload_n hx hb dX8_add_108 rfl (lv_at hl 1 rfl) ?_
          refine w_gR (z := 2) (C := RX8) (T := TX8) hx hb hts n8 hown hK hP t_0 rfl 2 (by decide) L16 rfl rfl dX8_add_109 ?_
          obtain ⟨r_30, S_31, hc_32, hf⟩ := bo_inv hf
          refine w_ci (va_runV (As := []) (rest := [.int r_27, .int r_24, .int r_21, .ref (ad 16)]) ⟨hx, hb, hml, hown, hts⟩ (c_X5_number l D y ad aL aU hI n S_28  _ _ hc_32) (cwV 0 hts gX8_add_X5_number rfl rfl rfl (by decide +kernel) ⟨Nat.le_of_ble_eq_true rfl, Nat.le_of_ble_eq_true rfl⟩) (pwu_V t_2 rfl hP hK hZ hS) rfl rfl hl.1 rfl (lv_room (Nat.le_of_ble_eq_true rfl)) dX8_add_112 ⟨Nat.zero_le _, Nat.zero_le _⟩) hS (fun H locs hP hS => ?_)
          obtain ⟨r_33, S_34, hc_35, hf⟩ := bo_inv hf
          refine w_cv (va_runV (As := [.int r_21, .int r_24, .int r_27, .int r_30]) (rest := []) ⟨hx, hb, hml, hown, hts⟩ (c_X3_append l D y ad aL aU hI n S_31 r_21 r_24 r_27 r_30 _ _ hc_35) (cwV 4 hts gX8_add_X3_append rfl rfl rfl (by decide +kernel) ⟨Nat.le_of_ble_eq_true rfl, Nat.le_of_ble_eq_true rfl⟩) (pwu_V t_16 rfl hP hK hZ hS) rfl rfl hl.1 rfl (lv_room (Nat.le_of_ble_eq_true rfl)) dX8_add_115 ⟨Nat.zero_le _, Nat.zero_le _⟩) hS (fun H locs hP hS => ?_)
          refine lv_aload_n hx hb dX8_add_118 rfl (lv_at hl 1 rfl) ?_
          refine lv_iconst (v := 0) hx hb dX8_add_119 (by decide) ?_
          obtain ⟨S_36, eS_36, hf⟩ := bd_inv hf
          refine w_pI (ty := .int) (C := RX8) (T := TX8) hx hb hts n8 tyX8 tyX8_ok nmX8 hown hK hI hP hS t_0 rfl 1 (by decide) L63 rfl rfl rfl ⟨rfl, rfl⟩ dX8_add_120 (fun H locs hP hS => ?_)
          rw [← eS_36] at hP
          refine lv_aload_n hx hb dX8_add_123 rfl (lv_at hl 1 rfl) ?_
          refine lv_dup hx hb dX8_add_124 rfl ?_
          refine w_gI (C := RX8) (T := TX8) hx hb hts n8 hown hK hP t_0 rfl 9 (by decide) L106 rfl dX8_add_125 ?_
          refine lv_iconst (v := 1) hx hb dX8_add_128 (by decide) ?_
          refine lv_iadd hx hb dX8_add_129 ?_
          obtain ⟨S_37, eS_37, hf⟩ := bd_inv hf
          refine w_pI (ty := .int) (C := RX8) (T := TX8) hx hb hts n8 tyX8 tyX8_ok nmX8 hown hK hI hP hS t_0 rfl 9 (by decide) L106 rfl rfl rfl ⟨rfl, rfl⟩ dX8_add_130 (fun H locs hP hS => ?_)
          rw [← eS_37] at hP
          refine lv_aload_n hx hb dX8_add_133 rfl (lv_at hl 1 rfl) ?_
          obtain ⟨r_38, S_39, hc_40, hf⟩ := bo_inv hf
          refine w_cv (va_runV (As := []) (rest := []) ⟨hx, hb, hml, hown, hts⟩ (c_X8_forgetResults l D y ad aL aU hI n S_37  _ _ hc_40) (cwV 0 hts gX8_add_X8_forgetResults rfl rfl rfl (by decide +kernel) ⟨Nat.le_of_ble_eq_true rfl, Nat.le_of_ble_eq_true rfl⟩) (pwu_V t_0 rfl hP hK hZ hS) rfl rfl hl.1 rfl (lv_room (Nat.le_of_ble_eq_true rfl)) dX8_add_134 ⟨Nat.zero_le _, Nat.zero_le _⟩) hS (fun H locs hP hS => ?_)
          refine lv_aload_n hx hb dX8_add_137 rfl (lv_at hl 1 rfl) ?_
          refine w_gR (z := 16) (C := RX8) (T := TX8) hx hb hts n8 hown hK hP t_0 rfl 5 (by decide) L33 rfl rfl dX8_add_138 ?_
          obtain ⟨r_41, S_42, hc_43, hf⟩ := bo_inv hf
          refine w_ci (va_runV (As := []) (rest := []) ⟨hx, hb, hml, hown, hts⟩ (c_X3_size l D y ad aL aU hI n S_39  _ _ hc_43) (cwV 0 hts gX8_add_X3_size rfl rfl rfl (by decide +kernel) ⟨Nat.le_of_ble_eq_true rfl, Nat.le_of_ble_eq_true rfl⟩) (pwu_V t_16 rfl hP hK hZ hS) rfl rfl hl.1 rfl (lv_room (Nat.le_of_ble_eq_true rfl)) dX8_add_141 ⟨Nat.zero_le _, Nat.zero_le _⟩) hS (fun H locs hP hS => ?_)
          refine lv_iconst (v := 1) hx hb dX8_add_144 (by decide) ?_
          refine lv_isub hx hb dX8_add_145 ?_
          exact w_iret hx hb hr hlocks hP hS (rt_inv hf) dX8_add_146
        · have hf := if_t b_20 hf
          refine lv_aload_n hx hb dX8_add_72 rfl (lv_at hl 1 rfl) ?_
          refine w_gR (z := 6) (C := RX8) (T := TX8) hx hb hts n8 hown hK hP t_0 rfl 3 (by decide) L23 rfl rfl dX8_add_73 ?_
          refine lv_iload_n hx hb dX8_add_76 rfl (lv_at hl 0 rfl) ?_
          obtain ⟨r_44, S_45, hc_46, hf⟩ := bo_inv hf
          refine w_cv (va_runV (As := [.int x1_16]) (rest := []) ⟨hx, hb, hml, hown, hts⟩ (c_X7_shrinkTo l D y ad aL aU hI n 6 isT6 S_18 x1_16 _ _ hc_46) (cwV 1 hts gX8_add_X7_shrinkTo rfl rfl rfl (by decide +kernel) ⟨Nat.le_of_ble_eq_true rfl, Nat.le_of_ble_eq_true rfl⟩) (pwu_V t_6 rfl hP hK hZ hS) rfl rfl hl.1 rfl (lv_room (Nat.le_of_ble_eq_true rfl)) dX8_add_77 ⟨Nat.zero_le _, Nat.zero_le _⟩) hS (fun H locs hP hS => ?_)
          refine lv_ldc (v := (-2000000005)) hx hb hown K67 dX8_add_80 ?_
          exact w_iret hx hb hr hlocks hP hS (rt_inv hf) dX8_add_82
      · have hf := if_f b_12 hf
        refine lv_ldc (v := (-2000000005)) hx hb hown K67 dX8_add_47 ?_
        exact w_iret hx hb hr hlocks hP hS (rt_inv hf) dX8_add_49
    · have hf := if_t b_8 hf
      refine lv_ldc (v := (-2000000004)) hx hb hown K76 dX8_add_32 ?_
      exact w_iret hx hb hr hlocks hP hS (rt_inv hf) dX8_add_34
set_option maxHeartbeats 4000000 in
set_option maxRecDepth 100000 in
theorem c_X8_numberAnew (l : Launch) (D : va_G) (y : y4) (ad : Nat → Nat) (aL aU : Nat) (hI : Inj ad) (n d : Nat) : ∀ (S : St) (a1 : Int32) (a2 : Int32) (r : Int32) (S2 : St), fixF (fun _ _ _ => none) (f_X8_numberAnew n) d S a1 a2 = some (r, S2) → KI l D y ad aL aU yX8_numberAnew wsX8_numberAnew ({ frames := 4 + d, cells := 0, slots := 0, locals := 86 + d * 24 }) [.ref (ad 0), .int a1, .int a2] S r S2 := by
  induction d with
  | zero => intro S a1 a2 r S2 hf; cases hf
  | succ d ih =>
  intro S a1 a2 r S2 hf
  generalize hkr : fixF (fun _ _ _ => none) (f_X8_numberAnew n) d = kr at ih
  have hf : f_X8_numberAnew n kr S a1 a2 = some (r, S2) := by rw [← hkr]; exact hf
  refine Met.ofW (cc := cX8_numberAnew) (maxL := 5) (ret := (some .int)) (by decide) rfl ?_
  intro p e s m args below meth c s₁ B hml hv
  obtain ⟨rfl, hP, hK, hZ⟩ := hv
  have hx := B.exec
  have hb := B.bytes
  have hr := B.returns
  have hts := atoms_spec (ws := wsX8_numberAnew) B.pre
  have hown : s.vm.findClass RX8 = some m.cls := findClass_of_methodNamed B.named
  have hlocks := B.notSynchronized
  have hS : va_S (AA ad) s.heap s.heap [] := va_S.rf
  have L23 := hts (.fieldLink RX8 23 "JoinedTheories" "terms" "LJoinedTheories$Terms;") (by decide +kernel)
  have L27 := hts (.fieldLink RX8 27 "JoinedTheories" "formerTerms" "LJoinedTheories$Terms;") (by decide +kernel)
  have K270 := hts (.constant RX8 270 (-2000000001)) (by decide +kernel)
  have n8 : ∀ w ∈ wsX80, w ∈ wsX8_numberAnew := by decide +kernel
  have hl := lv_entry ([.ref (ad 0), .int a1, .int a2]) (n := 5) (Nat.le_of_ble_eq_true rfl)
  rw [lg_entry_eq]
  generalize (lg_sl ([.ref (ad 0), .int a1, .int a2]) ++ List.replicate (5 - (lg_sl ([.ref (ad 0), .int a1, .int a2])).length) Slot.unset).toArray = ls at hl ⊢
  have hl : lv_has ls 5 [(0, .ref (ad 0)), (1, .int a1), (2, .int a2)] := hl
  have j63 : ∀ (S : St) (x1 : Int32) (x3 : Int32) (x4 : Int32) (H : Heap) (locs : List Loc) (ls : Array Slot), f_X8_numberAnew_63 n kr S x1 x3 x4 = some (r, S2) → PW D y ad S H → va_S (AA ad) s.heap H locs → lv_has ls 5 [(0, .ref (ad 0)), (1, .int x1), (3, .int x3), (4, .int x4)] → W p l e (headSpec wsX8_numberAnew ({ frames := 4 + (d + 1), cells := 0, slots := 0, locals := 86 + (d + 1) * 24 })).room s m ([.ref (ad 0), .int a1, .int a2] : List Value).toArray below meth c H locs 0 0 (QI below r S2 D y ad ([.ref (ad 0), .int a1, .int a2] : List Value).toArray s) (F0 m 63 ls []) := by
    intro  S x1 x3 x4 H locs ls hf hP hS hl
    unfold f_X8_numberAnew_63 at hf
    refine lv_aload_n hx hb dX8_numberAnew_63 rfl (lv_at hl 0 rfl) ?_
    refine w_gR (z := 6) (C := RX8) (T := TX8) hx hb hts n8 hown hK hP t_0 rfl 3 (by decide) L23 rfl rfl dX8_numberAnew_64 ?_
    refine lv_aload_n hx hb dX8_numberAnew_67 rfl (lv_at hl 0 rfl) ?_
    refine w_gR (z := 11) (C := RX8) (T := TX8) hx hb hts n8 hown hK hP t_0 rfl 4 (by decide) L27 rfl rfl dX8_numberAnew_68 ?_
    refine lv_iload_n hx hb dX8_numberAnew_71 rfl (lv_at hl 1 rfl) ?_
    obtain ⟨r_1, S_2, hc_3, hf⟩ := bo_inv hf
    refine w_ci (va_runV (As := [.int x1]) (rest := [.ref (ad 6)]) ⟨hx, hb, hml, hown, hts⟩ (c_X7_kindOf l D y ad aL aU hI n 11 isT11 S x1 _ _ hc_3) (cwV 1 hts gX8_numberAnew_X7_kindOf rfl rfl rfl (by decide +kernel) ⟨Nat.le_trans (Nat.le_of_ble_eq_true rfl : 2 + 1 ≤ 4) (Nat.le_add_right _ _), Nat.le_trans (Nat.le_of_ble_eq_true rfl : 8 + (2 + 11) + 41 ≤ 86) (Nat.le_add_right _ _)⟩) (pwu_V t_11 rfl hP hK hZ hS) rfl rfl hl.1 rfl (lv_room (Nat.le_of_ble_eq_true rfl)) dX8_numberAnew_72 ⟨Nat.zero_le _, Nat.zero_le _⟩) hS (fun H locs hP hS => ?_)
    refine lv_iload_n hx hb dX8_numberAnew_75 rfl (lv_at hl 2 rfl) ?_
    refine lv_iload hx hb dX8_numberAnew_76 (lv_at hl 3 rfl) ?_
    obtain ⟨r_4, S_5, hc_6, hf⟩ := bo_inv hf
    refine w_ci (va_runV (As := [.int r_1, .int x3, .int x4]) (rest := []) ⟨hx, hb, hml, hown, hts⟩ (c_X7_numberFor l D y ad aL aU hI n 6 isT6 S_2 r_1 x3 x4 _ _ hc_6) (cwV 3 hts gX8_numberAnew_X7_numberFor rfl rfl rfl (by decide +kernel) ⟨Nat.le_trans (Nat.le_of_ble_eq_true rfl : 3 + 1 ≤ 4) (Nat.le_add_right _ _), Nat.le_trans (Nat.le_of_ble_eq_true rfl : 8 + (5 + 11) + 62 ≤ 86) (Nat.le_add_right _ _)⟩) (pwu_V t_6 rfl hP hK hZ hS) rfl rfl hl.1 rfl (lv_room (Nat.le_of_ble_eq_true rfl)) dX8_numberAnew_78 ⟨Nat.zero_le _, Nat.zero_le _⟩) hS (fun H locs hP hS => ?_)
    exact w_iret hx hb hr hlocks hP hS (rt_inv hf) dX8_numberAnew_81
  unfold f_X8_numberAnew at hf
  refine lv_iload_n hx hb dX8_numberAnew_0 rfl (lv_at hl 1 rfl) ?_
  refine lv_iconst (v := 5) hx hb dX8_numberAnew_1 (by decide) ?_
  refine lv_icmp_lt (tgt := 11) hx hb dX8_numberAnew_2 (by decide) (fun b_7 => ?_) (fun b_7 => ?_)
  · have hf := if_t b_7 hf
    refine lv_iload_n hx hb dX8_numberAnew_11 rfl (lv_at hl 1 rfl) ?_
    exact w_iret hx hb hr hlocks hP hS (rt_inv hf) dX8_numberAnew_12
  · have hf := if_f b_7 hf
    refine lv_iload_n hx hb dX8_numberAnew_5 rfl (lv_at hl 2 rfl) ?_
    refine lv_bipush (v := (10)) hx hb dX8_numberAnew_6 (by decide) ?_
    refine lv_icmp_le (tgt := 13) hx hb dX8_numberAnew_8 (by decide) (fun b_8 => ?_) (fun b_8 => ?_)
    · have hf := if_t b_8 hf
      refine lv_aload_n hx hb dX8_numberAnew_13 rfl (lv_at hl 0 rfl) ?_
      refine lv_aload_n hx hb dX8_numberAnew_14 rfl (lv_at hl 0 rfl) ?_
      refine w_gR (z := 11) (C := RX8) (T := TX8) hx hb hts n8 hown hK hP t_0 rfl 4 (by decide) L27 rfl rfl dX8_numberAnew_15 ?_
      refine lv_iload_n hx hb dX8_numberAnew_18 rfl (lv_at hl 1 rfl) ?_
      obtain ⟨r_9, S_10, hc_11, hf⟩ := bo_inv hf
      refine w_ci (va_runV (As := [.int a1]) (rest := [.ref (ad 0)]) ⟨hx, hb, hml, hown, hts⟩ (c_X7_firstOf l D y ad aL aU hI n 11 isT11 S a1 _ _ hc_11) (cwV 1 hts gX8_numberAnew_X7_firstOf rfl rfl rfl (by decide +kernel) ⟨Nat.le_trans (Nat.le_of_ble_eq_true rfl : 2 + 1 ≤ 4) (Nat.le_add_right _ _), Nat.le_trans (Nat.le_of_ble_eq_true rfl : 8 + (2 + 11) + 41 ≤ 86) (Nat.le_add_right _ _)⟩) (pwu_V t_11 rfl hP hK hZ hS) rfl rfl hl.1 rfl (lv_room (Nat.le_of_ble_eq_true rfl)) dX8_numberAnew_19 ⟨Nat.zero_le _, Nat.zero_le _⟩) hS (fun H locs hP hS => ?_)
      refine lv_iload_n hx hb dX8_numberAnew_22 rfl (lv_at hl 2 rfl) ?_
      refine lv_iconst (v := 1) hx hb dX8_numberAnew_23 (by decide) ?_
      refine lv_iadd hx hb dX8_numberAnew_24 ?_
      obtain ⟨r_12, S_13, hc_14, hf⟩ := bo_inv hf
      refine w_ci (va_runV (As := [.int r_9, .int (a2 + (1 : Int32))]) (rest := []) ⟨hx, hb, hml, hown, hts⟩ (ih S_10 r_9 ((a2 + (1 : Int32))) _ _ hc_14) (cwV 2 hts gX8_numberAnew_X8_numberAnew rfl rfl rfl (by decide +kernel) ⟨Nat.le_refl _, by show 8 + (5 + 11) + (_ + d * 24) ≤ _ + (d + 1) * 24; omega⟩) (pwu_V t_0 rfl hP hK hZ hS) rfl rfl hl.1 rfl (lv_room (Nat.le_of_ble_eq_true rfl)) dX8_numberAnew_25 ⟨Nat.zero_le _, Nat.zero_le _⟩) hS (fun H locs hP hS => ?_)
      obtain ⟨x3_15, ex3_15, hf⟩ := bd_inv hf
      refine w_topI ex3_15 ?_
      refine lv_istore_n (lv' := [(3, .int x3_15), (0, .ref (ad 0)), (1, .int a1), (2, .int a2)]) hx hb dX8_numberAnew_28 rfl hl (by decide) rfl (fun ls hl => ?_)
      refine lv_ldcw (v := (-2000000001)) hx hb hown K270 dX8_numberAnew_29 ?_
      obtain ⟨x4_16, ex4_16, hf⟩ := bd_inv hf
      refine w_topI ex4_16 ?_
      refine lv_istore (lv' := [(4, .int x4_16), (3, .int x3_15), (0, .ref (ad 0)), (1, .int a1), (2, .int a2)]) hx hb dX8_numberAnew_32 hl (by decide) rfl (fun ls hl => ?_)
      refine lv_aload_n hx hb dX8_numberAnew_34 rfl (lv_at hl 2 rfl) ?_
      refine w_gR (z := 11) (C := RX8) (T := TX8) hx hb hts n8 hown hK hP t_0 rfl 4 (by decide) L27 rfl rfl dX8_numberAnew_35 ?_
      refine lv_iload_n hx hb dX8_numberAnew_38 rfl (lv_at hl 3 rfl) ?_
      obtain ⟨r_17, S_18, hc_19, hf⟩ := bo_inv hf
      refine w_ci (va_runV (As := [.int a1]) (rest := []) ⟨hx, hb, hml, hown, hts⟩ (c_X7_kindOf l D y ad aL aU hI n 11 isT11 S_13 a1 _ _ hc_19) (cwV 1 hts gX8_numberAnew_X7_kindOf rfl rfl rfl (by decide +kernel) ⟨Nat.le_trans (Nat.le_of_ble_eq_true rfl : 2 + 1 ≤ 4) (Nat.le_add_right _ _), Nat.le_trans (Nat.le_of_ble_eq_true rfl : 8 + (2 + 11) + 41 ≤ 86) (Nat.le_add_right _ _)⟩) (pwu_V t_11 rfl hP hK hZ hS) rfl rfl hl.1 rfl (lv_room (Nat.le_of_ble_eq_true rfl)) dX8_numberAnew_39 ⟨Nat.zero_le _, Nat.zero_le _⟩) hS (fun H locs hP hS => ?_)
      refine lv_iconst (v := 2) hx hb dX8_numberAnew_42 (by decide) ?_
      refine lv_icmp_ne (tgt := 63) hx hb dX8_numberAnew_43 (by decide) (fun b_20 => ?_) (fun b_20 => ?_)
      · have hf := if_f b_20 hf
        exact j63   S_18 a1 x3_15 x4_16 _ _ _ hf hP hS (lv_sub hl [2, 3, 1, 0] rfl)
      · have hf := if_t b_20 hf
        refine lv_aload_n hx hb dX8_numberAnew_46 rfl (lv_at hl 2 rfl) ?_
        refine lv_aload_n hx hb dX8_numberAnew_47 rfl (lv_at hl 2 rfl) ?_
        refine w_gR (z := 11) (C := RX8) (T := TX8) hx hb hts n8 hown hK hP t_0 rfl 4 (by decide) L27 rfl rfl dX8_numberAnew_48 ?_
        refine lv_iload_n hx hb dX8_numberAnew_51 rfl (lv_at hl 3 rfl) ?_
        obtain ⟨r_21, S_22, hc_23, hf⟩ := bo_inv hf
        refine w_ci (va_runV (As := [.int a1]) (rest := [.ref (ad 0)]) ⟨hx, hb, hml, hown, hts⟩ (c_X7_secondOf l D y ad aL aU hI n 11 isT11 S_18 a1 _ _ hc_23) (cwV 1 hts gX8_numberAnew_X7_secondOf rfl rfl rfl (by decide +kernel) ⟨Nat.le_trans (Nat.le_of_ble_eq_true rfl : 2 + 1 ≤ 4) (Nat.le_add_right _ _), Nat.le_trans (Nat.le_of_ble_eq_true rfl : 8 + (2 + 11) + 41 ≤ 86) (Nat.le_add_right _ _)⟩) (pwu_V t_11 rfl hP hK hZ hS) rfl rfl hl.1 rfl (lv_room (Nat.le_of_ble_eq_true rfl)) dX8_numberAnew_52 ⟨Nat.zero_le _, Nat.zero_le _⟩) hS (fun H locs hP hS => ?_)
        refine lv_iload_n hx hb dX8_numberAnew_55 rfl (lv_at hl 4 rfl) ?_
        refine lv_iconst (v := 1) hx hb dX8_numberAnew_56 (by decide) ?_
        refine lv_iadd hx hb dX8_numberAnew_57 ?_
        obtain ⟨r_24, S_25, hc_26, hf⟩ := bo_inv hf
        refine w_ci (va_runV (As := [.int r_21, .int (a2 + (1 : Int32))]) (rest := []) ⟨hx, hb, hml, hown, hts⟩ (ih S_22 r_21 ((a2 + (1 : Int32))) _ _ hc_26) (cwV 2 hts gX8_numberAnew_X8_numberAnew rfl rfl rfl (by decide +kernel) ⟨Nat.le_refl _, by show 8 + (5 + 11) + (_ + d * 24) ≤ _ + (d + 1) * 24; omega⟩) (pwu_V t_0 rfl hP hK hZ hS) rfl rfl hl.1 rfl (lv_room (Nat.le_of_ble_eq_true rfl)) dX8_numberAnew_58 ⟨Nat.zero_le _, Nat.zero_le _⟩) hS (fun H locs hP hS => ?_)
        obtain ⟨x4_27, ex4_27, hf⟩ := bd_inv hf
        refine w_topI ex4_27 ?_
        refine lv_istore (lv' := [(4, .int x4_27), (3, .int x3_15), (0, .ref (ad 0)), (1, .int a1), (2, .int a2)]) hx hb dX8_numberAnew_61 hl (by decide) rfl (fun ls hl => ?_)
        exact j63   S_25 a1 x3_15 x4_27 _ _ _ hf hP hS (lv_sub hl [2, 3, 1, 0] rfl)
    · have hf := if_f b_8 hf
      refine lv_iload_n hx hb dX8_numberAnew_11 rfl (lv_at hl 1 rfl) ?_
      exact w_iret hx hb hr hlocks hP hS (rt_inv hf) dX8_numberAnew_12
set_option maxHeartbeats 4000000 in
set_option maxRecDepth 100000 in
theorem c_X8_numberTermsAnew (l : Launch) (D : va_G) (y : y4) (ad : Nat → Nat) (aL aU : Nat) (hI : Inj ad) (n : Nat) (S : St) (r : Unit) (S2 : St) (hf : f_X8_numberTermsAnew n S = some (r, S2)) : KV l D y ad aL aU yX8_numberTermsAnew wsX8_numberTermsAnew ({ frames := 18, cells := 0, slots := 0, locals := 422 }) [.ref (ad 0)] S r S2 := by
  refine Met.ofW (cc := cX8_numberTermsAnew) (maxL := 4) (ret := none) (by decide) rfl ?_
  intro p e s m args below meth c s₁ B hml hv
  obtain ⟨rfl, hP, hK, hZ⟩ := hv
  have hx := B.exec
  have hb := B.bytes
  have hr := B.returns
  have hts := atoms_spec (ws := wsX8_numberTermsAnew) B.pre
  have hown : s.vm.findClass RX8 = some m.cls := findClass_of_methodNamed B.named
  have hlocks := B.notSynchronized
  have hS : va_S (AA ad) s.heap s.heap [] := va_S.rf
  have L23 := hts (.fieldLink RX8 23 "JoinedTheories" "terms" "LJoinedTheories$Terms;") (by decide +kernel)
  have L27 := hts (.fieldLink RX8 27 "JoinedTheories" "formerTerms" "LJoinedTheories$Terms;") (by decide +kernel)
  have L33 := hts (.fieldLink RX8 33 "JoinedTheories" "literals" "LJoinedTheories$Literals;") (by decide +kernel)
  have n8 : ∀ w ∈ wsX80, w ∈ wsX8_numberTermsAnew := by decide +kernel
  have hl := lv_entry ([.ref (ad 0)]) (n := 4) (Nat.le_of_ble_eq_true rfl)
  rw [lg_entry_eq]
  generalize (lg_sl ([.ref (ad 0)]) ++ List.replicate (4 - (lg_sl ([.ref (ad 0)])).length) Slot.unset).toArray = ls at hl ⊢
  have hl : lv_has ls 4 [(0, .ref (ad 0))] := hl
  have b21 : ∀ (k21 : St → Int32 → Option (Unit × St)) (hk21 : ∀ (S : St) (x1 : Int32) (H : Heap) (locs : List Loc) (ls : Array Slot), k21 S x1 = some (r, S2) → PW D y ad S H → va_S (AA ad) s.heap H locs → lv_has ls 4 [(0, .ref (ad 0)), (1, .int x1)] → W p l e (headSpec wsX8_numberTermsAnew ({ frames := 18, cells := 0, slots := 0, locals := 422 })).room s m ([.ref (ad 0)] : List Value).toArray below meth c H locs 0 0 (QV below r S2 D y ad ([.ref (ad 0)] : List Value).toArray s) (F0 m 21 ls [])), ∀ (S : St) (x1 : Int32) (H : Heap) (locs : List Loc) (ls : Array Slot), f_X8_numberTermsAnew_21 n k21 S x1 = some (r, S2) → PW D y ad S H → va_S (AA ad) s.heap H locs → lv_has ls 4 [(0, .ref (ad 0)), (1, .int x1)] → W p l e (headSpec wsX8_numberTermsAnew ({ frames := 18, cells := 0, slots := 0, locals := 422 })).room s m ([.ref (ad 0)] : List Value).toArray below meth c H locs 0 0 (QV below r S2 D y ad ([.ref (ad 0)] : List Value).toArray s) (F0 m 21 ls []) := by
    intro  k21 hk21 S x1 H locs ls hf hP hS hl
    unfold f_X8_numberTermsAnew_21 at hf
    refine lv_iload_n hx hb dX8_numberTermsAnew_21 rfl (lv_at hl 1 rfl) ?_
    refine lv_aload_n hx hb dX8_numberTermsAnew_22 rfl (lv_at hl 0 rfl) ?_
    refine w_gR (z := 16) (C := RX8) (T := TX8) hx hb hts n8 hown hK hP t_0 rfl 5 (by decide) L33 rfl rfl dX8_numberTermsAnew_23 ?_
    obtain ⟨r_1, S_2, hc_3, hf⟩ := bo_inv hf
    refine w_ci (va_runV (As := []) (rest := [.int x1]) ⟨hx, hb, hml, hown, hts⟩ (c_X3_size l D y ad aL aU hI n S  _ _ hc_3) (cwV 0 hts gX8_numberTermsAnew_X3_size rfl rfl rfl (by decide +kernel) ⟨Nat.le_of_ble_eq_true rfl, Nat.le_of_ble_eq_true rfl⟩) (pwu_V t_16 rfl hP hK hZ hS) rfl rfl hl.1 rfl (lv_room (Nat.le_of_ble_eq_true rfl)) dX8_numberTermsAnew_26 ⟨Nat.zero_le _, Nat.zero_le _⟩) hS (fun H locs hP hS => ?_)
    refine lv_icmp_ge (tgt := 76) hx hb dX8_numberTermsAnew_29 (by decide) (fun b_4 => ?_) (fun b_4 => ?_)
    · have hf := if_t b_4 hf
      exact w_vret hx hb hr hlocks hP hS (rt_inv hf) dX8_numberTermsAnew_76
    · have hf := if_f b_4 hf
      refine lv_aload_n hx hb dX8_numberTermsAnew_32 rfl (lv_at hl 0 rfl) ?_
      refine lv_aload_n hx hb dX8_numberTermsAnew_33 rfl (lv_at hl 0 rfl) ?_
      refine w_gR (z := 16) (C := RX8) (T := TX8) hx hb hts n8 hown hK hP t_0 rfl 5 (by decide) L33 rfl rfl dX8_numberTermsAnew_34 ?_
      refine lv_iload_n hx hb dX8_numberTermsAnew_37 rfl (lv_at hl 1 rfl) ?_
      obtain ⟨r_5, S_6, hc_7, hf⟩ := bo_inv hf
      refine w_ci (va_runV (As := [.int x1]) (rest := [.ref (ad 0)]) ⟨hx, hb, hml, hown, hts⟩ (c_X3_leftOf l D y ad aL aU hI n S_2 x1 _ _ hc_7) (cwV 1 hts gX8_numberTermsAnew_X3_leftOf rfl rfl rfl (by decide +kernel) ⟨Nat.le_of_ble_eq_true rfl, Nat.le_of_ble_eq_true rfl⟩) (pwu_V t_16 rfl hP hK hZ hS) rfl rfl hl.1 rfl (lv_room (Nat.le_of_ble_eq_true rfl)) dX8_numberTermsAnew_38 ⟨Nat.zero_le _, Nat.zero_le _⟩) hS (fun H locs hP hS => ?_)
      refine lv_iconst (v := 0) hx hb dX8_numberTermsAnew_41 (by decide) ?_
      obtain ⟨r_8, S_9, hc_10, hf⟩ := bo_inv hf
      refine w_ci (va_runV (As := [.int r_5, .int (0 : Int32)]) (rest := []) ⟨hx, hb, hml, hown, hts⟩ (c_X8_numberAnew l D y ad aL aU hI n 13 S_6 r_5 (0 : Int32) _ _ hc_10) (cwV 2 hts gX8_numberTermsAnew_X8_numberAnew rfl rfl rfl (by decide +kernel) ⟨Nat.le_of_ble_eq_true rfl, Nat.le_of_ble_eq_true rfl⟩) (pwu_V t_0 rfl hP hK hZ hS) rfl rfl hl.1 rfl (lv_room (Nat.le_of_ble_eq_true rfl)) dX8_numberTermsAnew_42 ⟨Nat.zero_le _, Nat.zero_le _⟩) hS (fun H locs hP hS => ?_)
      obtain ⟨x2_11, ex2_11, hf⟩ := bd_inv hf
      refine w_topI ex2_11 ?_
      refine lv_istore_n (lv' := [(2, .int x2_11), (0, .ref (ad 0)), (1, .int x1)]) hx hb dX8_numberTermsAnew_45 rfl hl (by decide) rfl (fun ls hl => ?_)
      refine lv_aload_n hx hb dX8_numberTermsAnew_46 rfl (lv_at hl 1 rfl) ?_
      refine lv_aload_n hx hb dX8_numberTermsAnew_47 rfl (lv_at hl 1 rfl) ?_
      refine w_gR (z := 16) (C := RX8) (T := TX8) hx hb hts n8 hown hK hP t_0 rfl 5 (by decide) L33 rfl rfl dX8_numberTermsAnew_48 ?_
      refine lv_iload_n hx hb dX8_numberTermsAnew_51 rfl (lv_at hl 2 rfl) ?_
      obtain ⟨r_12, S_13, hc_14, hf⟩ := bo_inv hf
      refine w_ci (va_runV (As := [.int x1]) (rest := [.ref (ad 0)]) ⟨hx, hb, hml, hown, hts⟩ (c_X3_rightOf l D y ad aL aU hI n S_9 x1 _ _ hc_14) (cwV 1 hts gX8_numberTermsAnew_X3_rightOf rfl rfl rfl (by decide +kernel) ⟨Nat.le_of_ble_eq_true rfl, Nat.le_of_ble_eq_true rfl⟩) (pwu_V t_16 rfl hP hK hZ hS) rfl rfl hl.1 rfl (lv_room (Nat.le_of_ble_eq_true rfl)) dX8_numberTermsAnew_52 ⟨Nat.zero_le _, Nat.zero_le _⟩) hS (fun H locs hP hS => ?_)
      refine lv_iconst (v := 0) hx hb dX8_numberTermsAnew_55 (by decide) ?_
      obtain ⟨r_15, S_16, hc_17, hf⟩ := bo_inv hf
      refine w_ci (va_runV (As := [.int r_12, .int (0 : Int32)]) (rest := []) ⟨hx, hb, hml, hown, hts⟩ (c_X8_numberAnew l D y ad aL aU hI n 13 S_13 r_12 (0 : Int32) _ _ hc_17) (cwV 2 hts gX8_numberTermsAnew_X8_numberAnew rfl rfl rfl (by decide +kernel) ⟨Nat.le_of_ble_eq_true rfl, Nat.le_of_ble_eq_true rfl⟩) (pwu_V t_0 rfl hP hK hZ hS) rfl rfl hl.1 rfl (lv_room (Nat.le_of_ble_eq_true rfl)) dX8_numberTermsAnew_56 ⟨Nat.zero_le _, Nat.zero_le _⟩) hS (fun H locs hP hS => ?_)
      obtain ⟨x3_18, ex3_18, hf⟩ := bd_inv hf
      refine w_topI ex3_18 ?_
      refine lv_istore_n (lv' := [(3, .int x3_18), (2, .int x2_11), (0, .ref (ad 0)), (1, .int x1)]) hx hb dX8_numberTermsAnew_59 rfl hl (by decide) rfl (fun ls hl => ?_)
      refine lv_aload_n hx hb dX8_numberTermsAnew_60 rfl (lv_at hl 2 rfl) ?_
      refine w_gR (z := 16) (C := RX8) (T := TX8) hx hb hts n8 hown hK hP t_0 rfl 5 (by decide) L33 rfl rfl dX8_numberTermsAnew_61 ?_
      refine lv_iload_n hx hb dX8_numberTermsAnew_64 rfl (lv_at hl 3 rfl) ?_
      refine lv_iload_n hx hb dX8_numberTermsAnew_65 rfl (lv_at hl 1 rfl) ?_
      refine lv_iload_n hx hb dX8_numberTermsAnew_66 rfl (lv_at hl 0 rfl) ?_
      obtain ⟨r_19, S_20, hc_21, hf⟩ := bo_inv hf
      refine w_cv (va_runV (As := [.int x1, .int x2_11, .int x3_18]) (rest := []) ⟨hx, hb, hml, hown, hts⟩ (c_X3_setTerms l D y ad aL aU hI n S_16 x1 x2_11 x3_18 _ _ hc_21) (cwV 3 hts gX8_numberTermsAnew_X3_setTerms rfl rfl rfl (by decide +kernel) ⟨Nat.le_of_ble_eq_true rfl, Nat.le_of_ble_eq_true rfl⟩) (pwu_V t_16 rfl hP hK hZ hS) rfl rfl hl.1 rfl (lv_room (Nat.le_of_ble_eq_true rfl)) dX8_numberTermsAnew_67 ⟨Nat.zero_le _, Nat.zero_le _⟩) hS (fun H locs hP hS => ?_)
      obtain ⟨x1_22, ex1_22, hf⟩ := bd_inv hf
      refine lv_iinc (v := x1_22) (lv' := [(1, .int x1_22), (3, .int x3_18), (2, .int x2_11), (0, .ref (ad 0))]) hx hb dX8_numberTermsAnew_70 hl (k := 3) rfl (by rw [ex1_22]; rfl) (by decide) rfl (fun ls hl => ?_)
      refine lv_goto (tgt := 21) hx hb dX8_numberTermsAnew_73 (by decide) ?_
      exact hk21 S_20 x1_22 _ _ _ hf hP hS (lv_sub hl [3, 0] rfl)
  have j21 : ∀ (fu : Nat), ∀ (S : St) (x1 : Int32) (H : Heap) (locs : List Loc) (ls : Array Slot), fixF (fun _ _ => none) (f_X8_numberTermsAnew_21 n) fu S x1 = some (r, S2) → PW D y ad S H → va_S (AA ad) s.heap H locs → lv_has ls 4 [(0, .ref (ad 0)), (1, .int x1)] → W p l e (headSpec wsX8_numberTermsAnew ({ frames := 18, cells := 0, slots := 0, locals := 422 })).room s m ([.ref (ad 0)] : List Value).toArray below meth c H locs 0 0 (QV below r S2 D y ad ([.ref (ad 0)] : List Value).toArray s) (F0 m 21 ls []) := by
    intro   fu
    induction fu with
    | zero => intro S x1 H locs ls hf hP hS hl; cases hf
    | succ fu ih => exact b21   (fixF (fun _ _ => none) (f_X8_numberTermsAnew_21 n) fu) ih
  unfold f_X8_numberTermsAnew at hf
  refine lv_aload_n hx hb dX8_numberTermsAnew_0 rfl (lv_at hl 0 rfl) ?_
  refine w_gR (z := 11) (C := RX8) (T := TX8) hx hb hts n8 hown hK hP t_0 rfl 4 (by decide) L27 rfl rfl dX8_numberTermsAnew_1 ?_
  refine lv_aload_n hx hb dX8_numberTermsAnew_4 rfl (lv_at hl 0 rfl) ?_
  refine w_gR (z := 6) (C := RX8) (T := TX8) hx hb hts n8 hown hK hP t_0 rfl 3 (by decide) L23 rfl rfl dX8_numberTermsAnew_5 ?_
  obtain ⟨r_23, S_24, hc_25, hf⟩ := bo_inv hf
  refine w_cv (va_runV (As := [.ref (ad 6)]) (rest := []) ⟨hx, hb, hml, hown, hts⟩ (c_X7_copyFrom l D y ad aL aU hI n 11 isT11 S 6 isT6 _ _ hc_25) (cwV 1 hts gX8_numberTermsAnew_X7_copyFrom rfl rfl rfl (by decide +kernel) ⟨Nat.le_of_ble_eq_true rfl, Nat.le_of_ble_eq_true rfl⟩) (pwu_V t_11 rfl hP hK hZ hS) rfl rfl hl.1 rfl (lv_room (Nat.le_of_ble_eq_true rfl)) dX8_numberTermsAnew_8 ⟨Nat.zero_le _, Nat.zero_le _⟩) hS (fun H locs hP hS => ?_)
  refine lv_aload_n hx hb dX8_numberTermsAnew_11 rfl (lv_at hl 0 rfl) ?_
  refine w_gR (z := 6) (C := RX8) (T := TX8) hx hb hts n8 hown hK hP t_0 rfl 3 (by decide) L23 rfl rfl dX8_numberTermsAnew_12 ?_
  refine lv_iconst (v := 5) hx hb dX8_numberTermsAnew_15 (by decide) ?_
  obtain ⟨r_26, S_27, hc_28, hf⟩ := bo_inv hf
  refine w_cv (va_runV (As := [.int (5 : Int32)]) (rest := []) ⟨hx, hb, hml, hown, hts⟩ (c_X7_shrinkTo l D y ad aL aU hI n 6 isT6 S_24 (5 : Int32) _ _ hc_28) (cwV 1 hts gX8_numberTermsAnew_X7_shrinkTo rfl rfl rfl (by decide +kernel) ⟨Nat.le_of_ble_eq_true rfl, Nat.le_of_ble_eq_true rfl⟩) (pwu_V t_6 rfl hP hK hZ hS) rfl rfl hl.1 rfl (lv_room (Nat.le_of_ble_eq_true rfl)) dX8_numberTermsAnew_16 ⟨Nat.zero_le _, Nat.zero_le _⟩) hS (fun H locs hP hS => ?_)
  refine lv_iconst (v := 0) hx hb dX8_numberTermsAnew_19 (by decide) ?_
  obtain ⟨x1_29, ex1_29, hf⟩ := bd_inv hf
  refine w_topI ex1_29 ?_
  refine lv_istore_n (lv' := [(1, .int x1_29), (0, .ref (ad 0))]) hx hb dX8_numberTermsAnew_20 rfl hl (by decide) rfl (fun ls hl => ?_)
  exact j21   n S_27 x1_29 _ _ _ hf hP hS (lv_sub hl [1, 0] rfl)
