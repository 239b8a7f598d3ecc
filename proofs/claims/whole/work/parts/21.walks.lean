set_option maxHeartbeats 4000000 in
set_option maxRecDepth 100000 in
theorem c_X3_kindOf (l : Launch) (D : va_G) (y : y4) (ad : Nat → Nat) (aL aU : Nat) (hI : Inj ad) (n : Nat) (S : St) (a1 : Int32) (r : Int32) (S2 : St) (hf : f_X3_kindOf n S a1 = some (r, S2)) : KI l D y ad aL aU yX3_kindOf wsX3_kindOf ({ frames := 2, cells := 0, slots := 0, locals := 41 }) [.ref (ad 16), .int a1] S r S2 := by
  refine Met.ofW (cc := cX3_kindOf) (maxL := 2) (ret := (some .int)) (by decide) rfl ?_
  intro p e s m args below meth c s₁ B hml hv
  obtain ⟨rfl, hP, hK, hZ⟩ := hv
  have hx := B.exec
  have hb := B.bytes
  have hr := B.returns
  have hts := atoms_spec (ws := wsX3_kindOf) B.pre
  have hown : s.vm.findClass RX3 = some m.cls := findClass_of_methodNamed B.named
  have hlocks := B.notSynchronized
  have hS : va_S (AA ad) s.heap s.heap [] := va_S.rf
  have L9 := hts (.fieldLink RX3 9 "JoinedTheories$Literals" "kinds" "[I") (by decide +kernel)
  have K32 := hts (.constant RX3 32 (-2000000001)) (by decide +kernel)
  have n3 : ∀ w ∈ wsX30, w ∈ wsX3_kindOf := by decide +kernel
  have hl := lv_entry ([.ref (ad 16), .int a1]) (n := 2) (Nat.le_of_ble_eq_true rfl)
  rw [lg_entry_eq]
  generalize (lg_sl ([.ref (ad 16), .int a1]) ++ List.replicate (2 - (lg_sl ([.ref (ad 16), .int a1])).length) Slot.unset).toArray = ls at hl ⊢
  have hl : lv_has ls 2 [(0, .ref (ad 16)), (1, .int a1)] := hl
  unfold f_X3_kindOf at hf
  refine lv_aload_n hx hb dX3_kindOf_0 rfl (lv_at hl 0 rfl) ?_
  refine lv_iload_n hx hb dX3_kindOf_1 rfl (lv_at hl 1 rfl) ?_
  obtain ⟨r_1, S_2, hc_3, hf⟩ := bo_inv hf
  refine w_ci (va_runV (As := [.int a1]) (rest := []) ⟨hx, hb, hml, hown, hts⟩ (c_X3_has l D y ad aL aU hI n S a1 _ _ hc_3) (cwV 1 hts gX3_kindOf_X3_has rfl rfl rfl (by decide +kernel) ⟨Nat.le_of_ble_eq_true rfl, Nat.le_of_ble_eq_true rfl⟩) (pwu_V t_16 rfl hP hK hZ hS) rfl rfl hl.1 rfl (lv_room (Nat.le_of_ble_eq_true rfl)) dX3_kindOf_2 ⟨Nat.zero_le _, Nat.zero_le _⟩) hS (fun H locs hP hS => ?_)
  refine lv_if_eq (tgt := 17) hx hb dX3_kindOf_5 (by decide) (fun b_4 => ?_) (fun b_4 => ?_)
  · have hf := if_t b_4 hf
    refine lv_ldc (v := (-2000000001)) hx hb hown K32 dX3_kindOf_17 ?_
    exact w_iret hx hb hr hlocks hP hS (rt_inv hf) dX3_kindOf_19
  · have hf := if_f b_4 hf
    refine lv_aload_n hx hb dX3_kindOf_8 rfl (lv_at hl 0 rfl) ?_
    refine w_gR (z := 17) (C := RX3) (T := TX3) hx hb hts n3 hown hK hP t_16 rfl 0 (by decide) L9 rfl rfl dX3_kindOf_9 ?_
    refine lv_iload_n hx hb dX3_kindOf_12 rfl (lv_at hl 1 rfl) ?_
    obtain ⟨g_5, hf⟩ := gd_inv hf
    refine w_iald hx hb hK hP t_17 g_5 dX3_kindOf_13 ?_
    refine lv_goto (tgt := 19) hx hb dX3_kindOf_14 (by decide) ?_
    exact w_iret hx hb hr hlocks hP hS (rt_inv hf) dX3_kindOf_19
set_option maxHeartbeats 4000000 in
set_option maxRecDepth 100000 in
theorem c_X3_leftOf (l : Launch) (D : va_G) (y : y4) (ad : Nat → Nat) (aL aU : Nat) (hI : Inj ad) (n : Nat) (S : St) (a1 : Int32) (r : Int32) (S2 : St) (hf : f_X3_leftOf n S a1 = some (r, S2)) : KI l D y ad aL aU yX3_leftOf wsX3_leftOf ({ frames := 2, cells := 0, slots := 0, locals := 41 }) [.ref (ad 16), .int a1] S r S2 := by
  refine Met.ofW (cc := cX3_leftOf) (maxL := 2) (ret := (some .int)) (by decide) rfl ?_
  intro p e s m args below meth c s₁ B hml hv
  obtain ⟨rfl, hP, hK, hZ⟩ := hv
  have hx := B.exec
  have hb := B.bytes
  have hr := B.returns
  have hts := atoms_spec (ws := wsX3_leftOf) B.pre
  have hown : s.vm.findClass RX3 = some m.cls := findClass_of_methodNamed B.named
  have hlocks := B.notSynchronized
  have hS : va_S (AA ad) s.heap s.heap [] := va_S.rf
  have L15 := hts (.fieldLink RX3 15 "JoinedTheories$Literals" "lefts" "[I") (by decide +kernel)
  have K32 := hts (.constant RX3 32 (-2000000001)) (by decide +kernel)
  have n3 : ∀ w ∈ wsX30, w ∈ wsX3_leftOf := by decide +kernel
  have hl := lv_entry ([.ref (ad 16), .int a1]) (n := 2) (Nat.le_of_ble_eq_true rfl)
  rw [lg_entry_eq]
  generalize (lg_sl ([.ref (ad 16), .int a1]) ++ List.replicate (2 - (lg_sl ([.ref (ad 16), .int a1])).length) Slot.unset).toArray = ls at hl ⊢
  have hl : lv_has ls 2 [(0, .ref (ad 16)), (1, .int a1)] := hl
  unfold f_X3_leftOf at hf
  refine lv_aload_n hx hb dX3_leftOf_0 rfl (lv_at hl 0 rfl) ?_
  refine lv_iload_n hx hb dX3_leftOf_1 rfl (lv_at hl 1 rfl) ?_
  obtain ⟨r_1, S_2, hc_3, hf⟩ := bo_inv hf
  refine w_ci (va_runV (As := [.int a1]) (rest := []) ⟨hx, hb, hml, hown, hts⟩ (c_X3_has l D y ad aL aU hI n S a1 _ _ hc_3) (cwV 1 hts gX3_leftOf_X3_has rfl rfl rfl (by decide +kernel) ⟨Nat.le_of_ble_eq_true rfl, Nat.le_of_ble_eq_true rfl⟩) (pwu_V t_16 rfl hP hK hZ hS) rfl rfl hl.1 rfl (lv_room (Nat.le_of_ble_eq_true rfl)) dX3_leftOf_2 ⟨Nat.zero_le _, Nat.zero_le _⟩) hS (fun H locs hP hS => ?_)
  refine lv_if_eq (tgt := 17) hx hb dX3_leftOf_5 (by decide) (fun b_4 => ?_) (fun b_4 => ?_)
  · have hf := if_t b_4 hf
    refine lv_ldc (v := (-2000000001)) hx hb hown K32 dX3_leftOf_17 ?_
    exact w_iret hx hb hr hlocks hP hS (rt_inv hf) dX3_leftOf_19
  · have hf := if_f b_4 hf
    refine lv_aload_n hx hb dX3_leftOf_8 rfl (lv_at hl 0 rfl) ?_
    refine w_gR (z := 18) (C := RX3) (T := TX3) hx hb hts n3 hown hK hP t_16 rfl 1 (by decide) L15 rfl rfl dX3_leftOf_9 ?_
    refine lv_iload_n hx hb dX3_leftOf_12 rfl (lv_at hl 1 rfl) ?_
    obtain ⟨g_5, hf⟩ := gd_inv hf
    refine w_iald hx hb hK hP t_18 g_5 dX3_leftOf_13 ?_
    refine lv_goto (tgt := 19) hx hb dX3_leftOf_14 (by decide) ?_
    exact w_iret hx hb hr hlocks hP hS (rt_inv hf) dX3_leftOf_19
set_option maxHeartbeats 4000000 in
set_option maxRecDepth 100000 in
theorem c_X3_rightOf (l : Launch) (D : va_G) (y : y4) (ad : Nat → Nat) (aL aU : Nat) (hI : Inj ad) (n : Nat) (S : St) (a1 : Int32) (r : Int32) (S2 : St) (hf : f_X3_rightOf n S a1 = some (r, S2)) : KI l D y ad aL aU yX3_rightOf wsX3_rightOf ({ frames := 2, cells := 0, slots := 0, locals := 41 }) [.ref (ad 16), .int a1] S r S2 := by
  refine Met.ofW (cc := cX3_rightOf) (maxL := 2) (ret := (some .int)) (by decide) rfl ?_
  intro p e s m args below meth c s₁ B hml hv
  obtain ⟨rfl, hP, hK, hZ⟩ := hv
  have hx := B.exec
  have hb := B.bytes
  have hr := B.returns
  have hts := atoms_spec (ws := wsX3_rightOf) B.pre
  have hown : s.vm.findClass RX3 = some m.cls := findClass_of_methodNamed B.named
  have hlocks := B.notSynchronized
  have hS : va_S (AA ad) s.heap s.heap [] := va_S.rf
  have L18 := hts (.fieldLink RX3 18 "JoinedTheories$Literals" "rights" "[I") (by decide +kernel)
  have K32 := hts (.constant RX3 32 (-2000000001)) (by decide +kernel)
  have n3 : ∀ w ∈ wsX30, w ∈ wsX3_rightOf := by decide +kernel
  have hl := lv_entry ([.ref (ad 16), .int a1]) (n := 2) (Nat.le_of_ble_eq_true rfl)
  rw [lg_entry_eq]
  generalize (lg_sl ([.ref (ad 16), .int a1]) ++ List.replicate (2 - (lg_sl ([.ref (ad 16), .int a1])).length) Slot.unset).toArray = ls at hl ⊢
  have hl : lv_has ls 2 [(0, .ref (ad 16)), (1, .int a1)] := hl
  unfold f_X3_rightOf at hf
  refine lv_aload_n hx hb dX3_rightOf_0 rfl (lv_at hl 0 rfl) ?_
  refine lv_iload_n hx hb dX3_rightOf_1 rfl (lv_at hl 1 rfl) ?_
  obtain ⟨r_1, S_2, hc_3, hf⟩ := bo_inv hf
  refine w_ci (va_runV (As := [.int a1]) (rest := []) ⟨hx, hb, hml, hown, hts⟩ (c_X3_has l D y ad aL aU hI n S a1 _ _ hc_3) (cwV 1 hts gX3_rightOf_X3_has rfl rfl rfl (by decide +kernel) ⟨Nat.le_of_ble_eq_true rfl, Nat.le_of_ble_eq_true rfl⟩) (pwu_V t_16 rfl hP hK hZ hS) rfl rfl hl.1 rfl (lv_room (Nat.le_of_ble_eq_true rfl)) dX3_rightOf_2 ⟨Nat.zero_le _, Nat.zero_le _⟩) hS (fun H locs hP hS => ?_)
  refine lv_if_eq (tgt := 17) hx hb dX3_rightOf_5 (by decide) (fun b_4 => ?_) (fun b_4 => ?_)
  · have hf := if_t b_4 hf
    refine lv_ldc (v := (-2000000001)) hx hb hown K32 dX3_rightOf_17 ?_
    exact w_iret hx hb hr hlocks hP hS (rt_inv hf) dX3_rightOf_19
  · have hf := if_f b_4 hf
    refine lv_aload_n hx hb dX3_rightOf_8 rfl (lv_at hl 0 rfl) ?_
    refine w_gR (z := 19) (C := RX3) (T := TX3) hx hb hts n3 hown hK hP t_16 rfl 2 (by decide) L18 rfl rfl dX3_rightOf_9 ?_
    refine lv_iload_n hx hb dX3_rightOf_12 rfl (lv_at hl 1 rfl) ?_
    obtain ⟨g_5, hf⟩ := gd_inv hf
    refine w_iald hx hb hK hP t_19 g_5 dX3_rightOf_13 ?_
    refine lv_goto (tgt := 19) hx hb dX3_rightOf_14 (by decide) ?_
    exact w_iret hx hb hr hlocks hP hS (rt_inv hf) dX3_rightOf_19
set_option maxHeartbeats 4000000 in
set_option maxRecDepth 100000 in
theorem c_X2_join (l : Launch) (D : va_G) (y : y4) (ad : Nat → Nat) (aL aU : Nat) (hI : Inj ad) (n : Nat) (S : St) (a1 : Int32) (a2 : Int32) (r : Int32) (S2 : St) (hf : f_X2_join n S a1 a2 = some (r, S2)) : KI l D y ad aL aU yX2_join wsX2_join ({ frames := 2, cells := 0, slots := 0, locals := 80 }) [.ref (ad 21), .int a1, .int a2] S r S2 := by
  refine Met.ofW (cc := cX2_join) (maxL := 7) (ret := (some .boolean)) (by decide) rfl ?_
  intro p e s m args below meth c s₁ B hml hv
  obtain ⟨rfl, hP, hK, hZ⟩ := hv
  have hx := B.exec
  have hb := B.bytes
  have hr := B.returns
  have hts := atoms_spec (ws := wsX2_join) B.pre
  have hown : s.vm.findClass RX2 = some m.cls := findClass_of_methodNamed B.named
  have hlocks := B.notSynchronized
  have hS : va_S (AA ad) s.heap s.heap [] := va_S.rf
  have L18 := hts (.fieldLink RX2 18 "JoinedTheories$Exchanger" "smallest" "[I") (by decide +kernel)
  have n2 : ∀ w ∈ wsX20, w ∈ wsX2_join := by decide +kernel
  have hl := lv_entry ([.ref (ad 21), .int a1, .int a2]) (n := 7) (Nat.le_of_ble_eq_true rfl)
  rw [lg_entry_eq]
  generalize (lg_sl ([.ref (ad 21), .int a1, .int a2]) ++ List.replicate (7 - (lg_sl ([.ref (ad 21), .int a1, .int a2])).length) Slot.unset).toArray = ls at hl ⊢
  have hl : lv_has ls 7 [(0, .ref (ad 21)), (1, .int a1), (2, .int a2)] := hl
  have j71 : ∀ (x3 : Int32) (x4 : Int32) (x5 : Int32) (k32 : St → Int32 → Option (Int32 × St)) (hk32 : ∀ (S : St) (x6 : Int32) (H : Heap) (locs : List Loc) (ls : Array Slot), k32 S x6 = some (r, S2) → PW D y ad S H → va_S (AA ad) s.heap H locs → lv_has ls 7 [(0, .ref (ad 21)), (3, .int x3), (4, .int x4), (5, .int x5), (6, .int x6)] → W p l e (headSpec wsX2_join ({ frames := 2, cells := 0, slots := 0, locals := 80 })).room s m ([.ref (ad 21), .int a1, .int a2] : List Value).toArray below meth c H locs 0 0 (QI below r S2 D y ad ([.ref (ad 21), .int a1, .int a2] : List Value).toArray s) (F0 m 32 ls [])), ∀ (S : St) (x6 : Int32) (H : Heap) (locs : List Loc) (ls : Array Slot), f_X2_join_71 n x3 x4 x5 k32 S x6 = some (r, S2) → PW D y ad S H → va_S (AA ad) s.heap H locs → lv_has ls 7 [(0, .ref (ad 21)), (3, .int x3), (4, .int x4), (5, .int x5), (6, .int x6)] → W p l e (headSpec wsX2_join ({ frames := 2, cells := 0, slots := 0, locals := 80 })).room s m ([.ref (ad 21), .int a1, .int a2] : List Value).toArray below meth c H locs 0 0 (QI below r S2 D y ad ([.ref (ad 21), .int a1, .int a2] : List Value).toArray s) (F0 m 71 ls []) := by
    intro x3 x4 x5 k32 hk32 S x6 H locs ls hf hP hS hl
    unfold f_X2_join_71 at hf
    obtain ⟨x6_1, ex6_1, hf⟩ := bd_inv hf
    refine lv_iinc (v := x6_1) (lv' := [(6, .int x6_1), (0, .ref (ad 21)), (3, .int x3), (4, .int x4), (5, .int x5)]) hx hb dX2_join_71 hl (k := 4) rfl (by rw [ex6_1]; rfl) (by decide) rfl (fun ls hl => ?_)
    refine lv_goto (tgt := 32) hx hb dX2_join_74 (by decide) ?_
    exact hk32 S x6_1 _ _ _ hf hP hS (lv_sub hl [1, 2, 3, 4, 0] rfl)
  have j62 : ∀ (x3 : Int32) (x4 : Int32) (x5 : Int32) (k32 : St → Int32 → Option (Int32 × St)) (hk32 : ∀ (S : St) (x6 : Int32) (H : Heap) (locs : List Loc) (ls : Array Slot), k32 S x6 = some (r, S2) → PW D y ad S H → va_S (AA ad) s.heap H locs → lv_has ls 7 [(0, .ref (ad 21)), (3, .int x3), (4, .int x4), (5, .int x5), (6, .int x6)] → W p l e (headSpec wsX2_join ({ frames := 2, cells := 0, slots := 0, locals := 80 })).room s m ([.ref (ad 21), .int a1, .int a2] : List Value).toArray below meth c H locs 0 0 (QI below r S2 D y ad ([.ref (ad 21), .int a1, .int a2] : List Value).toArray s) (F0 m 32 ls [])), ∀ (S : St) (x6 : Int32) (H : Heap) (locs : List Loc) (ls : Array Slot), f_X2_join_62 n x3 x4 x5 k32 S x6 = some (r, S2) → PW D y ad S H → va_S (AA ad) s.heap H locs → lv_has ls 7 [(0, .ref (ad 21)), (3, .int x3), (4, .int x4), (5, .int x5), (6, .int x6)] → W p l e (headSpec wsX2_join ({ frames := 2, cells := 0, slots := 0, locals := 80 })).room s m ([.ref (ad 21), .int a1, .int a2] : List Value).toArray below meth c H locs 0 0 (QI below r S2 D y ad ([.ref (ad 21), .int a1, .int a2] : List Value).toArray s) (F0 m 62 ls []) := by
    intro x3 x4 x5 k32 hk32 S x6 H locs ls hf hP hS hl
    unfold f_X2_join_62 at hf
    refine lv_aload_n hx hb dX2_join_62 rfl (lv_at hl 0 rfl) ?_
    refine w_gR (z := 22) (C := RX2) (T := TX2) hx hb hts n2 hown hK hP t_21 rfl 3 (by decide) L18 rfl rfl dX2_join_63 ?_
    refine lv_iload hx hb dX2_join_66 (lv_at hl 4 rfl) ?_
    refine lv_iload hx hb dX2_join_68 (lv_at hl 3 rfl) ?_
    obtain ⟨g_2, hf⟩ := gd_inv hf
    obtain ⟨S_3, eS_3, hf⟩ := bd_inv hf
    refine w_iast hx hb hK hI hP hS t_22 g_2 dX2_join_70 (fun H locs hP hS => ?_)
    rw [← eS_3] at hP
    exact j71 x3 x4 x5 k32 hk32 S_3 x6 _ _ _ hf hP hS (lv_sub hl [0, 1, 2, 3, 4] rfl)
  have b32 : ∀ (x3 : Int32) (x4 : Int32) (x5 : Int32) (k32 : St → Int32 → Option (Int32 × St)) (hk32 : ∀ (S : St) (x6 : Int32) (H : Heap) (locs : List Loc) (ls : Array Slot), k32 S x6 = some (r, S2) → PW D y ad S H → va_S (AA ad) s.heap H locs → lv_has ls 7 [(0, .ref (ad 21)), (3, .int x3), (4, .int x4), (5, .int x5), (6, .int x6)] → W p l e (headSpec wsX2_join ({ frames := 2, cells := 0, slots := 0, locals := 80 })).room s m ([.ref (ad 21), .int a1, .int a2] : List Value).toArray below meth c H locs 0 0 (QI below r S2 D y ad ([.ref (ad 21), .int a1, .int a2] : List Value).toArray s) (F0 m 32 ls [])), ∀ (S : St) (x6 : Int32) (H : Heap) (locs : List Loc) (ls : Array Slot), f_X2_join_32 n x3 x4 x5 k32 S x6 = some (r, S2) → PW D y ad S H → va_S (AA ad) s.heap H locs → lv_has ls 7 [(0, .ref (ad 21)), (3, .int x3), (4, .int x4), (5, .int x5), (6, .int x6)] → W p l e (headSpec wsX2_join ({ frames := 2, cells := 0, slots := 0, locals := 80 })).room s m ([.ref (ad 21), .int a1, .int a2] : List Value).toArray below meth c H locs 0 0 (QI below r S2 D y ad ([.ref (ad 21), .int a1, .int a2] : List Value).toArray s) (F0 m 32 ls []) := by
    intro x3 x4 x5 k32 hk32 S x6 H locs ls hf hP hS hl
    unfold f_X2_join_32 at hf
    refine lv_iload hx hb dX2_join_32 (lv_at hl 4 rfl) ?_
    refine lv_bipush (v := (10)) hx hb dX2_join_34 (by decide) ?_
    refine lv_icmp_ge (tgt := 77) hx hb dX2_join_36 (by decide) (fun b_4 => ?_) (fun b_4 => ?_)
    · have hf := if_t b_4 hf
      refine lv_iconst (v := 1) hx hb dX2_join_77 (by decide) ?_
      exact w_zret hx hb hr hlocks (fun h => h (by decide)) hP hS (rt_inv hf) dX2_join_78
    · have hf := if_f b_4 hf
      refine lv_aload_n hx hb dX2_join_39 rfl (lv_at hl 0 rfl) ?_
      refine w_gR (z := 22) (C := RX2) (T := TX2) hx hb hts n2 hown hK hP t_21 rfl 3 (by decide) L18 rfl rfl dX2_join_40 ?_
      refine lv_iload hx hb dX2_join_43 (lv_at hl 4 rfl) ?_
      obtain ⟨g_5, hf⟩ := gd_inv hf
      refine w_iald hx hb hK hP t_22 g_5 dX2_join_45 ?_
      refine lv_iload_n hx hb dX2_join_46 rfl (lv_at hl 1 rfl) ?_
      refine lv_icmp_eq (tgt := 62) hx hb dX2_join_47 (by decide) (fun b_6 => ?_) (fun b_6 => ?_)
      · have hf := if_t b_6 hf
        exact j62 x3 x4 x5 k32 hk32 S x6 _ _ _ hf hP hS (lv_sub hl [0, 1, 2, 3, 4] rfl)
      · have hf := if_f b_6 hf
        refine lv_aload_n hx hb dX2_join_50 rfl (lv_at hl 0 rfl) ?_
        refine w_gR (z := 22) (C := RX2) (T := TX2) hx hb hts n2 hown hK hP t_21 rfl 3 (by decide) L18 rfl rfl dX2_join_51 ?_
        refine lv_iload hx hb dX2_join_54 (lv_at hl 4 rfl) ?_
        obtain ⟨g_7, hf⟩ := gd_inv hf
        refine w_iald hx hb hK hP t_22 g_7 dX2_join_56 ?_
        refine lv_iload hx hb dX2_join_57 (lv_at hl 2 rfl) ?_
        refine lv_icmp_ne (tgt := 71) hx hb dX2_join_59 (by decide) (fun b_8 => ?_) (fun b_8 => ?_)
        · have hf := if_f b_8 hf
          exact j71 x3 x4 x5 k32 hk32 S x6 _ _ _ hf hP hS (lv_sub hl [0, 1, 2, 3, 4] rfl)
        · have hf := if_t b_8 hf
          exact j62 x3 x4 x5 k32 hk32 S x6 _ _ _ hf hP hS (lv_sub hl [0, 1, 2, 3, 4] rfl)
  have j32 : ∀ (x3 : Int32) (x4 : Int32) (x5 : Int32) (fu : Nat), ∀ (S : St) (x6 : Int32) (H : Heap) (locs : List Loc) (ls : Array Slot), fixF (fun _ _ => none) (f_X2_join_32 n x3 x4 x5) fu S x6 = some (r, S2) → PW D y ad S H → va_S (AA ad) s.heap H locs → lv_has ls 7 [(0, .ref (ad 21)), (3, .int x3), (4, .int x4), (5, .int x5), (6, .int x6)] → W p l e (headSpec wsX2_join ({ frames := 2, cells := 0, slots := 0, locals := 80 })).room s m ([.ref (ad 21), .int a1, .int a2] : List Value).toArray below meth c H locs 0 0 (QI below r S2 D y ad ([.ref (ad 21), .int a1, .int a2] : List Value).toArray s) (F0 m 32 ls []) := by
    intro x3 x4 x5  fu
    induction fu with
    | zero => intro S x6 H locs ls hf hP hS hl; cases hf
    | succ fu ih => exact b32 x3 x4 x5  (fixF (fun _ _ => none) (f_X2_join_32 n x3 x4 x5) fu) ih
  unfold f_X2_join at hf
  refine lv_aload_n hx hb dX2_join_0 rfl (lv_at hl 0 rfl) ?_
  refine lv_iload_n hx hb dX2_join_1 rfl (lv_at hl 1 rfl) ?_
  obtain ⟨r_9, S_10, hc_11, hf⟩ := bo_inv hf
  refine w_ci (va_runV (As := [.int a1]) (rest := []) ⟨hx, hb, hml, hown, hts⟩ (c_X2_smallestSame l D y ad aL aU hI n S a1 _ _ hc_11) (cwV 1 hts gX2_join_X2_smallestSame rfl rfl rfl (by decide +kernel) ⟨Nat.le_of_ble_eq_true rfl, Nat.le_of_ble_eq_true rfl⟩) (pwu_V t_21 rfl hP hK hZ hS) rfl rfl hl.1 rfl (lv_room (Nat.le_of_ble_eq_true rfl)) dX2_join_2 ⟨Nat.zero_le _, Nat.zero_le _⟩) hS (fun H locs hP hS => ?_)
  obtain ⟨x3_12, ex3_12, hf⟩ := bd_inv hf
  refine w_topI ex3_12 ?_
  refine lv_istore_n (lv' := [(3, .int x3_12), (0, .ref (ad 21)), (1, .int a1), (2, .int a2)]) hx hb dX2_join_5 rfl hl (by decide) rfl (fun ls hl => ?_)
  refine lv_aload_n hx hb dX2_join_6 rfl (lv_at hl 1 rfl) ?_
  refine lv_iload_n hx hb dX2_join_7 rfl (lv_at hl 3 rfl) ?_
  obtain ⟨r_13, S_14, hc_15, hf⟩ := bo_inv hf
  refine w_ci (va_runV (As := [.int a2]) (rest := []) ⟨hx, hb, hml, hown, hts⟩ (c_X2_smallestSame l D y ad aL aU hI n S_10 a2 _ _ hc_15) (cwV 1 hts gX2_join_X2_smallestSame rfl rfl rfl (by decide +kernel) ⟨Nat.le_of_ble_eq_true rfl, Nat.le_of_ble_eq_true rfl⟩) (pwu_V t_21 rfl hP hK hZ hS) rfl rfl hl.1 rfl (lv_room (Nat.le_of_ble_eq_true rfl)) dX2_join_8 ⟨Nat.zero_le _, Nat.zero_le _⟩) hS (fun H locs hP hS => ?_)
  obtain ⟨x4_16, ex4_16, hf⟩ := bd_inv hf
  refine w_topI ex4_16 ?_
  refine lv_istore (lv' := [(4, .int x4_16), (3, .int x3_12), (0, .ref (ad 21)), (1, .int a1), (2, .int a2)]) hx hb dX2_join_11 hl (by decide) rfl (fun ls hl => ?_)
  refine lv_iload_n hx hb dX2_join_13 rfl (lv_at hl 1 rfl) ?_
  refine lv_iload hx hb dX2_join_14 (lv_at hl 0 rfl) ?_
  refine lv_icmp_ne (tgt := 21) hx hb dX2_join_16 (by decide) (fun b_17 => ?_) (fun b_17 => ?_)
  · have hf := if_f b_17 hf
    refine lv_iload_n hx hb dX2_join_21 rfl (lv_at hl 1 rfl) ?_
    refine lv_iload hx hb dX2_join_22 (lv_at hl 0 rfl) ?_
    refine w_min hx hb (hml.trans hl.1.symm) hown (hts (.methodLink RX2 113 Lib.Math.min.name) (by decide +kernel)) (hts (.static Lib.Math.min.name) (by decide +kernel)) (hts (.initialized "java/lang/Math") (by decide +kernel)) (hts (.code Lib.Math.min.name Lib.Math.min.code 2 (some .int)) (by decide +kernel)) (Nat.le_of_ble_eq_true rfl) (Nat.le_of_ble_eq_true rfl) dX2_join_24 ?_
    obtain ⟨x5_18, ex5_18, hf⟩ := bd_inv hf
    refine w_topI ex5_18 ?_
    refine lv_istore (lv' := [(5, .int x5_18), (4, .int x4_16), (3, .int x3_12), (0, .ref (ad 21)), (1, .int a1), (2, .int a2)]) hx hb dX2_join_27 hl (by decide) rfl (fun ls hl => ?_)
    refine lv_iconst (v := 0) hx hb dX2_join_29 (by decide) ?_
    obtain ⟨x6_19, ex6_19, hf⟩ := bd_inv hf
    refine w_topI ex6_19 ?_
    refine lv_istore (lv' := [(6, .int x6_19), (5, .int x5_18), (4, .int x4_16), (3, .int x3_12), (0, .ref (ad 21)), (1, .int a1), (2, .int a2)]) hx hb dX2_join_30 hl (by decide) rfl (fun ls hl => ?_)
    exact j32 x3_12 x4_16 x5_18  n S_14 x6_19 _ _ _ hf hP hS (lv_sub hl [4, 3, 2, 1, 0] rfl)
  · have hf := if_t b_17 hf
    refine lv_iconst (v := 0) hx hb dX2_join_19 (by decide) ?_
    exact w_zret hx hb hr hlocks (fun h => h (by decide)) hP hS (rt_inv hf) dX2_join_20
set_option maxHeartbeats 4000000 in
set_option maxRecDepth 100000 in
theorem c_X2_joinByEqualities (l : Launch) (D : va_G) (y : y4) (ad : Nat → Nat) (aL aU : Nat) (hI : Inj ad) (n : Nat) (S : St) (r : Unit) (S2 : St) (hf : f_X2_joinByEqualities n S = some (r, S2)) : KV l D y ad aL aU yX2_joinByEqualities wsX2_joinByEqualities ({ frames := 3, cells := 0, slots := 0, locals := 106 }) [.ref (ad 21)] S r S2 := by
  refine Met.ofW (cc := cX2_joinByEqualities) (maxL := 2) (ret := none) (by decide) rfl ?_
  intro p e s m args below meth c s₁ B hml hv
  obtain ⟨rfl, hP, hK, hZ⟩ := hv
  have hx := B.exec
  have hb := B.bytes
  have hr := B.returns
  have hts := atoms_spec (ws := wsX2_joinByEqualities) B.pre
  have hown : s.vm.findClass RX2 = some m.cls := findClass_of_methodNamed B.named
  have hlocks := B.notSynchronized
  have hS : va_S (AA ad) s.heap s.heap [] := va_S.rf
  have L18 := hts (.fieldLink RX2 18 "JoinedTheories$Exchanger" "smallest" "[I") (by decide +kernel)
  have L26 := hts (.fieldLink RX2 26 "JoinedTheories$Exchanger" "literals" "LJoinedTheories$Literals;") (by decide +kernel)
  have n2 : ∀ w ∈ wsX20, w ∈ wsX2_joinByEqualities := by decide +kernel
  have hl := lv_entry ([.ref (ad 21)]) (n := 2) (Nat.le_of_ble_eq_true rfl)
  rw [lg_entry_eq]
  generalize (lg_sl ([.ref (ad 21)]) ++ List.replicate (2 - (lg_sl ([.ref (ad 21)])).length) Slot.unset).toArray = ls at hl ⊢
  have hl : lv_has ls 2 [(0, .ref (ad 21))] := hl
  have j66 : ∀ (k23 : St → Int32 → Option (Unit × St)) (hk23 : ∀ (S : St) (x1 : Int32) (H : Heap) (locs : List Loc) (ls : Array Slot), k23 S x1 = some (r, S2) → PW D y ad S H → va_S (AA ad) s.heap H locs → lv_has ls 2 [(0, .ref (ad 21)), (1, .int x1)] → W p l e (headSpec wsX2_joinByEqualities ({ frames := 3, cells := 0, slots := 0, locals := 106 })).room s m ([.ref (ad 21)] : List Value).toArray below meth c H locs 0 0 (QV below r S2 D y ad ([.ref (ad 21)] : List Value).toArray s) (F0 m 23 ls [])), ∀ (S : St) (x1 : Int32) (H : Heap) (locs : List Loc) (ls : Array Slot), f_X2_joinByEqualities_66 n k23 S x1 = some (r, S2) → PW D y ad S H → va_S (AA ad) s.heap H locs → lv_has ls 2 [(0, .ref (ad 21)), (1, .int x1)] → W p l e (headSpec wsX2_joinByEqualities ({ frames := 3, cells := 0, slots := 0, locals := 106 })).room s m ([.ref (ad 21)] : List Value).toArray below meth c H locs 0 0 (QV below r S2 D y ad ([.ref (ad 21)] : List Value).toArray s) (F0 m 66 ls []) := by
    intro  k23 hk23 S x1 H locs ls hf hP hS hl
    unfold f_X2_joinByEqualities_66 at hf
    obtain ⟨x1_1, ex1_1, hf⟩ := bd_inv hf
    refine lv_iinc (v := x1_1) (lv' := [(1, .int x1_1), (0, .ref (ad 21))]) hx hb dX2_joinByEqualities_66 hl (k := 1) rfl (by rw [ex1_1]; rfl) (by decide) rfl (fun ls hl => ?_)
    refine lv_goto (tgt := 23) hx hb dX2_joinByEqualities_69 (by decide) ?_
    exact hk23 S x1_1 _ _ _ hf hP hS (lv_sub hl [1, 0] rfl)
  have b23 : ∀ (k23 : St → Int32 → Option (Unit × St)) (hk23 : ∀ (S : St) (x1 : Int32) (H : Heap) (locs : List Loc) (ls : Array Slot), k23 S x1 = some (r, S2) → PW D y ad S H → va_S (AA ad) s.heap H locs → lv_has ls 2 [(0, .ref (ad 21)), (1, .int x1)] → W p l e (headSpec wsX2_joinByEqualities ({ frames := 3, cells := 0, slots := 0, locals := 106 })).room s m ([.ref (ad 21)] : List Value).toArray below meth c H locs 0 0 (QV below r S2 D y ad ([.ref (ad 21)] : List Value).toArray s) (F0 m 23 ls [])), ∀ (S : St) (x1 : Int32) (H : Heap) (locs : List Loc) (ls : Array Slot), f_X2_joinByEqualities_23 n k23 S x1 = some (r, S2) → PW D y ad S H → va_S (AA ad) s.heap H locs → lv_has ls 2 [(0, .ref (ad 21)), (1, .int x1)] → W p l e (headSpec wsX2_joinByEqualities ({ frames := 3, cells := 0, slots := 0, locals := 106 })).room s m ([.ref (ad 21)] : List Value).toArray below meth c H locs 0 0 (QV below r S2 D y ad ([.ref (ad 21)] : List Value).toArray s) (F0 m 23 ls []) := by
    intro  k23 hk23 S x1 H locs ls hf hP hS hl
    unfold f_X2_joinByEqualities_23 at hf
    refine lv_iload_n hx hb dX2_joinByEqualities_23 rfl (lv_at hl 1 rfl) ?_
    refine lv_aload_n hx hb dX2_joinByEqualities_24 rfl (lv_at hl 0 rfl) ?_
    refine w_gR (z := 16) (C := RX2) (T := TX2) hx hb hts n2 hown hK hP t_21 rfl 1 (by decide) L26 rfl rfl dX2_joinByEqualities_25 ?_
    obtain ⟨r_2, S_3, hc_4, hf⟩ := bo_inv hf
    refine w_ci (va_runV (As := []) (rest := [.int x1]) ⟨hx, hb, hml, hown, hts⟩ (c_X3_size l D y ad aL aU hI n S  _ _ hc_4) (cwV 0 hts gX2_joinByEqualities_X3_size rfl rfl rfl (by decide +kernel) ⟨Nat.le_of_ble_eq_true rfl, Nat.le_of_ble_eq_true rfl⟩) (pwu_V t_16 rfl hP hK hZ hS) rfl rfl hl.1 rfl (lv_room (Nat.le_of_ble_eq_true rfl)) dX2_joinByEqualities_28 ⟨Nat.zero_le _, Nat.zero_le _⟩) hS (fun H locs hP hS => ?_)
    refine lv_icmp_ge (tgt := 72) hx hb dX2_joinByEqualities_31 (by decide) (fun b_5 => ?_) (fun b_5 => ?_)
    · have hf := if_t b_5 hf
      exact w_vret hx hb hr hlocks hP hS (rt_inv hf) dX2_joinByEqualities_72
    · have hf := if_f b_5 hf
      refine lv_aload_n hx hb dX2_joinByEqualities_34 rfl (lv_at hl 0 rfl) ?_
      refine w_gR (z := 16) (C := RX2) (T := TX2) hx hb hts n2 hown hK hP t_21 rfl 1 (by decide) L26 rfl rfl dX2_joinByEqualities_35 ?_
      refine lv_iload_n hx hb dX2_joinByEqualities_38 rfl (lv_at hl 1 rfl) ?_
      obtain ⟨r_6, S_7, hc_8, hf⟩ := bo_inv hf
      refine w_ci (va_runV (As := [.int x1]) (rest := []) ⟨hx, hb, hml, hown, hts⟩ (c_X3_kindOf l D y ad aL aU hI n S_3 x1 _ _ hc_8) (cwV 1 hts gX2_joinByEqualities_X3_kindOf rfl rfl rfl (by decide +kernel) ⟨Nat.le_of_ble_eq_true rfl, Nat.le_of_ble_eq_true rfl⟩) (pwu_V t_16 rfl hP hK hZ hS) rfl rfl hl.1 rfl (lv_room (Nat.le_of_ble_eq_true rfl)) dX2_joinByEqualities_39 ⟨Nat.zero_le _, Nat.zero_le _⟩) hS (fun H locs hP hS => ?_)
      refine lv_if_ne (tgt := 66) hx hb dX2_joinByEqualities_42 (by decide) (fun b_9 => ?_) (fun b_9 => ?_)
      · have hf := if_f b_9 hf
        exact j66  k23 hk23 S_7 x1 _ _ _ hf hP hS (lv_sub hl [0, 1] rfl)
      · have hf := if_t b_9 hf
        refine lv_aload_n hx hb dX2_joinByEqualities_45 rfl (lv_at hl 0 rfl) ?_
        refine lv_aload_n hx hb dX2_joinByEqualities_46 rfl (lv_at hl 0 rfl) ?_
        refine w_gR (z := 16) (C := RX2) (T := TX2) hx hb hts n2 hown hK hP t_21 rfl 1 (by decide) L26 rfl rfl dX2_joinByEqualities_47 ?_
        refine lv_iload_n hx hb dX2_joinByEqualities_50 rfl (lv_at hl 1 rfl) ?_
        obtain ⟨r_10, S_11, hc_12, hf⟩ := bo_inv hf
        refine w_ci (va_runV (As := [.int x1]) (rest := [.ref (ad 21)]) ⟨hx, hb, hml, hown, hts⟩ (c_X3_leftOf l D y ad aL aU hI n S_7 x1 _ _ hc_12) (cwV 1 hts gX2_joinByEqualities_X3_leftOf rfl rfl rfl (by decide +kernel) ⟨Nat.le_of_ble_eq_true rfl, Nat.le_of_ble_eq_true rfl⟩) (pwu_V t_16 rfl hP hK hZ hS) rfl rfl hl.1 rfl (lv_room (Nat.le_of_ble_eq_true rfl)) dX2_joinByEqualities_51 ⟨Nat.zero_le _, Nat.zero_le _⟩) hS (fun H locs hP hS => ?_)
        refine lv_aload_n hx hb dX2_joinByEqualities_54 rfl (lv_at hl 0 rfl) ?_
        refine w_gR (z := 16) (C := RX2) (T := TX2) hx hb hts n2 hown hK hP t_21 rfl 1 (by decide) L26 rfl rfl dX2_joinByEqualities_55 ?_
        refine lv_iload_n hx hb dX2_joinByEqualities_58 rfl (lv_at hl 1 rfl) ?_
        obtain ⟨r_13, S_14, hc_15, hf⟩ := bo_inv hf
        refine w_ci (va_runV (As := [.int x1]) (rest := [.int r_10, .ref (ad 21)]) ⟨hx, hb, hml, hown, hts⟩ (c_X3_rightOf l D y ad aL aU hI n S_11 x1 _ _ hc_15) (cwV 1 hts gX2_joinByEqualities_X3_rightOf rfl rfl rfl (by decide +kernel) ⟨Nat.le_of_ble_eq_true rfl, Nat.le_of_ble_eq_true rfl⟩) (pwu_V t_16 rfl hP hK hZ hS) rfl rfl hl.1 rfl (lv_room (Nat.le_of_ble_eq_true rfl)) dX2_joinByEqualities_59 ⟨Nat.zero_le _, Nat.zero_le _⟩) hS (fun H locs hP hS => ?_)
        obtain ⟨r_16, S_17, hc_18, hf⟩ := bo_inv hf
        refine w_ci (va_runV (As := [.int r_10, .int r_13]) (rest := []) ⟨hx, hb, hml, hown, hts⟩ (c_X2_join l D y ad aL aU hI n S_14 r_10 r_13 _ _ hc_18) (cwV 2 hts gX2_joinByEqualities_X2_join rfl rfl rfl (by decide +kernel) ⟨Nat.le_of_ble_eq_true rfl, Nat.le_of_ble_eq_true rfl⟩) (pwu_V t_21 rfl hP hK hZ hS) rfl rfl hl.1 rfl (lv_room (Nat.le_of_ble_eq_true rfl)) dX2_joinByEqualities_62 ⟨Nat.zero_le _, Nat.zero_le _⟩) hS (fun H locs hP hS => ?_)
        refine lv_pop hx hb dX2_joinByEqualities_65 rfl ?_
        exact j66  k23 hk23 S_17 x1 _ _ _ hf hP hS (lv_sub hl [0, 1] rfl)
  have j23 : ∀ (fu : Nat), ∀ (S : St) (x1 : Int32) (H : Heap) (locs : List Loc) (ls : Array Slot), fixF (fun _ _ => none) (f_X2_joinByEqualities_23 n) fu S x1 = some (r, S2) → PW D y ad S H → va_S (AA ad) s.heap H locs → lv_has ls 2 [(0, .ref (ad 21)), (1, .int x1)] → W p l e (headSpec wsX2_joinByEqualities ({ frames := 3, cells := 0, slots := 0, locals := 106 })).room s m ([.ref (ad 21)] : List Value).toArray below meth c H locs 0 0 (QV below r S2 D y ad ([.ref (ad 21)] : List Value).toArray s) (F0 m 23 ls []) := by
    intro   fu
    induction fu with
    | zero => intro S x1 H locs ls hf hP hS hl; cases hf
    | succ fu ih => exact b23   (fixF (fun _ _ => none) (f_X2_joinByEqualities_23 n) fu) ih
  have b2 : ∀ (k2 : St → Int32 → Option (Unit × St)) (hk2 : ∀ (S : St) (x1 : Int32) (H : Heap) (locs : List Loc) (ls : Array Slot), k2 S x1 = some (r, S2) → PW D y ad S H → va_S (AA ad) s.heap H locs → lv_has ls 2 [(0, .ref (ad 21)), (1, .int x1)] → W p l e (headSpec wsX2_joinByEqualities ({ frames := 3, cells := 0, slots := 0, locals := 106 })).room s m ([.ref (ad 21)] : List Value).toArray below meth c H locs 0 0 (QV below r S2 D y ad ([.ref (ad 21)] : List Value).toArray s) (F0 m 2 ls [])), ∀ (S : St) (x1 : Int32) (H : Heap) (locs : List Loc) (ls : Array Slot), f_X2_joinByEqualities_2 n k2 S x1 = some (r, S2) → PW D y ad S H → va_S (AA ad) s.heap H locs → lv_has ls 2 [(0, .ref (ad 21)), (1, .int x1)] → W p l e (headSpec wsX2_joinByEqualities ({ frames := 3, cells := 0, slots := 0, locals := 106 })).room s m ([.ref (ad 21)] : List Value).toArray below meth c H locs 0 0 (QV below r S2 D y ad ([.ref (ad 21)] : List Value).toArray s) (F0 m 2 ls []) := by
    intro  k2 hk2 S x1 H locs ls hf hP hS hl
    unfold f_X2_joinByEqualities_2 at hf
    refine lv_iload_n hx hb dX2_joinByEqualities_2 rfl (lv_at hl 1 rfl) ?_
    refine lv_bipush (v := (10)) hx hb dX2_joinByEqualities_3 (by decide) ?_
    refine lv_icmp_ge (tgt := 21) hx hb dX2_joinByEqualities_5 (by decide) (fun b_19 => ?_) (fun b_19 => ?_)
    · have hf := if_t b_19 hf
      refine lv_iconst (v := 0) hx hb dX2_joinByEqualities_21 (by decide) ?_
      obtain ⟨x1_20, ex1_20, hf⟩ := bd_inv hf
      refine w_topI ex1_20 ?_
      refine lv_istore_n (lv' := [(1, .int x1_20), (0, .ref (ad 21))]) hx hb dX2_joinByEqualities_22 rfl hl (by decide) rfl (fun ls hl => ?_)
      exact j23   n S x1_20 _ _ _ hf hP hS (lv_sub hl [1, 0] rfl)
    · have hf := if_f b_19 hf
      refine lv_aload_n hx hb dX2_joinByEqualities_8 rfl (lv_at hl 0 rfl) ?_
      refine w_gR (z := 22) (C := RX2) (T := TX2) hx hb hts n2 hown hK hP t_21 rfl 3 (by decide) L18 rfl rfl dX2_joinByEqualities_9 ?_
      refine lv_iload_n hx hb dX2_joinByEqualities_12 rfl (lv_at hl 1 rfl) ?_
      refine lv_iload_n hx hb dX2_joinByEqualities_13 rfl (lv_at hl 1 rfl) ?_
      obtain ⟨g_21, hf⟩ := gd_inv hf
      obtain ⟨S_22, eS_22, hf⟩ := bd_inv hf
      refine w_iast hx hb hK hI hP hS t_22 g_21 dX2_joinByEqualities_14 (fun H locs hP hS => ?_)
      rw [← eS_22] at hP
      obtain ⟨x1_23, ex1_23, hf⟩ := bd_inv hf
      refine lv_iinc (v := x1_23) (lv' := [(1, .int x1_23), (0, .ref (ad 21))]) hx hb dX2_joinByEqualities_15 hl (k := 1) rfl (by rw [ex1_23]; rfl) (by decide) rfl (fun ls hl => ?_)
      refine lv_goto (tgt := 2) hx hb dX2_joinByEqualities_18 (by decide) ?_
      exact hk2 S_22 x1_23 _ _ _ hf hP hS (lv_sub hl [1, 0] rfl)
  have j2 : ∀ (fu : Nat), ∀ (S : St) (x1 : Int32) (H : Heap) (locs : List Loc) (ls : Array Slot), fixF (fun _ _ => none) (f_X2_joinByEqualities_2 n) fu S x1 = some (r, S2) → PW D y ad S H → va_S (AA ad) s.heap H locs → lv_has ls 2 [(0, .ref (ad 21)), (1, .int x1)] → W p l e (headSpec wsX2_joinByEqualities ({ frames := 3, cells := 0, slots := 0, locals := 106 })).room s m ([.ref (ad 21)] : List Value).toArray below meth c H locs 0 0 (QV below r S2 D y ad ([.ref (ad 21)] : List Value).toArray s) (F0 m 2 ls []) := by
    intro   fu
    induction fu with
    | zero => intro S x1 H locs ls hf hP hS hl; cases hf
    | succ fu ih => exact b2   (fixF (fun _ _ => none) (f_X2_joinByEqualities_2 n) fu) ih
  unfold f_X2_joinByEqualities at hf
  refine lv_iconst (v := 0) hx hb dX2_joinByEqualities_0 (by decide) ?_
  obtain ⟨x1_24, ex1_24, hf⟩ := bd_inv hf
  refine w_topI ex1_24 ?_
  refine lv_istore_n (lv' := [(1, .int x1_24), (0, .ref (ad 21))]) hx hb dX2_joinByEqualities_1 rfl hl (by decide) rfl (fun ls hl => ?_)
  exact j2   n S x1_24 _ _ _ hf hP hS (lv_sub hl [1, 0] rfl)
set_option maxHeartbeats 4000000 in
set_option maxRecDepth 100000 in
theorem c_X7_haveSameFunction (l : Launch) (D : va_G) (y : y4) (ad : Nat → Nat) (aL aU : Nat) (hI : Inj ad) (n : Nat) (q : Nat) (hq : isT q) (S : St) (a1 : Int32) (a2 : Int32) (r : Int32) (S2 : St) (hf : f_X7_haveSameFunction n q S a1 a2 = some (r, S2)) : KI l D y ad aL aU yX7_haveSameFunction wsX7_haveSameFunction ({ frames := 2, cells := 0, slots := 0, locals := 41 }) [.ref (ad q), .int a1, .int a2] S r S2 := by
  refine Met.ofW (cc := cX7_haveSameFunction) (maxL := 3) (ret := (some .boolean)) (by decide) rfl ?_
  intro p e s m args below meth c s₁ B hml hv
  obtain ⟨rfl, hP, hK, hZ⟩ := hv
  have hx := B.exec
  have hb := B.bytes
  have hr := B.returns
  have hts := atoms_spec (ws := wsX7_haveSameFunction) B.pre
  have hown : s.vm.findClass RX7 = some m.cls := findClass_of_methodNamed B.named
  have hlocks := B.notSynchronized
  have hS : va_S (AA ad) s.heap s.heap [] := va_S.rf
  have L9 := hts (.fieldLink RX7 9 "JoinedTheories$Terms" "kinds" "[I") (by decide +kernel)
  have n7 : ∀ w ∈ wsX70, w ∈ wsX7_haveSameFunction := by decide +kernel
  have hl := lv_entry ([.ref (ad q), .int a1, .int a2]) (n := 3) (Nat.le_of_ble_eq_true rfl)
  rw [lg_entry_eq]
  generalize (lg_sl ([.ref (ad q), .int a1, .int a2]) ++ List.replicate (3 - (lg_sl ([.ref (ad q), .int a1, .int a2])).length) Slot.unset).toArray = ls at hl ⊢
  have hl : lv_has ls 3 [(0, .ref (ad q)), (1, .int a1), (2, .int a2)] := hl
  unfold f_X7_haveSameFunction at hf
  refine lv_aload_n hx hb dX7_haveSameFunction_0 rfl (lv_at hl 0 rfl) ?_
  refine lv_iload_n hx hb dX7_haveSameFunction_1 rfl (lv_at hl 1 rfl) ?_
  obtain ⟨r_1, S_2, hc_3, hf⟩ := bo_inv hf
  refine w_ci (va_runV (As := [.int a1]) (rest := []) ⟨hx, hb, hml, hown, hts⟩ (c_X7_has l D y ad aL aU hI n q hq S a1 _ _ hc_3) (cwV 1 hts gX7_haveSameFunction_X7_has rfl rfl rfl (by decide +kernel) ⟨Nat.le_of_ble_eq_true rfl, Nat.le_of_ble_eq_true rfl⟩) (pwu_V (tT hq) rfl hP hK hZ hS) rfl rfl hl.1 rfl (lv_room (Nat.le_of_ble_eq_true rfl)) dX7_haveSameFunction_2 ⟨Nat.zero_le _, Nat.zero_le _⟩) hS (fun H locs hP hS => ?_)
  refine lv_if_eq (tgt := 44) hx hb dX7_haveSameFunction_5 (by decide) (fun b_4 => ?_) (fun b_4 => ?_)
  · have hf := if_t b_4 hf
    refine lv_iconst (v := 0) hx hb dX7_haveSameFunction_44 (by decide) ?_
    exact w_zret hx hb hr hlocks (fun h => h (by decide)) hP hS (rt_inv hf) dX7_haveSameFunction_45
  · have hf := if_f b_4 hf
    refine lv_aload_n hx hb dX7_haveSameFunction_8 rfl (lv_at hl 0 rfl) ?_
    refine lv_iload_n hx hb dX7_haveSameFunction_9 rfl (lv_at hl 2 rfl) ?_
    obtain ⟨r_5, S_6, hc_7, hf⟩ := bo_inv hf
    refine w_ci (va_runV (As := [.int a2]) (rest := []) ⟨hx, hb, hml, hown, hts⟩ (c_X7_has l D y ad aL aU hI n q hq S_2 a2 _ _ hc_7) (cwV 1 hts gX7_haveSameFunction_X7_has rfl rfl rfl (by decide +kernel) ⟨Nat.le_of_ble_eq_true rfl, Nat.le_of_ble_eq_true rfl⟩) (pwu_V (tT hq) rfl hP hK hZ hS) rfl rfl hl.1 rfl (lv_room (Nat.le_of_ble_eq_true rfl)) dX7_haveSameFunction_10 ⟨Nat.zero_le _, Nat.zero_le _⟩) hS (fun H locs hP hS => ?_)
    refine lv_if_eq (tgt := 44) hx hb dX7_haveSameFunction_13 (by decide) (fun b_8 => ?_) (fun b_8 => ?_)
    · have hf := if_t b_8 hf
      refine lv_iconst (v := 0) hx hb dX7_haveSameFunction_44 (by decide) ?_
      exact w_zret hx hb hr hlocks (fun h => h (by decide)) hP hS (rt_inv hf) dX7_haveSameFunction_45
    · have hf := if_f b_8 hf
      refine lv_aload_n hx hb dX7_haveSameFunction_16 rfl (lv_at hl 0 rfl) ?_
      refine w_gR (z := (q + 1)) (C := RX7) (T := TX7) hx hb hts n7 hown hK hP (tT hq) rfl 0 (by decide) L9 rfl (rT0 hq) dX7_haveSameFunction_17 ?_
      refine lv_iload_n hx hb dX7_haveSameFunction_20 rfl (lv_at hl 1 rfl) ?_
      obtain ⟨g_9, hf⟩ := gd_inv hf
      refine w_iald hx hb hK hP (tT0 hq) g_9 dX7_haveSameFunction_21 ?_
      refine lv_if_eq (tgt := 44) hx hb dX7_haveSameFunction_22 (by decide) (fun b_10 => ?_) (fun b_10 => ?_)
      · have hf := if_t b_10 hf
        refine lv_iconst (v := 0) hx hb dX7_haveSameFunction_44 (by decide) ?_
        exact w_zret hx hb hr hlocks (fun h => h (by decide)) hP hS (rt_inv hf) dX7_haveSameFunction_45
      · have hf := if_f b_10 hf
        refine lv_aload_n hx hb dX7_haveSameFunction_25 rfl (lv_at hl 0 rfl) ?_
        refine w_gR (z := (q + 1)) (C := RX7) (T := TX7) hx hb hts n7 hown hK hP (tT hq) rfl 0 (by decide) L9 rfl (rT0 hq) dX7_haveSameFunction_26 ?_
        refine lv_iload_n hx hb dX7_haveSameFunction_29 rfl (lv_at hl 1 rfl) ?_
        obtain ⟨g_11, hf⟩ := gd_inv hf
        refine w_iald hx hb hK hP (tT0 hq) g_11 dX7_haveSameFunction_30 ?_
        refine lv_aload_n hx hb dX7_haveSameFunction_31 rfl (lv_at hl 0 rfl) ?_
        refine w_gR (z := (q + 1)) (C := RX7) (T := TX7) hx hb hts n7 hown hK hP (tT hq) rfl 0 (by decide) L9 rfl (rT0 hq) dX7_haveSameFunction_32 ?_
        refine lv_iload_n hx hb dX7_haveSameFunction_35 rfl (lv_at hl 2 rfl) ?_
        obtain ⟨g_12, hf⟩ := gd_inv hf
        refine w_iald hx hb hK hP (tT0 hq) g_12 dX7_haveSameFunction_36 ?_
        refine lv_icmp_ne (tgt := 44) hx hb dX7_haveSameFunction_37 (by decide) (fun b_13 => ?_) (fun b_13 => ?_)
        · have hf := if_f b_13 hf
          refine lv_iconst (v := 0) hx hb dX7_haveSameFunction_44 (by decide) ?_
          exact w_zret hx hb hr hlocks (fun h => h (by decide)) hP hS (rt_inv hf) dX7_haveSameFunction_45
        · have hf := if_t b_13 hf
          refine lv_iconst (v := 1) hx hb dX7_haveSameFunction_40 (by decide) ?_
          refine lv_goto (tgt := 45) hx hb dX7_haveSameFunction_41 (by decide) ?_
          exact w_zret hx hb hr hlocks (fun h => h (by decide)) hP hS (rt_inv hf) dX7_haveSameFunction_45
set_option maxHeartbeats 4000000 in
set_option maxRecDepth 100000 in
theorem c_X2_haveSameArguments (l : Launch) (D : va_G) (y : y4) (ad : Nat → Nat) (aL aU : Nat) (hI : Inj ad) (n : Nat) (S : St) (a1 : Int32) (a2 : Int32) (r : Int32) (S2 : St) (hf : f_X2_haveSameArguments n S a1 a2 = some (r, S2)) : KI l D y ad aL aU yX2_haveSameArguments wsX2_haveSameArguments ({ frames := 3, cells := 0, slots := 0, locals := 63 }) [.ref (ad 21), .int a1, .int a2] S r S2 := by
  refine Met.ofW (cc := cX2_haveSameArguments) (maxL := 3) (ret := (some .boolean)) (by decide) rfl ?_
  intro p e s m args below meth c s₁ B hml hv
  obtain ⟨rfl, hP, hK, hZ⟩ := hv
  have hx := B.exec
  have hb := B.bytes
  have hr := B.returns
  have hts := atoms_spec (ws := wsX2_haveSameArguments) B.pre
  have hown : s.vm.findClass RX2 = some m.cls := findClass_of_methodNamed B.named
  have hlocks := B.notSynchronized
  have hS : va_S (AA ad) s.heap s.heap [] := va_S.rf
  have L22 := hts (.fieldLink RX2 22 "JoinedTheories$Exchanger" "terms" "LJoinedTheories$Terms;") (by decide +kernel)
  have n2 : ∀ w ∈ wsX20, w ∈ wsX2_haveSameArguments := by decide +kernel
  have hl := lv_entry ([.ref (ad 21), .int a1, .int a2]) (n := 3) (Nat.le_of_ble_eq_true rfl)
  rw [lg_entry_eq]
  generalize (lg_sl ([.ref (ad 21), .int a1, .int a2]) ++ List.replicate (3 - (lg_sl ([.ref (ad 21), .int a1, .int a2])).length) Slot.unset).toArray = ls at hl ⊢
  have hl : lv_has ls 3 [(0, .ref (ad 21)), (1, .int a1), (2, .int a2)] := hl
  unfold f_X2_haveSameArguments at hf
  refine lv_aload_n hx hb dX2_haveSameArguments_0 rfl (lv_at hl 0 rfl) ?_
  refine w_gR (z := 6) (C := RX2) (T := TX2) hx hb hts n2 hown hK hP t_21 rfl 0 (by decide) L22 rfl rfl dX2_haveSameArguments_1 ?_
  refine lv_iload_n hx hb dX2_haveSameArguments_4 rfl (lv_at hl 1 rfl) ?_
  refine lv_iload_n hx hb dX2_haveSameArguments_5 rfl (lv_at hl 2 rfl) ?_
  obtain ⟨r_1, S_2, hc_3, hf⟩ := bo_inv hf
  refine w_ci (va_runV (As := [.int a1, .int a2]) (rest := []) ⟨hx, hb, hml, hown, hts⟩ (c_X7_haveSameFunction l D y ad aL aU hI n 6 isT6 S a1 a2 _ _ hc_3) (cwV 2 hts gX2_haveSameArguments_X7_haveSameFunction rfl rfl rfl (by decide +kernel) ⟨Nat.le_of_ble_eq_true rfl, Nat.le_of_ble_eq_true rfl⟩) (pwu_V t_6 rfl hP hK hZ hS) rfl rfl hl.1 rfl (lv_room (Nat.le_of_ble_eq_true rfl)) dX2_haveSameArguments_6 ⟨Nat.zero_le _, Nat.zero_le _⟩) hS (fun H locs hP hS => ?_)
  refine lv_if_ne (tgt := 14) hx hb dX2_haveSameArguments_9 (by decide) (fun b_4 => ?_) (fun b_4 => ?_)
  · have hf := if_f b_4 hf
    refine lv_aload_n hx hb dX2_haveSameArguments_14 rfl (lv_at hl 0 rfl) ?_
    refine lv_aload_n hx hb dX2_haveSameArguments_15 rfl (lv_at hl 0 rfl) ?_
    refine w_gR (z := 6) (C := RX2) (T := TX2) hx hb hts n2 hown hK hP t_21 rfl 0 (by decide) L22 rfl rfl dX2_haveSameArguments_16 ?_
    refine lv_iload_n hx hb dX2_haveSameArguments_19 rfl (lv_at hl 1 rfl) ?_
    obtain ⟨r_5, S_6, hc_7, hf⟩ := bo_inv hf
    refine w_ci (va_runV (As := [.int a1]) (rest := [.ref (ad 21)]) ⟨hx, hb, hml, hown, hts⟩ (c_X7_firstOf l D y ad aL aU hI n 6 isT6 S_2 a1 _ _ hc_7) (cwV 1 hts gX2_haveSameArguments_X7_firstOf rfl rfl rfl (by decide +kernel) ⟨Nat.le_of_ble_eq_true rfl, Nat.le_of_ble_eq_true rfl⟩) (pwu_V t_6 rfl hP hK hZ hS) rfl rfl hl.1 rfl (lv_room (Nat.le_of_ble_eq_true rfl)) dX2_haveSameArguments_20 ⟨Nat.zero_le _, Nat.zero_le _⟩) hS (fun H locs hP hS => ?_)
    obtain ⟨r_8, S_9, hc_10, hf⟩ := bo_inv hf
    refine w_ci (va_runV (As := [.int r_5]) (rest := []) ⟨hx, hb, hml, hown, hts⟩ (c_X2_smallestSame l D y ad aL aU hI n S_6 r_5 _ _ hc_10) (cwV 1 hts gX2_haveSameArguments_X2_smallestSame rfl rfl rfl (by decide +kernel) ⟨Nat.le_of_ble_eq_true rfl, Nat.le_of_ble_eq_true rfl⟩) (pwu_V t_21 rfl hP hK hZ hS) rfl rfl hl.1 rfl (lv_room (Nat.le_of_ble_eq_true rfl)) dX2_haveSameArguments_23 ⟨Nat.zero_le _, Nat.zero_le _⟩) hS (fun H locs hP hS => ?_)
    refine lv_aload_n hx hb dX2_haveSameArguments_26 rfl (lv_at hl 0 rfl) ?_
    refine lv_aload_n hx hb dX2_haveSameArguments_27 rfl (lv_at hl 0 rfl) ?_
    refine w_gR (z := 6) (C := RX2) (T := TX2) hx hb hts n2 hown hK hP t_21 rfl 0 (by decide) L22 rfl rfl dX2_haveSameArguments_28 ?_
    refine lv_iload_n hx hb dX2_haveSameArguments_31 rfl (lv_at hl 2 rfl) ?_
    obtain ⟨r_11, S_12, hc_13, hf⟩ := bo_inv hf
    refine w_ci (va_runV (As := [.int a2]) (rest := [.ref (ad 21), .int r_8]) ⟨hx, hb, hml, hown, hts⟩ (c_X7_firstOf l D y ad aL aU hI n 6 isT6 S_9 a2 _ _ hc_13) (cwV 1 hts gX2_haveSameArguments_X7_firstOf rfl rfl rfl (by decide +kernel) ⟨Nat.le_of_ble_eq_true rfl, Nat.le_of_ble_eq_true rfl⟩) (pwu_V t_6 rfl hP hK hZ hS) rfl rfl hl.1 rfl (lv_room (Nat.le_of_ble_eq_true rfl)) dX2_haveSameArguments_32 ⟨Nat.zero_le _, Nat.zero_le _⟩) hS (fun H locs hP hS => ?_)
    obtain ⟨r_14, S_15, hc_16, hf⟩ := bo_inv hf
    refine w_ci (va_runV (As := [.int r_11]) (rest := [.int r_8]) ⟨hx, hb, hml, hown, hts⟩ (c_X2_smallestSame l D y ad aL aU hI n S_12 r_11 _ _ hc_16) (cwV 1 hts gX2_haveSameArguments_X2_smallestSame rfl rfl rfl (by decide +kernel) ⟨Nat.le_of_ble_eq_true rfl, Nat.le_of_ble_eq_true rfl⟩) (pwu_V t_21 rfl hP hK hZ hS) rfl rfl hl.1 rfl (lv_room (Nat.le_of_ble_eq_true rfl)) dX2_haveSameArguments_35 ⟨Nat.zero_le _, Nat.zero_le _⟩) hS (fun H locs hP hS => ?_)
    refine lv_icmp_ne (tgt := 72) hx hb dX2_haveSameArguments_38 (by decide) (fun b_17 => ?_) (fun b_17 => ?_)
    · have hf := if_f b_17 hf
      refine lv_iconst (v := 0) hx hb dX2_haveSameArguments_72 (by decide) ?_
      exact w_zret hx hb hr hlocks (fun h => h (by decide)) hP hS (rt_inv hf) dX2_haveSameArguments_73
    · have hf := if_t b_17 hf
      refine lv_aload_n hx hb dX2_haveSameArguments_41 rfl (lv_at hl 0 rfl) ?_
      refine lv_aload_n hx hb dX2_haveSameArguments_42 rfl (lv_at hl 0 rfl) ?_
      refine w_gR (z := 6) (C := RX2) (T := TX2) hx hb hts n2 hown hK hP t_21 rfl 0 (by decide) L22 rfl rfl dX2_haveSameArguments_43 ?_
      refine lv_iload_n hx hb dX2_haveSameArguments_46 rfl (lv_at hl 1 rfl) ?_
      obtain ⟨r_18, S_19, hc_20, hf⟩ := bo_inv hf
      refine w_ci (va_runV (As := [.int a1]) (rest := [.ref (ad 21)]) ⟨hx, hb, hml, hown, hts⟩ (c_X7_secondOf l D y ad aL aU hI n 6 isT6 S_15 a1 _ _ hc_20) (cwV 1 hts gX2_haveSameArguments_X7_secondOf rfl rfl rfl (by decide +kernel) ⟨Nat.le_of_ble_eq_true rfl, Nat.le_of_ble_eq_true rfl⟩) (pwu_V t_6 rfl hP hK hZ hS) rfl rfl hl.1 rfl (lv_room (Nat.le_of_ble_eq_true rfl)) dX2_haveSameArguments_47 ⟨Nat.zero_le _, Nat.zero_le _⟩) hS (fun H locs hP hS => ?_)
      obtain ⟨r_21, S_22, hc_23, hf⟩ := bo_inv hf
      refine w_ci (va_runV (As := [.int r_18]) (rest := []) ⟨hx, hb, hml, hown, hts⟩ (c_X2_smallestSame l D y ad aL aU hI n S_19 r_18 _ _ hc_23) (cwV 1 hts gX2_haveSameArguments_X2_smallestSame rfl rfl rfl (by decide +kernel) ⟨Nat.le_of_ble_eq_true rfl, Nat.le_of_ble_eq_true rfl⟩) (pwu_V t_21 rfl hP hK hZ hS) rfl rfl hl.1 rfl (lv_room (Nat.le_of_ble_eq_true rfl)) dX2_haveSameArguments_50 ⟨Nat.zero_le _, Nat.zero_le _⟩) hS (fun H locs hP hS => ?_)
      refine lv_aload_n hx hb dX2_haveSameArguments_53 rfl (lv_at hl 0 rfl) ?_
      refine lv_aload_n hx hb dX2_haveSameArguments_54 rfl (lv_at hl 0 rfl) ?_
      refine w_gR (z := 6) (C := RX2) (T := TX2) hx hb hts n2 hown hK hP t_21 rfl 0 (by decide) L22 rfl rfl dX2_haveSameArguments_55 ?_
      refine lv_iload_n hx hb dX2_haveSameArguments_58 rfl (lv_at hl 2 rfl) ?_
      obtain ⟨r_24, S_25, hc_26, hf⟩ := bo_inv hf
      refine w_ci (va_runV (As := [.int a2]) (rest := [.ref (ad 21), .int r_21]) ⟨hx, hb, hml, hown, hts⟩ (c_X7_secondOf l D y ad aL aU hI n 6 isT6 S_22 a2 _ _ hc_26) (cwV 1 hts gX2_haveSameArguments_X7_secondOf rfl rfl rfl (by decide +kernel) ⟨Nat.le_of_ble_eq_true rfl, Nat.le_of_ble_eq_true rfl⟩) (pwu_V t_6 rfl hP hK hZ hS) rfl rfl hl.1 rfl (lv_room (Nat.le_of_ble_eq_true rfl)) dX2_haveSameArguments_59 ⟨Nat.zero_le _, Nat.zero_le _⟩) hS (fun H locs hP hS => ?_)
      obtain ⟨r_27, S_28, hc_29, hf⟩ := bo_inv hf
      refine w_ci (va_runV (As := [.int r_24]) (rest := [.int r_21]) ⟨hx, hb, hml, hown, hts⟩ (c_X2_smallestSame l D y ad aL aU hI n S_25 r_24 _ _ hc_29) (cwV 1 hts gX2_haveSameArguments_X2_smallestSame rfl rfl rfl (by decide +kernel) ⟨Nat.le_of_ble_eq_true rfl, Nat.le_of_ble_eq_true rfl⟩) (pwu_V t_21 rfl hP hK hZ hS) rfl rfl hl.1 rfl (lv_room (Nat.le_of_ble_eq_true rfl)) dX2_haveSameArguments_62 ⟨Nat.zero_le _, Nat.zero_le _⟩) hS (fun H locs hP hS => ?_)
      refine lv_icmp_ne (tgt := 72) hx hb dX2_haveSameArguments_65 (by decide) (fun b_30 => ?_) (fun b_30 => ?_)
      · have hf := if_f b_30 hf
        refine lv_iconst (v := 0) hx hb dX2_haveSameArguments_72 (by decide) ?_
        exact w_zret hx hb hr hlocks (fun h => h (by decide)) hP hS (rt_inv hf) dX2_haveSameArguments_73
      · have hf := if_t b_30 hf
        refine lv_iconst (v := 1) hx hb dX2_haveSameArguments_68 (by decide) ?_
        refine lv_goto (tgt := 73) hx hb dX2_haveSameArguments_69 (by decide) ?_
        exact w_zret hx hb hr hlocks (fun h => h (by decide)) hP hS (rt_inv hf) dX2_haveSameArguments_73
  · have hf := if_t b_4 hf
    refine lv_iconst (v := 0) hx hb dX2_haveSameArguments_12 (by decide) ?_
    exact w_zret hx hb hr hlocks (fun h => h (by decide)) hP hS (rt_inv hf) dX2_haveSameArguments_13
set_option maxHeartbeats 4000000 in
set_option maxRecDepth 100000 in
theorem c_X2_joinByCongruence (l : Launch) (D : va_G) (y : y4) (ad : Nat → Nat) (aL aU : Nat) (hI : Inj ad) (n : Nat) (S : St) (r : Unit) (S2 : St) (hf : f_X2_joinByCongruence n S = some (r, S2)) : KV l D y ad aL aU yX2_joinByCongruence wsX2_joinByCongruence ({ frames := 4, cells := 0, slots := 0, locals := 106 }) [.ref (ad 21)] S r S2 := by
  refine Met.ofW (cc := cX2_joinByCongruence) (maxL := 5) (ret := none) (by decide) rfl ?_
  intro p e s m args below meth c s₁ B hml hv
  obtain ⟨rfl, hP, hK, hZ⟩ := hv
  have hx := B.exec
  have hb := B.bytes
  have hr := B.returns
  have hts := atoms_spec (ws := wsX2_joinByCongruence) B.pre
  have hown : s.vm.findClass RX2 = some m.cls := findClass_of_methodNamed B.named
  have hlocks := B.notSynchronized
  have hS : va_S (AA ad) s.heap s.heap [] := va_S.rf
  have L22 := hts (.fieldLink RX2 22 "JoinedTheories$Exchanger" "terms" "LJoinedTheories$Terms;") (by decide +kernel)
  have n2 : ∀ w ∈ wsX20, w ∈ wsX2_joinByCongruence := by decide +kernel
  have hl := lv_entry ([.ref (ad 21)]) (n := 5) (Nat.le_of_ble_eq_true rfl)
  rw [lg_entry_eq]
  generalize (lg_sl ([.ref (ad 21)]) ++ List.replicate (5 - (lg_sl ([.ref (ad 21)])).length) Slot.unset).toArray = ls at hl ⊢
  have hl : lv_has ls 5 [(0, .ref (ad 21))] := hl
  have j68 : ∀ (x2 : Int32) (x3 : Int32) (k4 : St → Int32 → Int32 → Option (Unit × St)) (hk4 : ∀ (S : St) (x1 : Int32) (x2 : Int32) (H : Heap) (locs : List Loc) (ls : Array Slot), k4 S x1 x2 = some (r, S2) → PW D y ad S H → va_S (AA ad) s.heap H locs → lv_has ls 5 [(0, .ref (ad 21)), (1, .int x1), (2, .int x2)] → W p l e (headSpec wsX2_joinByCongruence ({ frames := 4, cells := 0, slots := 0, locals := 106 })).room s m ([.ref (ad 21)] : List Value).toArray below meth c H locs 0 0 (QV below r S2 D y ad ([.ref (ad 21)] : List Value).toArray s) (F0 m 4 ls [])) (k18 : St → Int32 → Int32 → Option (Unit × St)) (hk18 : ∀ (S : St) (x1 : Int32) (x3 : Int32) (H : Heap) (locs : List Loc) (ls : Array Slot), k18 S x1 x3 = some (r, S2) → PW D y ad S H → va_S (AA ad) s.heap H locs → lv_has ls 5 [(0, .ref (ad 21)), (1, .int x1), (2, .int x2), (3, .int x3)] → W p l e (headSpec wsX2_joinByCongruence ({ frames := 4, cells := 0, slots := 0, locals := 106 })).room s m ([.ref (ad 21)] : List Value).toArray below meth c H locs 0 0 (QV below r S2 D y ad ([.ref (ad 21)] : List Value).toArray s) (F0 m 18 ls [])) (k34 : St → Int32 → Int32 → Option (Unit × St)) (hk34 : ∀ (S : St) (x1 : Int32) (x4 : Int32) (H : Heap) (locs : List Loc) (ls : Array Slot), k34 S x1 x4 = some (r, S2) → PW D y ad S H → va_S (AA ad) s.heap H locs → lv_has ls 5 [(0, .ref (ad 21)), (1, .int x1), (2, .int x2), (3, .int x3), (4, .int x4)] → W p l e (headSpec wsX2_joinByCongruence ({ frames := 4, cells := 0, slots := 0, locals := 106 })).room s m ([.ref (ad 21)] : List Value).toArray below meth c H locs 0 0 (QV below r S2 D y ad ([.ref (ad 21)] : List Value).toArray s) (F0 m 34 ls [])), ∀ (S : St) (x1 : Int32) (x4 : Int32) (H : Heap) (locs : List Loc) (ls : Array Slot), f_X2_joinByCongruence_68 n x2 x3 k4 k18 k34 S x1 x4 = some (r, S2) → PW D y ad S H → va_S (AA ad) s.heap H locs → lv_has ls 5 [(0, .ref (ad 21)), (1, .int x1), (2, .int x2), (3, .int x3), (4, .int x4)] → W p l e (headSpec wsX2_joinByCongruence ({ frames := 4, cells := 0, slots := 0, locals := 106 })).room s m ([.ref (ad 21)] : List Value).toArray below meth c H locs 0 0 (QV below r S2 D y ad ([.ref (ad 21)] : List Value).toArray s) (F0 m 68 ls []) := by
    intro x2 x3 k4 hk4 k18 hk18 k34 hk34 S x1 x4 H locs ls hf hP hS hl
    unfold f_X2_joinByCongruence_68 at hf
    obtain ⟨x4_1, ex4_1, hf⟩ := bd_inv hf
    refine lv_iinc (v := x4_1) (lv' := [(4, .int x4_1), (0, .ref (ad 21)), (1, .int x1), (2, .int x2), (3, .int x3)]) hx hb dX2_joinByCongruence_68 hl (k := 4) rfl (by rw [ex4_1]; rfl) (by decide) rfl (fun ls hl => ?_)
    refine lv_goto (tgt := 34) hx hb dX2_joinByCongruence_71 (by decide) ?_
    exact hk34 S x1 x4_1 _ _ _ hf hP hS (lv_sub hl [1, 2, 3, 4, 0] rfl)
  have b34 : ∀ (x2 : Int32) (x3 : Int32) (k4 : St → Int32 → Int32 → Option (Unit × St)) (hk4 : ∀ (S : St) (x1 : Int32) (x2 : Int32) (H : Heap) (locs : List Loc) (ls : Array Slot), k4 S x1 x2 = some (r, S2) → PW D y ad S H → va_S (AA ad) s.heap H locs → lv_has ls 5 [(0, .ref (ad 21)), (1, .int x1), (2, .int x2)] → W p l e (headSpec wsX2_joinByCongruence ({ frames := 4, cells := 0, slots := 0, locals := 106 })).room s m ([.ref (ad 21)] : List Value).toArray below meth c H locs 0 0 (QV below r S2 D y ad ([.ref (ad 21)] : List Value).toArray s) (F0 m 4 ls [])) (k18 : St → Int32 → Int32 → Option (Unit × St)) (hk18 : ∀ (S : St) (x1 : Int32) (x3 : Int32) (H : Heap) (locs : List Loc) (ls : Array Slot), k18 S x1 x3 = some (r, S2) → PW D y ad S H → va_S (AA ad) s.heap H locs → lv_has ls 5 [(0, .ref (ad 21)), (1, .int x1), (2, .int x2), (3, .int x3)] → W p l e (headSpec wsX2_joinByCongruence ({ frames := 4, cells := 0, slots := 0, locals := 106 })).room s m ([.ref (ad 21)] : List Value).toArray below meth c H locs 0 0 (QV below r S2 D y ad ([.ref (ad 21)] : List Value).toArray s) (F0 m 18 ls [])) (k34 : St → Int32 → Int32 → Option (Unit × St)) (hk34 : ∀ (S : St) (x1 : Int32) (x4 : Int32) (H : Heap) (locs : List Loc) (ls : Array Slot), k34 S x1 x4 = some (r, S2) → PW D y ad S H → va_S (AA ad) s.heap H locs → lv_has ls 5 [(0, .ref (ad 21)), (1, .int x1), (2, .int x2), (3, .int x3), (4, .int x4)] → W p l e (headSpec wsX2_joinByCongruence ({ frames := 4, cells := 0, slots := 0, locals := 106 })).room s m ([.ref (ad 21)] : List Value).toArray below meth c H locs 0 0 (QV below r S2 D y ad ([.ref (ad 21)] : List Value).toArray s) (F0 m 34 ls [])), ∀ (S : St) (x1 : Int32) (x4 : Int32) (H : Heap) (locs : List Loc) (ls : Array Slot), f_X2_joinByCongruence_34 n x2 x3 k4 k18 k34 S x1 x4 = some (r, S2) → PW D y ad S H → va_S (AA ad) s.heap H locs → lv_has ls 5 [(0, .ref (ad 21)), (1, .int x1), (2, .int x2), (3, .int x3), (4, .int x4)] → W p l e (headSpec wsX2_joinByCongruence ({ frames := 4, cells := 0, slots := 0, locals := 106 })).room s m ([.ref (ad 21)] : List Value).toArray below meth c H locs 0 0 (QV below r S2 D y ad ([.ref (ad 21)] : List Value).toArray s) (F0 m 34 ls []) := by
    intro x2 x3 k4 hk4 k18 hk18 k34 hk34 S x1 x4 H locs ls hf hP hS hl
    unfold f_X2_joinByCongruence_34 at hf
    refine lv_iload hx hb dX2_joinByCongruence_34 (lv_at hl 4 rfl) ?_
    refine lv_aload_n hx hb dX2_joinByCongruence_36 rfl (lv_at hl 0 rfl) ?_
    refine w_gR (z := 6) (C := RX2) (T := TX2) hx hb hts n2 hown hK hP t_21 rfl 0 (by decide) L22 rfl rfl dX2_joinByCongruence_37 ?_
    obtain ⟨r_2, S_3, hc_4, hf⟩ := bo_inv hf
    refine w_ci (va_runV (As := []) (rest := [.int x4]) ⟨hx, hb, hml, hown, hts⟩ (c_X7_size l D y ad aL aU hI n 6 isT6 S  _ _ hc_4) (cwV 0 hts gX2_joinByCongruence_X7_size rfl rfl rfl (by decide +kernel) ⟨Nat.le_of_ble_eq_true rfl, Nat.le_of_ble_eq_true rfl⟩) (pwu_V t_6 rfl hP hK hZ hS) rfl rfl hl.1 rfl (lv_room (Nat.le_of_ble_eq_true rfl)) dX2_joinByCongruence_40 ⟨Nat.zero_le _, Nat.zero_le _⟩) hS (fun H locs hP hS => ?_)
    refine lv_icmp_ge (tgt := 74) hx hb dX2_joinByCongruence_43 (by decide) (fun b_5 => ?_) (fun b_5 => ?_)
    · have hf := if_t b_5 hf
      obtain ⟨x3_6, ex3_6, hf⟩ := bd_inv hf
      refine lv_iinc (v := x3_6) (lv' := [(3, .int x3_6), (0, .ref (ad 21)), (1, .int x1), (2, .int x2), (4, .int x4)]) hx hb dX2_joinByCongruence_74 hl (k := 3) rfl (by rw [ex3_6]; rfl) (by decide) rfl (fun ls hl => ?_)
      refine lv_goto (tgt := 18) hx hb dX2_joinByCongruence_77 (by decide) ?_
      exact hk18 S_3 x1 x3_6 _ _ _ hf hP hS (lv_sub hl [1, 2, 3, 0] rfl)
    · have hf := if_f b_5 hf
      refine lv_aload_n hx hb dX2_joinByCongruence_46 rfl (lv_at hl 0 rfl) ?_
      refine lv_iload_n hx hb dX2_joinByCongruence_47 rfl (lv_at hl 3 rfl) ?_
      refine lv_iload hx hb dX2_joinByCongruence_48 (lv_at hl 4 rfl) ?_
      obtain ⟨r_7, S_8, hc_9, hf⟩ := bo_inv hf
      refine w_ci (va_runV (As := [.int x3, .int x4]) (rest := []) ⟨hx, hb, hml, hown, hts⟩ (c_X2_haveSameArguments l D y ad aL aU hI n S_3 x3 x4 _ _ hc_9) (cwV 2 hts gX2_joinByCongruence_X2_haveSameArguments rfl rfl rfl (by decide +kernel) ⟨Nat.le_of_ble_eq_true rfl, Nat.le_of_ble_eq_true rfl⟩) (pwu_V t_21 rfl hP hK hZ hS) rfl rfl hl.1 rfl (lv_room (Nat.le_of_ble_eq_true rfl)) dX2_joinByCongruence_50 ⟨Nat.zero_le _, Nat.zero_le _⟩) hS (fun H locs hP hS => ?_)
      refine lv_if_eq (tgt := 68) hx hb dX2_joinByCongruence_53 (by decide) (fun b_10 => ?_) (fun b_10 => ?_)
      · have hf := if_t b_10 hf
        exact j68 x2 x3 k4 hk4 k18 hk18 k34 hk34 S_8 x1 x4 _ _ _ hf hP hS (lv_sub hl [0, 1, 2, 3, 4] rfl)
      · have hf := if_f b_10 hf
        refine lv_aload_n hx hb dX2_joinByCongruence_56 rfl (lv_at hl 0 rfl) ?_
        refine lv_iload_n hx hb dX2_joinByCongruence_57 rfl (lv_at hl 3 rfl) ?_
        refine lv_iload hx hb dX2_joinByCongruence_58 (lv_at hl 4 rfl) ?_
        obtain ⟨r_11, S_12, hc_13, hf⟩ := bo_inv hf
        refine w_ci (va_runV (As := [.int x3, .int x4]) (rest := []) ⟨hx, hb, hml, hown, hts⟩ (c_X2_join l D y ad aL aU hI n S_8 x3 x4 _ _ hc_13) (cwV 2 hts gX2_joinByCongruence_X2_join rfl rfl rfl (by decide +kernel) ⟨Nat.le_of_ble_eq_true rfl, Nat.le_of_ble_eq_true rfl⟩) (pwu_V t_21 rfl hP hK hZ hS) rfl rfl hl.1 rfl (lv_room (Nat.le_of_ble_eq_true rfl)) dX2_joinByCongruence_60 ⟨Nat.zero_le _, Nat.zero_le _⟩) hS (fun H locs hP hS => ?_)
        refine lv_if_eq (tgt := 68) hx hb dX2_joinByCongruence_63 (by decide) (fun b_14 => ?_) (fun b_14 => ?_)
        · have hf := if_t b_14 hf
          exact j68 x2 x3 k4 hk4 k18 hk18 k34 hk34 S_12 x1 x4 _ _ _ hf hP hS (lv_sub hl [0, 1, 2, 3, 4] rfl)
        · have hf := if_f b_14 hf
          refine lv_iconst (v := 1) hx hb dX2_joinByCongruence_66 (by decide) ?_
          obtain ⟨x1_15, ex1_15, hf⟩ := bd_inv hf
          refine w_topI ex1_15 ?_
          refine lv_istore_n (lv' := [(1, .int x1_15), (0, .ref (ad 21)), (2, .int x2), (3, .int x3), (4, .int x4)]) hx hb dX2_joinByCongruence_67 rfl hl (by decide) rfl (fun ls hl => ?_)
          exact j68 x2 x3 k4 hk4 k18 hk18 k34 hk34 S_12 x1_15 x4 _ _ _ hf hP hS (lv_sub hl [1, 0, 2, 3, 4] rfl)
  have j34 : ∀ (x2 : Int32) (x3 : Int32) (k4 : St → Int32 → Int32 → Option (Unit × St)) (hk4 : ∀ (S : St) (x1 : Int32) (x2 : Int32) (H : Heap) (locs : List Loc) (ls : Array Slot), k4 S x1 x2 = some (r, S2) → PW D y ad S H → va_S (AA ad) s.heap H locs → lv_has ls 5 [(0, .ref (ad 21)), (1, .int x1), (2, .int x2)] → W p l e (headSpec wsX2_joinByCongruence ({ frames := 4, cells := 0, slots := 0, locals := 106 })).room s m ([.ref (ad 21)] : List Value).toArray below meth c H locs 0 0 (QV below r S2 D y ad ([.ref (ad 21)] : List Value).toArray s) (F0 m 4 ls [])) (k18 : St → Int32 → Int32 → Option (Unit × St)) (hk18 : ∀ (S : St) (x1 : Int32) (x3 : Int32) (H : Heap) (locs : List Loc) (ls : Array Slot), k18 S x1 x3 = some (r, S2) → PW D y ad S H → va_S (AA ad) s.heap H locs → lv_has ls 5 [(0, .ref (ad 21)), (1, .int x1), (2, .int x2), (3, .int x3)] → W p l e (headSpec wsX2_joinByCongruence ({ frames := 4, cells := 0, slots := 0, locals := 106 })).room s m ([.ref (ad 21)] : List Value).toArray below meth c H locs 0 0 (QV below r S2 D y ad ([.ref (ad 21)] : List Value).toArray s) (F0 m 18 ls [])) (fu : Nat), ∀ (S : St) (x1 : Int32) (x4 : Int32) (H : Heap) (locs : List Loc) (ls : Array Slot), fixF (fun _ _ _ => none) (f_X2_joinByCongruence_34 n x2 x3 k4 k18) fu S x1 x4 = some (r, S2) → PW D y ad S H → va_S (AA ad) s.heap H locs → lv_has ls 5 [(0, .ref (ad 21)), (1, .int x1), (2, .int x2), (3, .int x3), (4, .int x4)] → W p l e (headSpec wsX2_joinByCongruence ({ frames := 4, cells := 0, slots := 0, locals := 106 })).room s m ([.ref (ad 21)] : List Value).toArray below meth c H locs 0 0 (QV below r S2 D y ad ([.ref (ad 21)] : List Value).toArray s) (F0 m 34 ls []) := by
    intro x2 x3 k4 hk4 k18 hk18 fu
    induction fu with
    | zero => intro S x1 x4 H locs ls hf hP hS hl; cases hf
    | succ fu ih => exact b34 x2 x3 k4 hk4 k18 hk18 (fixF (fun _ _ _ => none) (f_X2_joinByCongruence_34 n x2 x3 k4 k18) fu) ih
  have b18 : ∀ (x2 : Int32) (k4 : St → Int32 → Int32 → Option (Unit × St)) (hk4 : ∀ (S : St) (x1 : Int32) (x2 : Int32) (H : Heap) (locs : List Loc) (ls : Array Slot), k4 S x1 x2 = some (r, S2) → PW D y ad S H → va_S (AA ad) s.heap H locs → lv_has ls 5 [(0, .ref (ad 21)), (1, .int x1), (2, .int x2)] → W p l e (headSpec wsX2_joinByCongruence ({ frames := 4, cells := 0, slots := 0, locals := 106 })).room s m ([.ref (ad 21)] : List Value).toArray below meth c H locs 0 0 (QV below r S2 D y ad ([.ref (ad 21)] : List Value).toArray s) (F0 m 4 ls [])) (k18 : St → Int32 → Int32 → Option (Unit × St)) (hk18 : ∀ (S : St) (x1 : Int32) (x3 : Int32) (H : Heap) (locs : List Loc) (ls : Array Slot), k18 S x1 x3 = some (r, S2) → PW D y ad S H → va_S (AA ad) s.heap H locs → lv_has ls 5 [(0, .ref (ad 21)), (1, .int x1), (2, .int x2), (3, .int x3)] → W p l e (headSpec wsX2_joinByCongruence ({ frames := 4, cells := 0, slots := 0, locals := 106 })).room s m ([.ref (ad 21)] : List Value).toArray below meth c H locs 0 0 (QV below r S2 D y ad ([.ref (ad 21)] : List Value).toArray s) (F0 m 18 ls [])), ∀ (S : St) (x1 : Int32) (x3 : Int32) (H : Heap) (locs : List Loc) (ls : Array Slot), f_X2_joinByCongruence_18 n x2 k4 k18 S x1 x3 = some (r, S2) → PW D y ad S H → va_S (AA ad) s.heap H locs → lv_has ls 5 [(0, .ref (ad 21)), (1, .int x1), (2, .int x2), (3, .int x3)] → W p l e (headSpec wsX2_joinByCongruence ({ frames := 4, cells := 0, slots := 0, locals := 106 })).room s m ([.ref (ad 21)] : List Value).toArray below meth c H locs 0 0 (QV below r S2 D y ad ([.ref (ad 21)] : List Value).toArray s) (F0 m 18 ls []) := by
    intro x2 k4 hk4 k18 hk18 S x1 x3 H locs ls hf hP hS hl
    unfold f_X2_joinByCongruence_18 at hf
    refine lv_iload_n hx hb dX2_joinByCongruence_18 rfl (lv_at hl 3 rfl) ?_
    refine lv_aload_n hx hb dX2_joinByCongruence_19 rfl (lv_at hl 0 rfl) ?_
    refine w_gR (z := 6) (C := RX2) (T := TX2) hx hb hts n2 hown hK hP t_21 rfl 0 (by decide) L22 rfl rfl dX2_joinByCongruence_20 ?_
    obtain ⟨r_16, S_17, hc_18, hf⟩ := bo_inv hf
    refine w_ci (va_runV (As := []) (rest := [.int x3]) ⟨hx, hb, hml, hown, hts⟩ (c_X7_size l D y ad aL aU hI n 6 isT6 S  _ _ hc_18) (cwV 0 hts gX2_joinByCongruence_X7_size rfl rfl rfl (by decide +kernel) ⟨Nat.le_of_ble_eq_true rfl, Nat.le_of_ble_eq_true rfl⟩) (pwu_V t_6 rfl hP hK hZ hS) rfl rfl hl.1 rfl (lv_room (Nat.le_of_ble_eq_true rfl)) dX2_joinByCongruence_23 ⟨Nat.zero_le _, Nat.zero_le _⟩) hS (fun H locs hP hS => ?_)
    refine lv_icmp_ge (tgt := 80) hx hb dX2_joinByCongruence_26 (by decide) (fun b_19 => ?_) (fun b_19 => ?_)
    · have hf := if_t b_19 hf
      obtain ⟨x2_20, ex2_20, hf⟩ := bd_inv hf
      refine lv_iinc (v := x2_20) (lv' := [(2, .int x2_20), (0, .ref (ad 21)), (1, .int x1), (3, .int x3)]) hx hb dX2_joinByCongruence_80 hl (k := 2) rfl (by rw [ex2_20]; rfl) (by decide) rfl (fun ls hl => ?_)
      refine lv_goto (tgt := 4) hx hb dX2_joinByCongruence_83 (by decide) ?_
      exact hk4 S_17 x1 x2_20 _ _ _ hf hP hS (lv_sub hl [1, 2, 0] rfl)
    · have hf := if_f b_19 hf
      refine lv_iload_n hx hb dX2_joinByCongruence_29 rfl (lv_at hl 3 rfl) ?_
      refine lv_iconst (v := 1) hx hb dX2_joinByCongruence_30 (by decide) ?_
      refine lv_iadd hx hb dX2_joinByCongruence_31 ?_
      obtain ⟨x4_21, ex4_21, hf⟩ := bd_inv hf
      refine w_topI ex4_21 ?_
      refine lv_istore (lv' := [(4, .int x4_21), (0, .ref (ad 21)), (1, .int x1), (2, .int x2), (3, .int x3)]) hx hb dX2_joinByCongruence_32 hl (by decide) rfl (fun ls hl => ?_)
      exact j34 x2 x3 k4 hk4 k18 hk18 n S_17 x1 x4_21 _ _ _ hf hP hS (lv_sub hl [1, 2, 3, 4, 0] rfl)
  have j18 : ∀ (x2 : Int32) (k4 : St → Int32 → Int32 → Option (Unit × St)) (hk4 : ∀ (S : St) (x1 : Int32) (x2 : Int32) (H : Heap) (locs : List Loc) (ls : Array Slot), k4 S x1 x2 = some (r, S2) → PW D y ad S H → va_S (AA ad) s.heap H locs → lv_has ls 5 [(0, .ref (ad 21)), (1, .int x1), (2, .int x2)] → W p l e (headSpec wsX2_joinByCongruence ({ frames := 4, cells := 0, slots := 0, locals := 106 })).room s m ([.ref (ad 21)] : List Value).toArray below meth c H locs 0 0 (QV below r S2 D y ad ([.ref (ad 21)] : List Value).toArray s) (F0 m 4 ls [])) (fu : Nat), ∀ (S : St) (x1 : Int32) (x3 : Int32) (H : Heap) (locs : List Loc) (ls : Array Slot), fixF (fun _ _ _ => none) (f_X2_joinByCongruence_18 n x2 k4) fu S x1 x3 = some (r, S2) → PW D y ad S H → va_S (AA ad) s.heap H locs → lv_has ls 5 [(0, .ref (ad 21)), (1, .int x1), (2, .int x2), (3, .int x3)] → W p l e (headSpec wsX2_joinByCongruence ({ frames := 4, cells := 0, slots := 0, locals := 106 })).room s m ([.ref (ad 21)] : List Value).toArray below meth c H locs 0 0 (QV below r S2 D y ad ([.ref (ad 21)] : List Value).toArray s) (F0 m 18 ls []) := by
    intro x2 k4 hk4 fu
    induction fu with
    | zero => intro S x1 x3 H locs ls hf hP hS hl; cases hf
    | succ fu ih => exact b18 x2 k4 hk4 (fixF (fun _ _ _ => none) (f_X2_joinByCongruence_18 n x2 k4) fu) ih
  have b4 : ∀ (k4 : St → Int32 → Int32 → Option (Unit × St)) (hk4 : ∀ (S : St) (x1 : Int32) (x2 : Int32) (H : Heap) (locs : List Loc) (ls : Array Slot), k4 S x1 x2 = some (r, S2) → PW D y ad S H → va_S (AA ad) s.heap H locs → lv_has ls 5 [(0, .ref (ad 21)), (1, .int x1), (2, .int x2)] → W p l e (headSpec wsX2_joinByCongruence ({ frames := 4, cells := 0, slots := 0, locals := 106 })).room s m ([.ref (ad 21)] : List Value).toArray below meth c H locs 0 0 (QV below r S2 D y ad ([.ref (ad 21)] : List Value).toArray s) (F0 m 4 ls [])), ∀ (S : St) (x1 : Int32) (x2 : Int32) (H : Heap) (locs : List Loc) (ls : Array Slot), f_X2_joinByCongruence_4 n k4 S x1 x2 = some (r, S2) → PW D y ad S H → va_S (AA ad) s.heap H locs → lv_has ls 5 [(0, .ref (ad 21)), (1, .int x1), (2, .int x2)] → W p l e (headSpec wsX2_joinByCongruence ({ frames := 4, cells := 0, slots := 0, locals := 106 })).room s m ([.ref (ad 21)] : List Value).toArray below meth c H locs 0 0 (QV below r S2 D y ad ([.ref (ad 21)] : List Value).toArray s) (F0 m 4 ls []) := by
    intro  k4 hk4 S x1 x2 H locs ls hf hP hS hl
    unfold f_X2_joinByCongruence_4 at hf
    refine lv_iload_n hx hb dX2_joinByCongruence_4 rfl (lv_at hl 2 rfl) ?_
    refine lv_bipush (v := (10)) hx hb dX2_joinByCongruence_5 (by decide) ?_
    refine lv_icmp_ge (tgt := 86) hx hb dX2_joinByCongruence_7 (by decide) (fun b_22 => ?_) (fun b_22 => ?_)
    · have hf := if_t b_22 hf
      exact w_vret hx hb hr hlocks hP hS (rt_inv hf) dX2_joinByCongruence_86
    · have hf := if_f b_22 hf
      refine lv_iload_n hx hb dX2_joinByCongruence_10 rfl (lv_at hl 1 rfl) ?_
      refine lv_if_eq (tgt := 86) hx hb dX2_joinByCongruence_11 (by decide) (fun b_23 => ?_) (fun b_23 => ?_)
      · have hf := if_t b_23 hf
        exact w_vret hx hb hr hlocks hP hS (rt_inv hf) dX2_joinByCongruence_86
      · have hf := if_f b_23 hf
        refine lv_iconst (v := 0) hx hb dX2_joinByCongruence_14 (by decide) ?_
        obtain ⟨x1_24, ex1_24, hf⟩ := bd_inv hf
        refine w_topI ex1_24 ?_
        refine lv_istore_n (lv' := [(1, .int x1_24), (0, .ref (ad 21)), (2, .int x2)]) hx hb dX2_joinByCongruence_15 rfl hl (by decide) rfl (fun ls hl => ?_)
        refine lv_iconst (v := 5) hx hb dX2_joinByCongruence_16 (by decide) ?_
        obtain ⟨x3_25, ex3_25, hf⟩ := bd_inv hf
        refine w_topI ex3_25 ?_
        refine lv_istore_n (lv' := [(3, .int x3_25), (1, .int x1_24), (0, .ref (ad 21)), (2, .int x2)]) hx hb dX2_joinByCongruence_17 rfl hl (by decide) rfl (fun ls hl => ?_)
        exact j18 x2 k4 hk4 n S x1_24 x3_25 _ _ _ hf hP hS (lv_sub hl [2, 1, 3, 0] rfl)
  have j4 : ∀ (fu : Nat), ∀ (S : St) (x1 : Int32) (x2 : Int32) (H : Heap) (locs : List Loc) (ls : Array Slot), fixF (fun _ _ _ => none) (f_X2_joinByCongruence_4 n) fu S x1 x2 = some (r, S2) → PW D y ad S H → va_S (AA ad) s.heap H locs → lv_has ls 5 [(0, .ref (ad 21)), (1, .int x1), (2, .int x2)] → W p l e (headSpec wsX2_joinByCongruence ({ frames := 4, cells := 0, slots := 0, locals := 106 })).room s m ([.ref (ad 21)] : List Value).toArray below meth c H locs 0 0 (QV below r S2 D y ad ([.ref (ad 21)] : List Value).toArray s) (F0 m 4 ls []) := by
    intro   fu
    induction fu with
    | zero => intro S x1 x2 H locs ls hf hP hS hl; cases hf
    | succ fu ih => exact b4   (fixF (fun _ _ _ => none) (f_X2_joinByCongruence_4 n) fu) ih
  unfold f_X2_joinByCongruence at hf
  refine lv_iconst (v := 1) hx hb dX2_joinByCongruence_0 (by decide) ?_
  obtain ⟨x1_26, ex1_26, hf⟩ := bd_inv hf
  refine w_topI ex1_26 ?_
  refine lv_istore_n (lv' := [(1, .int x1_26), (0, .ref (ad 21))]) hx hb dX2_joinByCongruence_1 rfl hl (by decide) rfl (fun ls hl => ?_)
  refine lv_iconst (v := 0) hx hb dX2_joinByCongruence_2 (by decide) ?_
  obtain ⟨x2_27, ex2_27, hf⟩ := bd_inv hf
  refine w_topI ex2_27 ?_
  refine lv_istore_n (lv' := [(2, .int x2_27), (1, .int x1_26), (0, .ref (ad 21))]) hx hb dX2_joinByCongruence_3 rfl hl (by decide) rfl (fun ls hl => ?_)
  exact j4   n S x1_26 x2_27 _ _ _ hf hP hS (lv_sub hl [2, 1, 0] rfl)
set_option maxHeartbeats 4000000 in
set_option maxRecDepth 100000 in
theorem c_X3_numberOf (l : Launch) (D : va_G) (y : y4) (ad : Nat → Nat) (aL aU : Nat) (hI : Inj ad) (n : Nat) (S : St) (a1 : Int32) (r : Int32) (S2 : St) (hf : f_X3_numberOf n S a1 = some (r, S2)) : KI l D y ad aL aU yX3_numberOf wsX3_numberOf ({ frames := 2, cells := 0, slots := 0, locals := 41 }) [.ref (ad 16), .int a1] S r S2 := by
  refine Met.ofW (cc := cX3_numberOf) (maxL := 2) (ret := (some .int)) (by decide) rfl ?_
  intro p e s m args below meth c s₁ B hml hv
  obtain ⟨rfl, hP, hK, hZ⟩ := hv
  have hx := B.exec
  have hb := B.bytes
  have hr := B.returns
  have hts := atoms_spec (ws := wsX3_numberOf) B.pre
  have hown : s.vm.findClass RX3 = some m.cls := findClass_of_methodNamed B.named
  have hlocks := B.notSynchronized
  have hS : va_S (AA ad) s.heap s.heap [] := va_S.rf
  have L21 := hts (.fieldLink RX3 21 "JoinedTheories$Literals" "numbers" "[I") (by decide +kernel)
  have n3 : ∀ w ∈ wsX30, w ∈ wsX3_numberOf := by decide +kernel
  have hl := lv_entry ([.ref (ad 16), .int a1]) (n := 2) (Nat.le_of_ble_eq_true rfl)
  rw [lg_entry_eq]
  generalize (lg_sl ([.ref (ad 16), .int a1]) ++ List.replicate (2 - (lg_sl ([.ref (ad 16), .int a1])).length) Slot.unset).toArray = ls at hl ⊢
  have hl : lv_has ls 2 [(0, .ref (ad 16)), (1, .int a1)] := hl
  unfold f_X3_numberOf at hf
  refine lv_aload_n hx hb dX3_numberOf_0 rfl (lv_at hl 0 rfl) ?_
  refine lv_iload_n hx hb dX3_numberOf_1 rfl (lv_at hl 1 rfl) ?_
  obtain ⟨r_1, S_2, hc_3, hf⟩ := bo_inv hf
  refine w_ci (va_runV (As := [.int a1]) (rest := []) ⟨hx, hb, hml, hown, hts⟩ (c_X3_has l D y ad aL aU hI n S a1 _ _ hc_3) (cwV 1 hts gX3_numberOf_X3_has rfl rfl rfl (by decide +kernel) ⟨Nat.le_of_ble_eq_true rfl, Nat.le_of_ble_eq_true rfl⟩) (pwu_V t_16 rfl hP hK hZ hS) rfl rfl hl.1 rfl (lv_room (Nat.le_of_ble_eq_true rfl)) dX3_numberOf_2 ⟨Nat.zero_le _, Nat.zero_le _⟩) hS (fun H locs hP hS => ?_)
  refine lv_if_eq (tgt := 17) hx hb dX3_numberOf_5 (by decide) (fun b_4 => ?_) (fun b_4 => ?_)
  · have hf := if_t b_4 hf
    refine lv_iconst (v := 0) hx hb dX3_numberOf_17 (by decide) ?_
    exact w_iret hx hb hr hlocks hP hS (rt_inv hf) dX3_numberOf_18
  · have hf := if_f b_4 hf
    refine lv_aload_n hx hb dX3_numberOf_8 rfl (lv_at hl 0 rfl) ?_
    refine w_gR (z := 20) (C := RX3) (T := TX3) hx hb hts n3 hown hK hP t_16 rfl 3 (by decide) L21 rfl rfl dX3_numberOf_9 ?_
    refine lv_iload_n hx hb dX3_numberOf_12 rfl (lv_at hl 1 rfl) ?_
    obtain ⟨g_5, hf⟩ := gd_inv hf
    refine w_iald hx hb hK hP t_20 g_5 dX3_numberOf_13 ?_
    refine lv_goto (tgt := 18) hx hb dX3_numberOf_14 (by decide) ?_
    exact w_iret hx hb hr hlocks hP hS (rt_inv hf) dX3_numberOf_18
set_option maxHeartbeats 4000000 in
set_option maxRecDepth 100000 in
theorem c_X2_measure (l : Launch) (D : va_G) (y : y4) (ad : Nat → Nat) (aL aU : Nat) (hI : Inj ad) (n : Nat) (S : St) (r : Int32) (S2 : St) (hf : f_X2_measure n S = some (r, S2)) : KI l D y ad aL aU yX2_measure wsX2_measure ({ frames := 3, cells := 0, slots := 0, locals := 74 }) [.ref (ad 21)] S r S2 := by
  refine Met.ofW (cc := cX2_measure) (maxL := 2) (ret := (some .boolean)) (by decide) rfl ?_
  intro p e s m args below meth c s₁ B hml hv
  obtain ⟨rfl, hP, hK, hZ⟩ := hv
  have hx := B.exec
  have hb := B.bytes
  have hr := B.returns
  have hts := atoms_spec (ws := wsX2_measure) B.pre
  have hown : s.vm.findClass RX2 = some m.cls := findClass_of_methodNamed B.named
  have hlocks := B.notSynchronized
  have hS : va_S (AA ad) s.heap s.heap [] := va_S.rf
  have L12 := hts (.fieldLink RX2 12 "JoinedTheories$Exchanger" "distances" "LJoinedTheories$Distances;") (by decide +kernel)
  have L18 := hts (.fieldLink RX2 18 "JoinedTheories$Exchanger" "smallest" "[I") (by decide +kernel)
  have L26 := hts (.fieldLink RX2 26 "JoinedTheories$Exchanger" "literals" "LJoinedTheories$Literals;") (by decide +kernel)
  have n2 : ∀ w ∈ wsX20, w ∈ wsX2_measure := by decide +kernel
  have hl := lv_entry ([.ref (ad 21)]) (n := 2) (Nat.le_of_ble_eq_true rfl)
  rw [lg_entry_eq]
  generalize (lg_sl ([.ref (ad 21)]) ++ List.replicate (2 - (lg_sl ([.ref (ad 21)])).length) Slot.unset).toArray = ls at hl ⊢
  have hl : lv_has ls 2 [(0, .ref (ad 21))] := hl
  have j102 : ∀ (k42 : St → Int32 → Option (Int32 × St)) (hk42 : ∀ (S : St) (x1 : Int32) (H : Heap) (locs : List Loc) (ls : Array Slot), k42 S x1 = some (r, S2) → PW D y ad S H → va_S (AA ad) s.heap H locs → lv_has ls 2 [(0, .ref (ad 21)), (1, .int x1)] → W p l e (headSpec wsX2_measure ({ frames := 3, cells := 0, slots := 0, locals := 74 })).room s m ([.ref (ad 21)] : List Value).toArray below meth c H locs 0 0 (QI below r S2 D y ad ([.ref (ad 21)] : List Value).toArray s) (F0 m 42 ls [])), ∀ (S : St) (x1 : Int32) (H : Heap) (locs : List Loc) (ls : Array Slot), f_X2_measure_102 n k42 S x1 = some (r, S2) → PW D y ad S H → va_S (AA ad) s.heap H locs → lv_has ls 2 [(0, .ref (ad 21)), (1, .int x1)] → W p l e (headSpec wsX2_measure ({ frames := 3, cells := 0, slots := 0, locals := 74 })).room s m ([.ref (ad 21)] : List Value).toArray below meth c H locs 0 0 (QI below r S2 D y ad ([.ref (ad 21)] : List Value).toArray s) (F0 m 102 ls []) := by
    intro  k42 hk42 S x1 H locs ls hf hP hS hl
    unfold f_X2_measure_102 at hf
    obtain ⟨x1_1, ex1_1, hf⟩ := bd_inv hf
    refine lv_iinc (v := x1_1) (lv' := [(1, .int x1_1), (0, .ref (ad 21))]) hx hb dX2_measure_102 hl (k := 1) rfl (by rw [ex1_1]; rfl) (by decide) rfl (fun ls hl => ?_)
    refine lv_goto (tgt := 42) hx hb dX2_measure_105 (by decide) ?_
    exact hk42 S x1_1 _ _ _ hf hP hS (lv_sub hl [1, 0] rfl)
  have b42 : ∀ (k42 : St → Int32 → Option (Int32 × St)) (hk42 : ∀ (S : St) (x1 : Int32) (H : Heap) (locs : List Loc) (ls : Array Slot), k42 S x1 = some (r, S2) → PW D y ad S H → va_S (AA ad) s.heap H locs → lv_has ls 2 [(0, .ref (ad 21)), (1, .int x1)] → W p l e (headSpec wsX2_measure ({ frames := 3, cells := 0, slots := 0, locals := 74 })).room s m ([.ref (ad 21)] : List Value).toArray below meth c H locs 0 0 (QI below r S2 D y ad ([.ref (ad 21)] : List Value).toArray s) (F0 m 42 ls [])), ∀ (S : St) (x1 : Int32) (H : Heap) (locs : List Loc) (ls : Array Slot), f_X2_measure_42 n k42 S x1 = some (r, S2) → PW D y ad S H → va_S (AA ad) s.heap H locs → lv_has ls 2 [(0, .ref (ad 21)), (1, .int x1)] → W p l e (headSpec wsX2_measure ({ frames := 3, cells := 0, slots := 0, locals := 74 })).room s m ([.ref (ad 21)] : List Value).toArray below meth c H locs 0 0 (QI below r S2 D y ad ([.ref (ad 21)] : List Value).toArray s) (F0 m 42 ls []) := by
    intro  k42 hk42 S x1 H locs ls hf hP hS hl
    unfold f_X2_measure_42 at hf
    refine lv_iload_n hx hb dX2_measure_42 rfl (lv_at hl 1 rfl) ?_
    refine lv_aload_n hx hb dX2_measure_43 rfl (lv_at hl 0 rfl) ?_
    refine w_gR (z := 16) (C := RX2) (T := TX2) hx hb hts n2 hown hK hP t_21 rfl 1 (by decide) L26 rfl rfl dX2_measure_44 ?_
    obtain ⟨r_2, S_3, hc_4, hf⟩ := bo_inv hf
    refine w_ci (va_runV (As := []) (rest := [.int x1]) ⟨hx, hb, hml, hown, hts⟩ (c_X3_size l D y ad aL aU hI n S  _ _ hc_4) (cwV 0 hts gX2_measure_X3_size rfl rfl rfl (by decide +kernel) ⟨Nat.le_of_ble_eq_true rfl, Nat.le_of_ble_eq_true rfl⟩) (pwu_V t_16 rfl hP hK hZ hS) rfl rfl hl.1 rfl (lv_room (Nat.le_of_ble_eq_true rfl)) dX2_measure_47 ⟨Nat.zero_le _, Nat.zero_le _⟩) hS (fun H locs hP hS => ?_)
    refine lv_icmp_ge (tgt := 108) hx hb dX2_measure_50 (by decide) (fun b_5 => ?_) (fun b_5 => ?_)
    · have hf := if_t b_5 hf
      refine lv_iconst (v := 1) hx hb dX2_measure_108 (by decide) ?_
      exact w_zret hx hb hr hlocks (fun h => h (by decide)) hP hS (rt_inv hf) dX2_measure_109
    · have hf := if_f b_5 hf
      refine lv_aload_n hx hb dX2_measure_53 rfl (lv_at hl 0 rfl) ?_
      refine w_gR (z := 16) (C := RX2) (T := TX2) hx hb hts n2 hown hK hP t_21 rfl 1 (by decide) L26 rfl rfl dX2_measure_54 ?_
      refine lv_iload_n hx hb dX2_measure_57 rfl (lv_at hl 1 rfl) ?_
      obtain ⟨r_6, S_7, hc_8, hf⟩ := bo_inv hf
      refine w_ci (va_runV (As := [.int x1]) (rest := []) ⟨hx, hb, hml, hown, hts⟩ (c_X3_kindOf l D y ad aL aU hI n S_3 x1 _ _ hc_8) (cwV 1 hts gX2_measure_X3_kindOf rfl rfl rfl (by decide +kernel) ⟨Nat.le_of_ble_eq_true rfl, Nat.le_of_ble_eq_true rfl⟩) (pwu_V t_16 rfl hP hK hZ hS) rfl rfl hl.1 rfl (lv_room (Nat.le_of_ble_eq_true rfl)) dX2_measure_58 ⟨Nat.zero_le _, Nat.zero_le _⟩) hS (fun H locs hP hS => ?_)
      refine lv_iconst (v := 2) hx hb dX2_measure_61 (by decide) ?_
      refine lv_icmp_ne (tgt := 102) hx hb dX2_measure_62 (by decide) (fun b_9 => ?_) (fun b_9 => ?_)
      · have hf := if_f b_9 hf
        exact j102  k42 hk42 S_7 x1 _ _ _ hf hP hS (lv_sub hl [0, 1] rfl)
      · have hf := if_t b_9 hf
        refine lv_aload_n hx hb dX2_measure_65 rfl (lv_at hl 0 rfl) ?_
        refine w_gR (z := 96) (C := RX2) (T := TX2) hx hb hts n2 hown hK hP t_21 rfl 2 (by decide) L12 rfl rfl dX2_measure_66 ?_
        refine lv_aload_n hx hb dX2_measure_69 rfl (lv_at hl 0 rfl) ?_
        refine w_gR (z := 16) (C := RX2) (T := TX2) hx hb hts n2 hown hK hP t_21 rfl 1 (by decide) L26 rfl rfl dX2_measure_70 ?_
        refine lv_iload_n hx hb dX2_measure_73 rfl (lv_at hl 1 rfl) ?_
        obtain ⟨r_10, S_11, hc_12, hf⟩ := bo_inv hf
        refine w_ci (va_runV (As := [.int x1]) (rest := [.ref (ad 96)]) ⟨hx, hb, hml, hown, hts⟩ (c_X3_leftOf l D y ad aL aU hI n S_7 x1 _ _ hc_12) (cwV 1 hts gX2_measure_X3_leftOf rfl rfl rfl (by decide +kernel) ⟨Nat.le_of_ble_eq_true rfl, Nat.le_of_ble_eq_true rfl⟩) (pwu_V t_16 rfl hP hK hZ hS) rfl rfl hl.1 rfl (lv_room (Nat.le_of_ble_eq_true rfl)) dX2_measure_74 ⟨Nat.zero_le _, Nat.zero_le _⟩) hS (fun H locs hP hS => ?_)
        refine lv_aload_n hx hb dX2_measure_77 rfl (lv_at hl 0 rfl) ?_
        refine w_gR (z := 16) (C := RX2) (T := TX2) hx hb hts n2 hown hK hP t_21 rfl 1 (by decide) L26 rfl rfl dX2_measure_78 ?_
        refine lv_iload_n hx hb dX2_measure_81 rfl (lv_at hl 1 rfl) ?_
        obtain ⟨r_13, S_14, hc_15, hf⟩ := bo_inv hf
        refine w_ci (va_runV (As := [.int x1]) (rest := [.int r_10, .ref (ad 96)]) ⟨hx, hb, hml, hown, hts⟩ (c_X3_rightOf l D y ad aL aU hI n S_11 x1 _ _ hc_15) (cwV 1 hts gX2_measure_X3_rightOf rfl rfl rfl (by decide +kernel) ⟨Nat.le_of_ble_eq_true rfl, Nat.le_of_ble_eq_true rfl⟩) (pwu_V t_16 rfl hP hK hZ hS) rfl rfl hl.1 rfl (lv_room (Nat.le_of_ble_eq_true rfl)) dX2_measure_82 ⟨Nat.zero_le _, Nat.zero_le _⟩) hS (fun H locs hP hS => ?_)
        refine lv_aload_n hx hb dX2_measure_85 rfl (lv_at hl 0 rfl) ?_
        refine w_gR (z := 16) (C := RX2) (T := TX2) hx hb hts n2 hown hK hP t_21 rfl 1 (by decide) L26 rfl rfl dX2_measure_86 ?_
        refine lv_iload_n hx hb dX2_measure_89 rfl (lv_at hl 1 rfl) ?_
        obtain ⟨r_16, S_17, hc_18, hf⟩ := bo_inv hf
        refine w_ci (va_runV (As := [.int x1]) (rest := [.int r_13, .int r_10, .ref (ad 96)]) ⟨hx, hb, hml, hown, hts⟩ (c_X3_numberOf l D y ad aL aU hI n S_14 x1 _ _ hc_18) (cwV 1 hts gX2_measure_X3_numberOf rfl rfl rfl (by decide +kernel) ⟨Nat.le_of_ble_eq_true rfl, Nat.le_of_ble_eq_true rfl⟩) (pwu_V t_16 rfl hP hK hZ hS) rfl rfl hl.1 rfl (lv_room (Nat.le_of_ble_eq_true rfl)) dX2_measure_90 ⟨Nat.zero_le _, Nat.zero_le _⟩) hS (fun H locs hP hS => ?_)
        refine lv_i2l hx hb dX2_measure_93 rfl ?_
        obtain ⟨r_19, S_20, hc_21, hf⟩ := bo_inv hf
        refine w_ci (va_runV (As := [.int r_10, .int r_13, .long (r_16).toInt64]) (rest := []) ⟨hx, hb, hml, hown, hts⟩ (c_X1_bound l D y ad aL aU hI n 96 isD96 S_17 r_10 r_13 (r_16).toInt64 _ _ hc_21) (cwV 3 hts gX2_measure_X1_bound rfl rfl rfl (by decide +kernel) ⟨Nat.le_of_ble_eq_true rfl, Nat.le_of_ble_eq_true rfl⟩) (pwu_V t_96 rfl hP hK hZ hS) rfl rfl hl.1 rfl (lv_room (Nat.le_of_ble_eq_true rfl)) dX2_measure_94 ⟨Nat.zero_le _, Nat.zero_le _⟩) hS (fun H locs hP hS => ?_)
        refine lv_if_ne (tgt := 102) hx hb dX2_measure_97 (by decide) (fun b_22 => ?_) (fun b_22 => ?_)
        · have hf := if_f b_22 hf
          exact j102  k42 hk42 S_20 x1 _ _ _ hf hP hS (lv_sub hl [0, 1] rfl)
        · have hf := if_t b_22 hf
          refine lv_iconst (v := 0) hx hb dX2_measure_100 (by decide) ?_
          exact w_zret hx hb hr hlocks (fun h => h (by decide)) hP hS (rt_inv hf) dX2_measure_101
  have j42 : ∀ (fu : Nat), ∀ (S : St) (x1 : Int32) (H : Heap) (locs : List Loc) (ls : Array Slot), fixF (fun _ _ => none) (f_X2_measure_42 n) fu S x1 = some (r, S2) → PW D y ad S H → va_S (AA ad) s.heap H locs → lv_has ls 2 [(0, .ref (ad 21)), (1, .int x1)] → W p l e (headSpec wsX2_measure ({ frames := 3, cells := 0, slots := 0, locals := 74 })).room s m ([.ref (ad 21)] : List Value).toArray below meth c H locs 0 0 (QI below r S2 D y ad ([.ref (ad 21)] : List Value).toArray s) (F0 m 42 ls []) := by
    intro   fu
    induction fu with
    | zero => intro S x1 H locs ls hf hP hS hl; cases hf
    | succ fu ih => exact b42   (fixF (fun _ _ => none) (f_X2_measure_42 n) fu) ih
  have b9 : ∀ (k9 : St → Int32 → Option (Int32 × St)) (hk9 : ∀ (S : St) (x1 : Int32) (H : Heap) (locs : List Loc) (ls : Array Slot), k9 S x1 = some (r, S2) → PW D y ad S H → va_S (AA ad) s.heap H locs → lv_has ls 2 [(0, .ref (ad 21)), (1, .int x1)] → W p l e (headSpec wsX2_measure ({ frames := 3, cells := 0, slots := 0, locals := 74 })).room s m ([.ref (ad 21)] : List Value).toArray below meth c H locs 0 0 (QI below r S2 D y ad ([.ref (ad 21)] : List Value).toArray s) (F0 m 9 ls [])), ∀ (S : St) (x1 : Int32) (H : Heap) (locs : List Loc) (ls : Array Slot), f_X2_measure_9 n k9 S x1 = some (r, S2) → PW D y ad S H → va_S (AA ad) s.heap H locs → lv_has ls 2 [(0, .ref (ad 21)), (1, .int x1)] → W p l e (headSpec wsX2_measure ({ frames := 3, cells := 0, slots := 0, locals := 74 })).room s m ([.ref (ad 21)] : List Value).toArray below meth c H locs 0 0 (QI below r S2 D y ad ([.ref (ad 21)] : List Value).toArray s) (F0 m 9 ls []) := by
    intro  k9 hk9 S x1 H locs ls hf hP hS hl
    unfold f_X2_measure_9 at hf
    refine lv_iload_n hx hb dX2_measure_9 rfl (lv_at hl 1 rfl) ?_
    refine lv_bipush (v := (10)) hx hb dX2_measure_10 (by decide) ?_
    refine lv_icmp_ge (tgt := 40) hx hb dX2_measure_12 (by decide) (fun b_23 => ?_) (fun b_23 => ?_)
    · have hf := if_t b_23 hf
      refine lv_iconst (v := 0) hx hb dX2_measure_40 (by decide) ?_
      obtain ⟨x1_24, ex1_24, hf⟩ := bd_inv hf
      refine w_topI ex1_24 ?_
      refine lv_istore_n (lv' := [(1, .int x1_24), (0, .ref (ad 21))]) hx hb dX2_measure_41 rfl hl (by decide) rfl (fun ls hl => ?_)
      exact j42   n S x1_24 _ _ _ hf hP hS (lv_sub hl [1, 0] rfl)
    · have hf := if_f b_23 hf
      refine lv_aload_n hx hb dX2_measure_15 rfl (lv_at hl 0 rfl) ?_
      refine w_gR (z := 96) (C := RX2) (T := TX2) hx hb hts n2 hown hK hP t_21 rfl 2 (by decide) L12 rfl rfl dX2_measure_16 ?_
      refine lv_iload_n hx hb dX2_measure_19 rfl (lv_at hl 1 rfl) ?_
      refine lv_aload_n hx hb dX2_measure_20 rfl (lv_at hl 0 rfl) ?_
      refine w_gR (z := 22) (C := RX2) (T := TX2) hx hb hts n2 hown hK hP t_21 rfl 3 (by decide) L18 rfl rfl dX2_measure_21 ?_
      refine lv_iload_n hx hb dX2_measure_24 rfl (lv_at hl 1 rfl) ?_
      obtain ⟨g_25, hf⟩ := gd_inv hf
      refine w_iald hx hb hK hP t_22 g_25 dX2_measure_25 ?_
      obtain ⟨r_26, S_27, hc_28, hf⟩ := bo_inv hf
      refine w_ci (va_runV (As := [.int x1, .int (S.1 22 (x1).toNatClampNeg)]) (rest := []) ⟨hx, hb, hml, hown, hts⟩ (c_X1_equate l D y ad aL aU hI n 96 isD96 S x1 ((S.1 22 (x1).toNatClampNeg)) _ _ hc_28) (cwV 2 hts gX2_measure_X1_equate rfl rfl rfl (by decide +kernel) ⟨Nat.le_of_ble_eq_true rfl, Nat.le_of_ble_eq_true rfl⟩) (pwu_V t_96 rfl hP hK hZ hS) rfl rfl hl.1 rfl (lv_room (Nat.le_of_ble_eq_true rfl)) dX2_measure_26 ⟨Nat.zero_le _, Nat.zero_le _⟩) hS (fun H locs hP hS => ?_)
      refine lv_if_ne (tgt := 34) hx hb dX2_measure_29 (by decide) (fun b_29 => ?_) (fun b_29 => ?_)
      · have hf := if_f b_29 hf
        obtain ⟨x1_30, ex1_30, hf⟩ := bd_inv hf
        refine lv_iinc (v := x1_30) (lv' := [(1, .int x1_30), (0, .ref (ad 21))]) hx hb dX2_measure_34 hl (k := 1) rfl (by rw [ex1_30]; rfl) (by decide) rfl (fun ls hl => ?_)
        refine lv_goto (tgt := 9) hx hb dX2_measure_37 (by decide) ?_
        exact hk9 S_27 x1_30 _ _ _ hf hP hS (lv_sub hl [1, 0] rfl)
      · have hf := if_t b_29 hf
        refine lv_iconst (v := 0) hx hb dX2_measure_32 (by decide) ?_
        exact w_zret hx hb hr hlocks (fun h => h (by decide)) hP hS (rt_inv hf) dX2_measure_33
  have j9 : ∀ (fu : Nat), ∀ (S : St) (x1 : Int32) (H : Heap) (locs : List Loc) (ls : Array Slot), fixF (fun _ _ => none) (f_X2_measure_9 n) fu S x1 = some (r, S2) → PW D y ad S H → va_S (AA ad) s.heap H locs → lv_has ls 2 [(0, .ref (ad 21)), (1, .int x1)] → W p l e (headSpec wsX2_measure ({ frames := 3, cells := 0, slots := 0, locals := 74 })).room s m ([.ref (ad 21)] : List Value).toArray below meth c H locs 0 0 (QI below r S2 D y ad ([.ref (ad 21)] : List Value).toArray s) (F0 m 9 ls []) := by
    intro   fu
    induction fu with
    | zero => intro S x1 H locs ls hf hP hS hl; cases hf
    | succ fu ih => exact b9   (fixF (fun _ _ => none) (f_X2_measure_9 n) fu) ih
  unfold f_X2_measure at hf
  refine lv_aload_n hx hb dX2_measure_0 rfl (lv_at hl 0 rfl) ?_
  refine w_gR (z := 96) (C := RX2) (T := TX2) hx hb hts n2 hown hK hP t_21 rfl 2 (by decide) L12 rfl rfl dX2_measure_1 ?_
  obtain ⟨r_31, S_32, hc_33, hf⟩ := bo_inv hf
  refine w_cv (va_runV (As := []) (rest := []) ⟨hx, hb, hml, hown, hts⟩ (c_X1_clear l D y ad aL aU hI n 96 isD96 S  _ _ hc_33) (cwV 0 hts gX2_measure_X1_clear rfl rfl rfl (by decide +kernel) ⟨Nat.le_of_ble_eq_true rfl, Nat.le_of_ble_eq_true rfl⟩) (pwu_V t_96 rfl hP hK hZ hS) rfl rfl hl.1 rfl (lv_room (Nat.le_of_ble_eq_true rfl)) dX2_measure_4 ⟨Nat.zero_le _, Nat.zero_le _⟩) hS (fun H locs hP hS => ?_)
  refine lv_iconst (v := 0) hx hb dX2_measure_7 (by decide) ?_
  obtain ⟨x1_34, ex1_34, hf⟩ := bd_inv hf
  refine w_topI ex1_34 ?_
  refine lv_istore_n (lv' := [(1, .int x1_34), (0, .ref (ad 21))]) hx hb dX2_measure_8 rfl hl (by decide) rfl (fun ls hl => ?_)
  exact j9   n S_32 x1_34 _ _ _ hf hP hS (lv_sub hl [1, 0] rfl)
set_option maxHeartbeats 4000000 in
set_option maxRecDepth 100000 in
theorem c_X2_joinByDistances (l : Launch) (D : va_G) (y : y4) (ad : Nat → Nat) (aL aU : Nat) (hI : Inj ad) (n : Nat) (S : St) (r : Int32) (S2 : St) (hf : f_X2_joinByDistances n S = some (r, S2)) : KI l D y ad aL aU yX2_joinByDistances wsX2_joinByDistances ({ frames := 3, cells := 0, slots := 0, locals := 106 }) [.ref (ad 21)] S r S2 := by
  refine Met.ofW (cc := cX2_joinByDistances) (maxL := 4) (ret := (some .boolean)) (by decide) rfl ?_
  intro p e s m args below meth c s₁ B hml hv
  obtain ⟨rfl, hP, hK, hZ⟩ := hv
  have hx := B.exec
  have hb := B.bytes
  have hr := B.returns
  have hts := atoms_spec (ws := wsX2_joinByDistances) B.pre
  have hown : s.vm.findClass RX2 = some m.cls := findClass_of_methodNamed B.named
  have hlocks := B.notSynchronized
  have hS : va_S (AA ad) s.heap s.heap [] := va_S.rf
  have L12 := hts (.fieldLink RX2 12 "JoinedTheories$Exchanger" "distances" "LJoinedTheories$Distances;") (by decide +kernel)
  have L22 := hts (.fieldLink RX2 22 "JoinedTheories$Exchanger" "terms" "LJoinedTheories$Terms;") (by decide +kernel)
  have n2 : ∀ w ∈ wsX20, w ∈ wsX2_joinByDistances := by decide +kernel
  have hl := lv_entry ([.ref (ad 21)]) (n := 4) (Nat.le_of_ble_eq_true rfl)
  rw [lg_entry_eq]
  generalize (lg_sl ([.ref (ad 21)]) ++ List.replicate (4 - (lg_sl ([.ref (ad 21)])).length) Slot.unset).toArray = ls at hl ⊢
  have hl : lv_has ls 4 [(0, .ref (ad 21))] := hl
  have j53 : ∀ (x2 : Int32) (k4 : St → Int32 → Int32 → Option (Int32 × St)) (hk4 : ∀ (S : St) (x1 : Int32) (x2 : Int32) (H : Heap) (locs : List Loc) (ls : Array Slot), k4 S x1 x2 = some (r, S2) → PW D y ad S H → va_S (AA ad) s.heap H locs → lv_has ls 4 [(0, .ref (ad 21)), (1, .int x1), (2, .int x2)] → W p l e (headSpec wsX2_joinByDistances ({ frames := 3, cells := 0, slots := 0, locals := 106 })).room s m ([.ref (ad 21)] : List Value).toArray below meth c H locs 0 0 (QI below r S2 D y ad ([.ref (ad 21)] : List Value).toArray s) (F0 m 4 ls [])) (k19 : St → Int32 → Int32 → Option (Int32 × St)) (hk19 : ∀ (S : St) (x1 : Int32) (x3 : Int32) (H : Heap) (locs : List Loc) (ls : Array Slot), k19 S x1 x3 = some (r, S2) → PW D y ad S H → va_S (AA ad) s.heap H locs → lv_has ls 4 [(0, .ref (ad 21)), (1, .int x1), (2, .int x2), (3, .int x3)] → W p l e (headSpec wsX2_joinByDistances ({ frames := 3, cells := 0, slots := 0, locals := 106 })).room s m ([.ref (ad 21)] : List Value).toArray below meth c H locs 0 0 (QI below r S2 D y ad ([.ref (ad 21)] : List Value).toArray s) (F0 m 19 ls [])), ∀ (S : St) (x1 : Int32) (x3 : Int32) (H : Heap) (locs : List Loc) (ls : Array Slot), f_X2_joinByDistances_53 n x2 k4 k19 S x1 x3 = some (r, S2) → PW D y ad S H → va_S (AA ad) s.heap H locs → lv_has ls 4 [(0, .ref (ad 21)), (1, .int x1), (2, .int x2), (3, .int x3)] → W p l e (headSpec wsX2_joinByDistances ({ frames := 3, cells := 0, slots := 0, locals := 106 })).room s m ([.ref (ad 21)] : List Value).toArray below meth c H locs 0 0 (QI below r S2 D y ad ([.ref (ad 21)] : List Value).toArray s) (F0 m 53 ls []) := by
    intro x2 k4 hk4 k19 hk19 S x1 x3 H locs ls hf hP hS hl
    unfold f_X2_joinByDistances_53 at hf
    obtain ⟨x3_1, ex3_1, hf⟩ := bd_inv hf
    refine lv_iinc (v := x3_1) (lv' := [(3, .int x3_1), (0, .ref (ad 21)), (1, .int x1), (2, .int x2)]) hx hb dX2_joinByDistances_53 hl (k := 3) rfl (by rw [ex3_1]; rfl) (by decide) rfl (fun ls hl => ?_)
    refine lv_goto (tgt := 19) hx hb dX2_joinByDistances_56 (by decide) ?_
    exact hk19 S x1 x3_1 _ _ _ hf hP hS (lv_sub hl [1, 2, 3, 0] rfl)
  have b19 : ∀ (x2 : Int32) (k4 : St → Int32 → Int32 → Option (Int32 × St)) (hk4 : ∀ (S : St) (x1 : Int32) (x2 : Int32) (H : Heap) (locs : List Loc) (ls : Array Slot), k4 S x1 x2 = some (r, S2) → PW D y ad S H → va_S (AA ad) s.heap H locs → lv_has ls 4 [(0, .ref (ad 21)), (1, .int x1), (2, .int x2)] → W p l e (headSpec wsX2_joinByDistances ({ frames := 3, cells := 0, slots := 0, locals := 106 })).room s m ([.ref (ad 21)] : List Value).toArray below meth c H locs 0 0 (QI below r S2 D y ad ([.ref (ad 21)] : List Value).toArray s) (F0 m 4 ls [])) (k19 : St → Int32 → Int32 → Option (Int32 × St)) (hk19 : ∀ (S : St) (x1 : Int32) (x3 : Int32) (H : Heap) (locs : List Loc) (ls : Array Slot), k19 S x1 x3 = some (r, S2) → PW D y ad S H → va_S (AA ad) s.heap H locs → lv_has ls 4 [(0, .ref (ad 21)), (1, .int x1), (2, .int x2), (3, .int x3)] → W p l e (headSpec wsX2_joinByDistances ({ frames := 3, cells := 0, slots := 0, locals := 106 })).room s m ([.ref (ad 21)] : List Value).toArray below meth c H locs 0 0 (QI below r S2 D y ad ([.ref (ad 21)] : List Value).toArray s) (F0 m 19 ls [])), ∀ (S : St) (x1 : Int32) (x3 : Int32) (H : Heap) (locs : List Loc) (ls : Array Slot), f_X2_joinByDistances_19 n x2 k4 k19 S x1 x3 = some (r, S2) → PW D y ad S H → va_S (AA ad) s.heap H locs → lv_has ls 4 [(0, .ref (ad 21)), (1, .int x1), (2, .int x2), (3, .int x3)] → W p l e (headSpec wsX2_joinByDistances ({ frames := 3, cells := 0, slots := 0, locals := 106 })).room s m ([.ref (ad 21)] : List Value).toArray below meth c H locs 0 0 (QI below r S2 D y ad ([.ref (ad 21)] : List Value).toArray s) (F0 m 19 ls []) := by
    intro x2 k4 hk4 k19 hk19 S x1 x3 H locs ls hf hP hS hl
    unfold f_X2_joinByDistances_19 at hf
    refine lv_iload_n hx hb dX2_joinByDistances_19 rfl (lv_at hl 3 rfl) ?_
    refine lv_aload_n hx hb dX2_joinByDistances_20 rfl (lv_at hl 0 rfl) ?_
    refine w_gR (z := 6) (C := RX2) (T := TX2) hx hb hts n2 hown hK hP t_21 rfl 0 (by decide) L22 rfl rfl dX2_joinByDistances_21 ?_
    obtain ⟨r_2, S_3, hc_4, hf⟩ := bo_inv hf
    refine w_ci (va_runV (As := []) (rest := [.int x3]) ⟨hx, hb, hml, hown, hts⟩ (c_X7_size l D y ad aL aU hI n 6 isT6 S  _ _ hc_4) (cwV 0 hts gX2_joinByDistances_X7_size rfl rfl rfl (by decide +kernel) ⟨Nat.le_of_ble_eq_true rfl, Nat.le_of_ble_eq_true rfl⟩) (pwu_V t_6 rfl hP hK hZ hS) rfl rfl hl.1 rfl (lv_room (Nat.le_of_ble_eq_true rfl)) dX2_joinByDistances_24 ⟨Nat.zero_le _, Nat.zero_le _⟩) hS (fun H locs hP hS => ?_)
    refine lv_icmp_ge (tgt := 59) hx hb dX2_joinByDistances_27 (by decide) (fun b_5 => ?_) (fun b_5 => ?_)
    · have hf := if_t b_5 hf
      obtain ⟨x2_6, ex2_6, hf⟩ := bd_inv hf
      refine lv_iinc (v := x2_6) (lv' := [(2, .int x2_6), (0, .ref (ad 21)), (1, .int x1), (3, .int x3)]) hx hb dX2_joinByDistances_59 hl (k := 2) rfl (by rw [ex2_6]; rfl) (by decide) rfl (fun ls hl => ?_)
      refine lv_goto (tgt := 4) hx hb dX2_joinByDistances_62 (by decide) ?_
      exact hk4 S_3 x1 x2_6 _ _ _ hf hP hS (lv_sub hl [1, 2, 0] rfl)
    · have hf := if_f b_5 hf
      refine lv_aload_n hx hb dX2_joinByDistances_30 rfl (lv_at hl 0 rfl) ?_
      refine w_gR (z := 96) (C := RX2) (T := TX2) hx hb hts n2 hown hK hP t_21 rfl 2 (by decide) L12 rfl rfl dX2_joinByDistances_31 ?_
      refine lv_iload_n hx hb dX2_joinByDistances_34 rfl (lv_at hl 2 rfl) ?_
      refine lv_iload_n hx hb dX2_joinByDistances_35 rfl (lv_at hl 3 rfl) ?_
      obtain ⟨r_7, S_8, hc_9, hf⟩ := bo_inv hf
      refine w_ci (va_runV (As := [.int x2, .int x3]) (rest := []) ⟨hx, hb, hml, hown, hts⟩ (c_X1_areEqual l D y ad aL aU hI n 96 isD96 S_3 x2 x3 _ _ hc_9) (cwV 2 hts gX2_joinByDistances_X1_areEqual rfl rfl rfl (by decide +kernel) ⟨Nat.le_of_ble_eq_true rfl, Nat.le_of_ble_eq_true rfl⟩) (pwu_V t_96 rfl hP hK hZ hS) rfl rfl hl.1 rfl (lv_room (Nat.le_of_ble_eq_true rfl)) dX2_joinByDistances_36 ⟨Nat.zero_le _, Nat.zero_le _⟩) hS (fun H locs hP hS => ?_)
      refine lv_if_eq (tgt := 53) hx hb dX2_joinByDistances_39 (by decide) (fun b_10 => ?_) (fun b_10 => ?_)
      · have hf := if_t b_10 hf
        exact j53 x2 k4 hk4 k19 hk19 S_8 x1 x3 _ _ _ hf hP hS (lv_sub hl [0, 1, 2, 3] rfl)
      · have hf := if_f b_10 hf
        refine lv_aload_n hx hb dX2_joinByDistances_42 rfl (lv_at hl 0 rfl) ?_
        refine lv_iload_n hx hb dX2_joinByDistances_43 rfl (lv_at hl 2 rfl) ?_
        refine lv_iload_n hx hb dX2_joinByDistances_44 rfl (lv_at hl 3 rfl) ?_
        obtain ⟨r_11, S_12, hc_13, hf⟩ := bo_inv hf
        refine w_ci (va_runV (As := [.int x2, .int x3]) (rest := []) ⟨hx, hb, hml, hown, hts⟩ (c_X2_join l D y ad aL aU hI n S_8 x2 x3 _ _ hc_13) (cwV 2 hts gX2_joinByDistances_X2_join rfl rfl rfl (by decide +kernel) ⟨Nat.le_of_ble_eq_true rfl, Nat.le_of_ble_eq_true rfl⟩) (pwu_V t_21 rfl hP hK hZ hS) rfl rfl hl.1 rfl (lv_room (Nat.le_of_ble_eq_true rfl)) dX2_joinByDistances_45 ⟨Nat.zero_le _, Nat.zero_le _⟩) hS (fun H locs hP hS => ?_)
        refine lv_if_eq (tgt := 53) hx hb dX2_joinByDistances_48 (by decide) (fun b_14 => ?_) (fun b_14 => ?_)
        · have hf := if_t b_14 hf
          exact j53 x2 k4 hk4 k19 hk19 S_12 x1 x3 _ _ _ hf hP hS (lv_sub hl [0, 1, 2, 3] rfl)
        · have hf := if_f b_14 hf
          refine lv_iconst (v := 1) hx hb dX2_joinByDistances_51 (by decide) ?_
          obtain ⟨x1_15, ex1_15, hf⟩ := bd_inv hf
          refine w_topI ex1_15 ?_
          refine lv_istore_n (lv' := [(1, .int x1_15), (0, .ref (ad 21)), (2, .int x2), (3, .int x3)]) hx hb dX2_joinByDistances_52 rfl hl (by decide) rfl (fun ls hl => ?_)
          exact j53 x2 k4 hk4 k19 hk19 S_12 x1_15 x3 _ _ _ hf hP hS (lv_sub hl [1, 0, 2, 3] rfl)
  have j19 : ∀ (x2 : Int32) (k4 : St → Int32 → Int32 → Option (Int32 × St)) (hk4 : ∀ (S : St) (x1 : Int32) (x2 : Int32) (H : Heap) (locs : List Loc) (ls : Array Slot), k4 S x1 x2 = some (r, S2) → PW D y ad S H → va_S (AA ad) s.heap H locs → lv_has ls 4 [(0, .ref (ad 21)), (1, .int x1), (2, .int x2)] → W p l e (headSpec wsX2_joinByDistances ({ frames := 3, cells := 0, slots := 0, locals := 106 })).room s m ([.ref (ad 21)] : List Value).toArray below meth c H locs 0 0 (QI below r S2 D y ad ([.ref (ad 21)] : List Value).toArray s) (F0 m 4 ls [])) (fu : Nat), ∀ (S : St) (x1 : Int32) (x3 : Int32) (H : Heap) (locs : List Loc) (ls : Array Slot), fixF (fun _ _ _ => none) (f_X2_joinByDistances_19 n x2 k4) fu S x1 x3 = some (r, S2) → PW D y ad S H → va_S (AA ad) s.heap H locs → lv_has ls 4 [(0, .ref (ad 21)), (1, .int x1), (2, .int x2), (3, .int x3)] → W p l e (headSpec wsX2_joinByDistances ({ frames := 3, cells := 0, slots := 0, locals := 106 })).room s m ([.ref (ad 21)] : List Value).toArray below meth c H locs 0 0 (QI below r S2 D y ad ([.ref (ad 21)] : List Value).toArray s) (F0 m 19 ls []) := by
    intro x2 k4 hk4 fu
    induction fu with
    | zero => intro S x1 x3 H locs ls hf hP hS hl; cases hf
    | succ fu ih => exact b19 x2 k4 hk4 (fixF (fun _ _ _ => none) (f_X2_joinByDistances_19 n x2 k4) fu) ih
  have b4 : ∀ (k4 : St → Int32 → Int32 → Option (Int32 × St)) (hk4 : ∀ (S : St) (x1 : Int32) (x2 : Int32) (H : Heap) (locs : List Loc) (ls : Array Slot), k4 S x1 x2 = some (r, S2) → PW D y ad S H → va_S (AA ad) s.heap H locs → lv_has ls 4 [(0, .ref (ad 21)), (1, .int x1), (2, .int x2)] → W p l e (headSpec wsX2_joinByDistances ({ frames := 3, cells := 0, slots := 0, locals := 106 })).room s m ([.ref (ad 21)] : List Value).toArray below meth c H locs 0 0 (QI below r S2 D y ad ([.ref (ad 21)] : List Value).toArray s) (F0 m 4 ls [])), ∀ (S : St) (x1 : Int32) (x2 : Int32) (H : Heap) (locs : List Loc) (ls : Array Slot), f_X2_joinByDistances_4 n k4 S x1 x2 = some (r, S2) → PW D y ad S H → va_S (AA ad) s.heap H locs → lv_has ls 4 [(0, .ref (ad 21)), (1, .int x1), (2, .int x2)] → W p l e (headSpec wsX2_joinByDistances ({ frames := 3, cells := 0, slots := 0, locals := 106 })).room s m ([.ref (ad 21)] : List Value).toArray below meth c H locs 0 0 (QI below r S2 D y ad ([.ref (ad 21)] : List Value).toArray s) (F0 m 4 ls []) := by
    intro  k4 hk4 S x1 x2 H locs ls hf hP hS hl
    unfold f_X2_joinByDistances_4 at hf
    refine lv_iload_n hx hb dX2_joinByDistances_4 rfl (lv_at hl 2 rfl) ?_
    refine lv_aload_n hx hb dX2_joinByDistances_5 rfl (lv_at hl 0 rfl) ?_
    refine w_gR (z := 6) (C := RX2) (T := TX2) hx hb hts n2 hown hK hP t_21 rfl 0 (by decide) L22 rfl rfl dX2_joinByDistances_6 ?_
    obtain ⟨r_16, S_17, hc_18, hf⟩ := bo_inv hf
    refine w_ci (va_runV (As := []) (rest := [.int x2]) ⟨hx, hb, hml, hown, hts⟩ (c_X7_size l D y ad aL aU hI n 6 isT6 S  _ _ hc_18) (cwV 0 hts gX2_joinByDistances_X7_size rfl rfl rfl (by decide +kernel) ⟨Nat.le_of_ble_eq_true rfl, Nat.le_of_ble_eq_true rfl⟩) (pwu_V t_6 rfl hP hK hZ hS) rfl rfl hl.1 rfl (lv_room (Nat.le_of_ble_eq_true rfl)) dX2_joinByDistances_9 ⟨Nat.zero_le _, Nat.zero_le _⟩) hS (fun H locs hP hS => ?_)
    refine lv_icmp_ge (tgt := 65) hx hb dX2_joinByDistances_12 (by decide) (fun b_19 => ?_) (fun b_19 => ?_)
    · have hf := if_t b_19 hf
      refine lv_iload_n hx hb dX2_joinByDistances_65 rfl (lv_at hl 1 rfl) ?_
      obtain ⟨g_20, hf⟩ := gd_inv hf
      exact w_zret hx hb hr hlocks g_20 hP hS (rt_inv hf) dX2_joinByDistances_66
    · have hf := if_f b_19 hf
      refine lv_iload_n hx hb dX2_joinByDistances_15 rfl (lv_at hl 2 rfl) ?_
      refine lv_iconst (v := 1) hx hb dX2_joinByDistances_16 (by decide) ?_
      refine lv_iadd hx hb dX2_joinByDistances_17 ?_
      obtain ⟨x3_21, ex3_21, hf⟩ := bd_inv hf
      refine w_topI ex3_21 ?_
      refine lv_istore_n (lv' := [(3, .int x3_21), (0, .ref (ad 21)), (1, .int x1), (2, .int x2)]) hx hb dX2_joinByDistances_18 rfl hl (by decide) rfl (fun ls hl => ?_)
      exact j19 x2 k4 hk4 n S_17 x1 x3_21 _ _ _ hf hP hS (lv_sub hl [1, 2, 3, 0] rfl)
  have j4 : ∀ (fu : Nat), ∀ (S : St) (x1 : Int32) (x2 : Int32) (H : Heap) (locs : List Loc) (ls : Array Slot), fixF (fun _ _ _ => none) (f_X2_joinByDistances_4 n) fu S x1 x2 = some (r, S2) → PW D y ad S H → va_S (AA ad) s.heap H locs → lv_has ls 4 [(0, .ref (ad 21)), (1, .int x1), (2, .int x2)] → W p l e (headSpec wsX2_joinByDistances ({ frames := 3, cells := 0, slots := 0, locals := 106 })).room s m ([.ref (ad 21)] : List Value).toArray below meth c H locs 0 0 (QI below r S2 D y ad ([.ref (ad 21)] : List Value).toArray s) (F0 m 4 ls []) := by
    intro   fu
    induction fu with
    | zero => intro S x1 x2 H locs ls hf hP hS hl; cases hf
    | succ fu ih => exact b4   (fixF (fun _ _ _ => none) (f_X2_joinByDistances_4 n) fu) ih
  unfold f_X2_joinByDistances at hf
  refine lv_iconst (v := 0) hx hb dX2_joinByDistances_0 (by decide) ?_
  obtain ⟨x1_22, ex1_22, hf⟩ := bd_inv hf
  refine w_topI ex1_22 ?_
  refine lv_istore_n (lv' := [(1, .int x1_22), (0, .ref (ad 21))]) hx hb dX2_joinByDistances_1 rfl hl (by decide) rfl (fun ls hl => ?_)
  refine lv_iconst (v := 0) hx hb dX2_joinByDistances_2 (by decide) ?_
  obtain ⟨x2_23, ex2_23, hf⟩ := bd_inv hf
  refine w_topI ex2_23 ?_
  refine lv_istore_n (lv' := [(2, .int x2_23), (1, .int x1_22), (0, .ref (ad 21))]) hx hb dX2_joinByDistances_3 rfl hl (by decide) rfl (fun ls hl => ?_)
  exact j4   n S x1_22 x2_23 _ _ _ hf hP hS (lv_sub hl [2, 1, 0] rfl)
set_option maxHeartbeats 4000000 in
set_option maxRecDepth 100000 in
theorem c_X2_violatesInequality (l : Launch) (D : va_G) (y : y4) (ad : Nat → Nat) (aL aU : Nat) (hI : Inj ad) (n : Nat) (S : St) (r : Int32) (S2 : St) (hf : f_X2_violatesInequality n S = some (r, S2)) : KI l D y ad aL aU yX2_violatesInequality wsX2_violatesInequality ({ frames := 3, cells := 0, slots := 0, locals := 62 }) [.ref (ad 21)] S r S2 := by
  refine Met.ofW (cc := cX2_violatesInequality) (maxL := 2) (ret := (some .boolean)) (by decide) rfl ?_
  intro p e s m args below meth c s₁ B hml hv
  obtain ⟨rfl, hP, hK, hZ⟩ := hv
  have hx := B.exec
  have hb := B.bytes
  have hr := B.returns
  have hts := atoms_spec (ws := wsX2_violatesInequality) B.pre
  have hown : s.vm.findClass RX2 = some m.cls := findClass_of_methodNamed B.named
  have hlocks := B.notSynchronized
  have hS : va_S (AA ad) s.heap s.heap [] := va_S.rf
  have L26 := hts (.fieldLink RX2 26 "JoinedTheories$Exchanger" "literals" "LJoinedTheories$Literals;") (by decide +kernel)
  have n2 : ∀ w ∈ wsX20, w ∈ wsX2_violatesInequality := by decide +kernel
  have hl := lv_entry ([.ref (ad 21)]) (n := 2) (Nat.le_of_ble_eq_true rfl)
  rw [lg_entry_eq]
  generalize (lg_sl ([.ref (ad 21)]) ++ List.replicate (2 - (lg_sl ([.ref (ad 21)])).length) Slot.unset).toArray = ls at hl ⊢
  have hl : lv_has ls 2 [(0, .ref (ad 21))] := hl
  have j54 : ∀ (k2 : St → Int32 → Option (Int32 × St)) (hk2 : ∀ (S : St) (x1 : Int32) (H : Heap) (locs : List Loc) (ls : Array Slot), k2 S x1 = some (r, S2) → PW D y ad S H → va_S (AA ad) s.heap H locs → lv_has ls 2 [(0, .ref (ad 21)), (1, .int x1)] → W p l e (headSpec wsX2_violatesInequality ({ frames := 3, cells := 0, slots := 0, locals := 62 })).room s m ([.ref (ad 21)] : List Value).toArray below meth c H locs 0 0 (QI below r S2 D y ad ([.ref (ad 21)] : List Value).toArray s) (F0 m 2 ls [])), ∀ (S : St) (x1 : Int32) (H : Heap) (locs : List Loc) (ls : Array Slot), f_X2_violatesInequality_54 n k2 S x1 = some (r, S2) → PW D y ad S H → va_S (AA ad) s.heap H locs → lv_has ls 2 [(0, .ref (ad 21)), (1, .int x1)] → W p l e (headSpec wsX2_violatesInequality ({ frames := 3, cells := 0, slots := 0, locals := 62 })).room s m ([.ref (ad 21)] : List Value).toArray below meth c H locs 0 0 (QI below r S2 D y ad ([.ref (ad 21)] : List Value).toArray s) (F0 m 54 ls []) := by
    intro  k2 hk2 S x1 H locs ls hf hP hS hl
    unfold f_X2_violatesInequality_54 at hf
    obtain ⟨x1_1, ex1_1, hf⟩ := bd_inv hf
    refine lv_iinc (v := x1_1) (lv' := [(1, .int x1_1), (0, .ref (ad 21))]) hx hb dX2_violatesInequality_54 hl (k := 1) rfl (by rw [ex1_1]; rfl) (by decide) rfl (fun ls hl => ?_)
    refine lv_goto (tgt := 2) hx hb dX2_violatesInequality_57 (by decide) ?_
    exact hk2 S x1_1 _ _ _ hf hP hS (lv_sub hl [1, 0] rfl)
  have b2 : ∀ (k2 : St → Int32 → Option (Int32 × St)) (hk2 : ∀ (S : St) (x1 : Int32) (H : Heap) (locs : List Loc) (ls : Array Slot), k2 S x1 = some (r, S2) → PW D y ad S H → va_S (AA ad) s.heap H locs → lv_has ls 2 [(0, .ref (ad 21)), (1, .int x1)] → W p l e (headSpec wsX2_violatesInequality ({ frames := 3, cells := 0, slots := 0, locals := 62 })).room s m ([.ref (ad 21)] : List Value).toArray below meth c H locs 0 0 (QI below r S2 D y ad ([.ref (ad 21)] : List Value).toArray s) (F0 m 2 ls [])), ∀ (S : St) (x1 : Int32) (H : Heap) (locs : List Loc) (ls : Array Slot), f_X2_violatesInequality_2 n k2 S x1 = some (r, S2) → PW D y ad S H → va_S (AA ad) s.heap H locs → lv_has ls 2 [(0, .ref (ad 21)), (1, .int x1)] → W p l e (headSpec wsX2_violatesInequality ({ frames := 3, cells := 0, slots := 0, locals := 62 })).room s m ([.ref (ad 21)] : List Value).toArray below meth c H locs 0 0 (QI below r S2 D y ad ([.ref (ad 21)] : List Value).toArray s) (F0 m 2 ls []) := by
    intro  k2 hk2 S x1 H locs ls hf hP hS hl
    unfold f_X2_violatesInequality_2 at hf
    refine lv_iload_n hx hb dX2_violatesInequality_2 rfl (lv_at hl 1 rfl) ?_
    refine lv_aload_n hx hb dX2_violatesInequality_3 rfl (lv_at hl 0 rfl) ?_
    refine w_gR (z := 16) (C := RX2) (T := TX2) hx hb hts n2 hown hK hP t_21 rfl 1 (by decide) L26 rfl rfl dX2_violatesInequality_4 ?_
    obtain ⟨r_2, S_3, hc_4, hf⟩ := bo_inv hf
    refine w_ci (va_runV (As := []) (rest := [.int x1]) ⟨hx, hb, hml, hown, hts⟩ (c_X3_size l D y ad aL aU hI n S  _ _ hc_4) (cwV 0 hts gX2_violatesInequality_X3_size rfl rfl rfl (by decide +kernel) ⟨Nat.le_of_ble_eq_true rfl, Nat.le_of_ble_eq_true rfl⟩) (pwu_V t_16 rfl hP hK hZ hS) rfl rfl hl.1 rfl (lv_room (Nat.le_of_ble_eq_true rfl)) dX2_violatesInequality_7 ⟨Nat.zero_le _, Nat.zero_le _⟩) hS (fun H locs hP hS => ?_)
    refine lv_icmp_ge (tgt := 60) hx hb dX2_violatesInequality_10 (by decide) (fun b_5 => ?_) (fun b_5 => ?_)
    · have hf := if_t b_5 hf
      refine lv_iconst (v := 0) hx hb dX2_violatesInequality_60 (by decide) ?_
      exact w_zret hx hb hr hlocks (fun h => h (by decide)) hP hS (rt_inv hf) dX2_violatesInequality_61
    · have hf := if_f b_5 hf
      refine lv_aload_n hx hb dX2_violatesInequality_13 rfl (lv_at hl 0 rfl) ?_
      refine w_gR (z := 16) (C := RX2) (T := TX2) hx hb hts n2 hown hK hP t_21 rfl 1 (by decide) L26 rfl rfl dX2_violatesInequality_14 ?_
      refine lv_iload_n hx hb dX2_violatesInequality_17 rfl (lv_at hl 1 rfl) ?_
      obtain ⟨r_6, S_7, hc_8, hf⟩ := bo_inv hf
      refine w_ci (va_runV (As := [.int x1]) (rest := []) ⟨hx, hb, hml, hown, hts⟩ (c_X3_kindOf l D y ad aL aU hI n S_3 x1 _ _ hc_8) (cwV 1 hts gX2_violatesInequality_X3_kindOf rfl rfl rfl (by decide +kernel) ⟨Nat.le_of_ble_eq_true rfl, Nat.le_of_ble_eq_true rfl⟩) (pwu_V t_16 rfl hP hK hZ hS) rfl rfl hl.1 rfl (lv_room (Nat.le_of_ble_eq_true rfl)) dX2_violatesInequality_18 ⟨Nat.zero_le _, Nat.zero_le _⟩) hS (fun H locs hP hS => ?_)
      refine lv_iconst (v := 1) hx hb dX2_violatesInequality_21 (by decide) ?_
      refine lv_icmp_ne (tgt := 54) hx hb dX2_violatesInequality_22 (by decide) (fun b_9 => ?_) (fun b_9 => ?_)
      · have hf := if_f b_9 hf
        exact j54  k2 hk2 S_7 x1 _ _ _ hf hP hS (lv_sub hl [0, 1] rfl)
      · have hf := if_t b_9 hf
        refine lv_aload_n hx hb dX2_violatesInequality_25 rfl (lv_at hl 0 rfl) ?_
        refine lv_aload_n hx hb dX2_violatesInequality_26 rfl (lv_at hl 0 rfl) ?_
        refine w_gR (z := 16) (C := RX2) (T := TX2) hx hb hts n2 hown hK hP t_21 rfl 1 (by decide) L26 rfl rfl dX2_violatesInequality_27 ?_
        refine lv_iload_n hx hb dX2_violatesInequality_30 rfl (lv_at hl 1 rfl) ?_
        obtain ⟨r_10, S_11, hc_12, hf⟩ := bo_inv hf
        refine w_ci (va_runV (As := [.int x1]) (rest := [.ref (ad 21)]) ⟨hx, hb, hml, hown, hts⟩ (c_X3_leftOf l D y ad aL aU hI n S_7 x1 _ _ hc_12) (cwV 1 hts gX2_violatesInequality_X3_leftOf rfl rfl rfl (by decide +kernel) ⟨Nat.le_of_ble_eq_true rfl, Nat.le_of_ble_eq_true rfl⟩) (pwu_V t_16 rfl hP hK hZ hS) rfl rfl hl.1 rfl (lv_room (Nat.le_of_ble_eq_true rfl)) dX2_violatesInequality_31 ⟨Nat.zero_le _, Nat.zero_le _⟩) hS (fun H locs hP hS => ?_)
        obtain ⟨r_13, S_14, hc_15, hf⟩ := bo_inv hf
        refine w_ci (va_runV (As := [.int r_10]) (rest := []) ⟨hx, hb, hml, hown, hts⟩ (c_X2_smallestSame l D y ad aL aU hI n S_11 r_10 _ _ hc_15) (cwV 1 hts gX2_violatesInequality_X2_smallestSame rfl rfl rfl (by decide +kernel) ⟨Nat.le_of_ble_eq_true rfl, Nat.le_of_ble_eq_true rfl⟩) (pwu_V t_21 rfl hP hK hZ hS) rfl rfl hl.1 rfl (lv_room (Nat.le_of_ble_eq_true rfl)) dX2_violatesInequality_34 ⟨Nat.zero_le _, Nat.zero_le _⟩) hS (fun H locs hP hS => ?_)
        refine lv_aload_n hx hb dX2_violatesInequality_37 rfl (lv_at hl 0 rfl) ?_
        refine lv_aload_n hx hb dX2_violatesInequality_38 rfl (lv_at hl 0 rfl) ?_
        refine w_gR (z := 16) (C := RX2) (T := TX2) hx hb hts n2 hown hK hP t_21 rfl 1 (by decide) L26 rfl rfl dX2_violatesInequality_39 ?_
        refine lv_iload_n hx hb dX2_violatesInequality_42 rfl (lv_at hl 1 rfl) ?_
        obtain ⟨r_16, S_17, hc_18, hf⟩ := bo_inv hf
        refine w_ci (va_runV (As := [.int x1]) (rest := [.ref (ad 21), .int r_13]) ⟨hx, hb, hml, hown, hts⟩ (c_X3_rightOf l D y ad aL aU hI n S_14 x1 _ _ hc_18) (cwV 1 hts gX2_violatesInequality_X3_rightOf rfl rfl rfl (by decide +kernel) ⟨Nat.le_of_ble_eq_true rfl, Nat.le_of_ble_eq_true rfl⟩) (pwu_V t_16 rfl hP hK hZ hS) rfl rfl hl.1 rfl (lv_room (Nat.le_of_ble_eq_true rfl)) dX2_violatesInequality_43 ⟨Nat.zero_le _, Nat.zero_le _⟩) hS (fun H locs hP hS => ?_)
        obtain ⟨r_19, S_20, hc_21, hf⟩ := bo_inv hf
        refine w_ci (va_runV (As := [.int r_16]) (rest := [.int r_13]) ⟨hx, hb, hml, hown, hts⟩ (c_X2_smallestSame l D y ad aL aU hI n S_17 r_16 _ _ hc_21) (cwV 1 hts gX2_violatesInequality_X2_smallestSame rfl rfl rfl (by decide +kernel) ⟨Nat.le_of_ble_eq_true rfl, Nat.le_of_ble_eq_true rfl⟩) (pwu_V t_21 rfl hP hK hZ hS) rfl rfl hl.1 rfl (lv_room (Nat.le_of_ble_eq_true rfl)) dX2_violatesInequality_46 ⟨Nat.zero_le _, Nat.zero_le _⟩) hS (fun H locs hP hS => ?_)
        refine lv_icmp_ne (tgt := 54) hx hb dX2_violatesInequality_49 (by decide) (fun b_22 => ?_) (fun b_22 => ?_)
        · have hf := if_f b_22 hf
          exact j54  k2 hk2 S_20 x1 _ _ _ hf hP hS (lv_sub hl [0, 1] rfl)
        · have hf := if_t b_22 hf
          refine lv_iconst (v := 1) hx hb dX2_violatesInequality_52 (by decide) ?_
          exact w_zret hx hb hr hlocks (fun h => h (by decide)) hP hS (rt_inv hf) dX2_violatesInequality_53
  have j2 : ∀ (fu : Nat), ∀ (S : St) (x1 : Int32) (H : Heap) (locs : List Loc) (ls : Array Slot), fixF (fun _ _ => none) (f_X2_violatesInequality_2 n) fu S x1 = some (r, S2) → PW D y ad S H → va_S (AA ad) s.heap H locs → lv_has ls 2 [(0, .ref (ad 21)), (1, .int x1)] → W p l e (headSpec wsX2_violatesInequality ({ frames := 3, cells := 0, slots := 0, locals := 62 })).room s m ([.ref (ad 21)] : List Value).toArray below meth c H locs 0 0 (QI below r S2 D y ad ([.ref (ad 21)] : List Value).toArray s) (F0 m 2 ls []) := by
    intro   fu
    induction fu with
    | zero => intro S x1 H locs ls hf hP hS hl; cases hf
    | succ fu ih => exact b2   (fixF (fun _ _ => none) (f_X2_violatesInequality_2 n) fu) ih
  unfold f_X2_violatesInequality at hf
  refine lv_iconst (v := 0) hx hb dX2_violatesInequality_0 (by decide) ?_
  obtain ⟨x1_23, ex1_23, hf⟩ := bd_inv hf
  refine w_topI ex1_23 ?_
  refine lv_istore_n (lv' := [(1, .int x1_23), (0, .ref (ad 21))]) hx hb dX2_violatesInequality_1 rfl hl (by decide) rfl (fun ls hl => ?_)
  exact j2   n S x1_23 _ _ _ hf hP hS (lv_sub hl [1, 0] rfl)
set_option maxHeartbeats 4000000 in
set_option maxRecDepth 100000 in
theorem c_X2_run (l : Launch) (D : va_G) (y : y4) (ad : Nat → Nat) (aL aU : Nat) (hI : Inj ad) (n : Nat) (S : St) (r : Unit) (S2 : St) (hf : f_X2_run n S = some (r, S2)) : KV l D y ad aL aU yX2_run wsX2_run ({ frames := 5, cells := 0, slots := 0, locals := 130 }) [.ref (ad 21)] S r S2 := by
  refine Met.ofW (cc := cX2_run) (maxL := 3) (ret := none) (by decide) rfl ?_
  intro p e s m args below meth c s₁ B hml hv
  obtain ⟨rfl, hP, hK, hZ⟩ := hv
  have hx := B.exec
  have hb := B.bytes
  have hr := B.returns
  have hts := atoms_spec (ws := wsX2_run) B.pre
  have hown : s.vm.findClass RX2 = some m.cls := findClass_of_methodNamed B.named
  have hlocks := B.notSynchronized
  have hS : va_S (AA ad) s.heap s.heap [] := va_S.rf
  have L30 := hts (.fieldLink RX2 30 "JoinedTheories$Exchanger" "rounds" "I") (by decide +kernel)
  have L34 := hts (.fieldLink RX2 34 "JoinedTheories$Exchanger" "conflict" "Z") (by decide +kernel)
  have n2 : ∀ w ∈ wsX20, w ∈ wsX2_run := by decide +kernel
  have hl := lv_entry ([.ref (ad 21)]) (n := 3) (Nat.le_of_ble_eq_true rfl)
  rw [lg_entry_eq]
  generalize (lg_sl ([.ref (ad 21)]) ++ List.replicate (3 - (lg_sl ([.ref (ad 21)])).length) Slot.unset).toArray = ls at hl ⊢
  have hl : lv_has ls 3 [(0, .ref (ad 21))] := hl
  have j51 : ∀ (S : St) (H : Heap) (locs : List Loc) (ls : Array Slot), f_X2_run_51 n S = some (r, S2) → PW D y ad S H → va_S (AA ad) s.heap H locs → lv_has ls 3 [(0, .ref (ad 21))] → W p l e (headSpec wsX2_run ({ frames := 5, cells := 0, slots := 0, locals := 130 })).room s m ([.ref (ad 21)] : List Value).toArray below meth c H locs 0 0 (QV below r S2 D y ad ([.ref (ad 21)] : List Value).toArray s) (F0 m 51 ls []) := by
    intro  S H locs ls hf hP hS hl
    unfold f_X2_run_51 at hf
    refine lv_aload_n hx hb dX2_run_51 rfl (lv_at hl 0 rfl) ?_
    refine lv_aload_n hx hb dX2_run_52 rfl (lv_at hl 0 rfl) ?_
    obtain ⟨r_1, S_2, hc_3, hf⟩ := bo_inv hf
    refine w_ci (va_runV (As := []) (rest := [.ref (ad 21)]) ⟨hx, hb, hml, hown, hts⟩ (c_X2_violatesInequality l D y ad aL aU hI n S  _ _ hc_3) (cwV 0 hts gX2_run_X2_violatesInequality rfl rfl rfl (by decide +kernel) ⟨Nat.le_of_ble_eq_true rfl, Nat.le_of_ble_eq_true rfl⟩) (pwu_V t_21 rfl hP hK hZ hS) rfl rfl hl.1 rfl (lv_room (Nat.le_of_ble_eq_true rfl)) dX2_run_53 ⟨Nat.zero_le _, Nat.zero_le _⟩) hS (fun H locs hP hS => ?_)
    obtain ⟨g_5, hf⟩ := gd_inv hf
    obtain ⟨S_4, eS_4, hf⟩ := bd_inv hf
    refine w_pI (ty := .boolean) (C := RX2) (T := TX2) hx hb hts n2 tyX2 tyX2_ok nmX2 hown hK hI hP hS t_21 rfl 5 (by decide) L34 rfl rfl rfl (zok g_5) dX2_run_56 (fun H locs hP hS => ?_)
    rw [← eS_4] at hP
    exact w_vret hx hb hr hlocks hP hS (rt_inv hf) dX2_run_59
  have b8 : ∀ (k8 : St → Int32 → Int32 → Option (Unit × St)) (hk8 : ∀ (S : St) (x1 : Int32) (x2 : Int32) (H : Heap) (locs : List Loc) (ls : Array Slot), k8 S x1 x2 = some (r, S2) → PW D y ad S H → va_S (AA ad) s.heap H locs → lv_has ls 3 [(0, .ref (ad 21)), (1, .int x1), (2, .int x2)] → W p l e (headSpec wsX2_run ({ frames := 5, cells := 0, slots := 0, locals := 130 })).room s m ([.ref (ad 21)] : List Value).toArray below meth c H locs 0 0 (QV below r S2 D y ad ([.ref (ad 21)] : List Value).toArray s) (F0 m 8 ls [])), ∀ (S : St) (x1 : Int32) (x2 : Int32) (H : Heap) (locs : List Loc) (ls : Array Slot), f_X2_run_8 n k8 S x1 x2 = some (r, S2) → PW D y ad S H → va_S (AA ad) s.heap H locs → lv_has ls 3 [(0, .ref (ad 21)), (1, .int x1), (2, .int x2)] → W p l e (headSpec wsX2_run ({ frames := 5, cells := 0, slots := 0, locals := 130 })).room s m ([.ref (ad 21)] : List Value).toArray below meth c H locs 0 0 (QV below r S2 D y ad ([.ref (ad 21)] : List Value).toArray s) (F0 m 8 ls []) := by
    intro  k8 hk8 S x1 x2 H locs ls hf hP hS hl
    unfold f_X2_run_8 at hf
    refine lv_iload_n hx hb dX2_run_8 rfl (lv_at hl 2 rfl) ?_
    refine lv_bipush (v := (10)) hx hb dX2_run_9 (by decide) ?_
    refine lv_icmp_gt (tgt := 51) hx hb dX2_run_11 (by decide) (fun b_6 => ?_) (fun b_6 => ?_)
    · have hf := if_t b_6 hf
      exact j51   S  _ _ _ hf hP hS (lv_sub hl [0] rfl)
    · have hf := if_f b_6 hf
      refine lv_iload_n hx hb dX2_run_14 rfl (lv_at hl 1 rfl) ?_
      refine lv_if_eq (tgt := 51) hx hb dX2_run_15 (by decide) (fun b_7 => ?_) (fun b_7 => ?_)
      · have hf := if_t b_7 hf
        exact j51   S  _ _ _ hf hP hS (lv_sub hl [0] rfl)
      · have hf := if_f b_7 hf
        refine lv_aload_n hx hb dX2_run_18 rfl (lv_at hl 0 rfl) ?_
        refine lv_iload_n hx hb dX2_run_19 rfl (lv_at hl 2 rfl) ?_
        obtain ⟨S_8, eS_8, hf⟩ := bd_inv hf
        refine w_pI (ty := .int) (C := RX2) (T := TX2) hx hb hts n2 tyX2 tyX2_ok nmX2 hown hK hI hP hS t_21 rfl 4 (by decide) L30 rfl rfl rfl ⟨rfl, rfl⟩ dX2_run_20 (fun H locs hP hS => ?_)
        rw [← eS_8] at hP
        refine lv_aload_n hx hb dX2_run_23 rfl (lv_at hl 0 rfl) ?_
        obtain ⟨r_9, S_10, hc_11, hf⟩ := bo_inv hf
        refine w_cv (va_runV (As := []) (rest := []) ⟨hx, hb, hml, hown, hts⟩ (c_X2_joinByCongruence l D y ad aL aU hI n S_8  _ _ hc_11) (cwV 0 hts gX2_run_X2_joinByCongruence rfl rfl rfl (by decide +kernel) ⟨Nat.le_of_ble_eq_true rfl, Nat.le_of_ble_eq_true rfl⟩) (pwu_V t_21 rfl hP hK hZ hS) rfl rfl hl.1 rfl (lv_room (Nat.le_of_ble_eq_true rfl)) dX2_run_24 ⟨Nat.zero_le _, Nat.zero_le _⟩) hS (fun H locs hP hS => ?_)
        refine lv_aload_n hx hb dX2_run_27 rfl (lv_at hl 0 rfl) ?_
        obtain ⟨r_12, S_13, hc_14, hf⟩ := bo_inv hf
        refine w_ci (va_runV (As := []) (rest := []) ⟨hx, hb, hml, hown, hts⟩ (c_X2_measure l D y ad aL aU hI n S_10  _ _ hc_14) (cwV 0 hts gX2_run_X2_measure rfl rfl rfl (by decide +kernel) ⟨Nat.le_of_ble_eq_true rfl, Nat.le_of_ble_eq_true rfl⟩) (pwu_V t_21 rfl hP hK hZ hS) rfl rfl hl.1 rfl (lv_room (Nat.le_of_ble_eq_true rfl)) dX2_run_28 ⟨Nat.zero_le _, Nat.zero_le _⟩) hS (fun H locs hP hS => ?_)
        refine lv_if_ne (tgt := 40) hx hb dX2_run_31 (by decide) (fun b_15 => ?_) (fun b_15 => ?_)
        · have hf := if_f b_15 hf
          refine lv_aload_n hx hb dX2_run_40 rfl (lv_at hl 0 rfl) ?_
          obtain ⟨r_16, S_17, hc_18, hf⟩ := bo_inv hf
          refine w_ci (va_runV (As := []) (rest := []) ⟨hx, hb, hml, hown, hts⟩ (c_X2_joinByDistances l D y ad aL aU hI n S_13  _ _ hc_18) (cwV 0 hts gX2_run_X2_joinByDistances rfl rfl rfl (by decide +kernel) ⟨Nat.le_of_ble_eq_true rfl, Nat.le_of_ble_eq_true rfl⟩) (pwu_V t_21 rfl hP hK hZ hS) rfl rfl hl.1 rfl (lv_room (Nat.le_of_ble_eq_true rfl)) dX2_run_41 ⟨Nat.zero_le _, Nat.zero_le _⟩) hS (fun H locs hP hS => ?_)
          obtain ⟨x1_19, ex1_19, hf⟩ := bd_inv hf
          refine w_topI ex1_19 ?_
          refine lv_istore_n (lv' := [(1, .int x1_19), (0, .ref (ad 21)), (2, .int x2)]) hx hb dX2_run_44 rfl hl (by decide) rfl (fun ls hl => ?_)
          obtain ⟨x2_20, ex2_20, hf⟩ := bd_inv hf
          refine lv_iinc (v := x2_20) (lv' := [(2, .int x2_20), (1, .int x1_19), (0, .ref (ad 21))]) hx hb dX2_run_45 hl (k := 2) rfl (by rw [ex2_20]; rfl) (by decide) rfl (fun ls hl => ?_)
          refine lv_goto (tgt := 8) hx hb dX2_run_48 (by decide) ?_
          exact hk8 S_17 x1_19 x2_20 _ _ _ hf hP hS (lv_sub hl [2, 1, 0] rfl)
        · have hf := if_t b_15 hf
          refine lv_aload_n hx hb dX2_run_34 rfl (lv_at hl 0 rfl) ?_
          refine lv_iconst (v := 1) hx hb dX2_run_35 (by decide) ?_
          obtain ⟨S_21, eS_21, hf⟩ := bd_inv hf
          refine w_pI (ty := .boolean) (C := RX2) (T := TX2) hx hb hts n2 tyX2 tyX2_ok nmX2 hown hK hI hP hS t_21 rfl 5 (by decide) L34 rfl rfl rfl ⟨rfl, rfl⟩ dX2_run_36 (fun H locs hP hS => ?_)
          rw [← eS_21] at hP
          exact w_vret hx hb hr hlocks hP hS (rt_inv hf) dX2_run_39
  have j8 : ∀ (fu : Nat), ∀ (S : St) (x1 : Int32) (x2 : Int32) (H : Heap) (locs : List Loc) (ls : Array Slot), fixF (fun _ _ _ => none) (f_X2_run_8 n) fu S x1 x2 = some (r, S2) → PW D y ad S H → va_S (AA ad) s.heap H locs → lv_has ls 3 [(0, .ref (ad 21)), (1, .int x1), (2, .int x2)] → W p l e (headSpec wsX2_run ({ frames := 5, cells := 0, slots := 0, locals := 130 })).room s m ([.ref (ad 21)] : List Value).toArray below meth c H locs 0 0 (QV below r S2 D y ad ([.ref (ad 21)] : List Value).toArray s) (F0 m 8 ls []) := by
    intro   fu
    induction fu with
    | zero => intro S x1 x2 H locs ls hf hP hS hl; cases hf
    | succ fu ih => exact b8   (fixF (fun _ _ _ => none) (f_X2_run_8 n) fu) ih
  unfold f_X2_run at hf
  refine lv_aload_n hx hb dX2_run_0 rfl (lv_at hl 0 rfl) ?_
  obtain ⟨r_22, S_23, hc_24, hf⟩ := bo_inv hf
  refine w_cv (va_runV (As := []) (rest := []) ⟨hx, hb, hml, hown, hts⟩ (c_X2_joinByEqualities l D y ad aL aU hI n S  _ _ hc_24) (cwV 0 hts gX2_run_X2_joinByEqualities rfl rfl rfl (by decide +kernel) ⟨Nat.le_of_ble_eq_true rfl, Nat.le_of_ble_eq_true rfl⟩) (pwu_V t_21 rfl hP hK hZ hS) rfl rfl hl.1 rfl (lv_room (Nat.le_of_ble_eq_true rfl)) dX2_run_1 ⟨Nat.zero_le _, Nat.zero_le _⟩) hS (fun H locs hP hS => ?_)
  refine lv_iconst (v := 1) hx hb dX2_run_4 (by decide) ?_
  obtain ⟨x1_25, ex1_25, hf⟩ := bd_inv hf
  refine w_topI ex1_25 ?_
  refine lv_istore_n (lv' := [(1, .int x1_25), (0, .ref (ad 21))]) hx hb dX2_run_5 rfl hl (by decide) rfl (fun ls hl => ?_)
  refine lv_iconst (v := 1) hx hb dX2_run_6 (by decide) ?_
  obtain ⟨x2_26, ex2_26, hf⟩ := bd_inv hf
  refine w_topI ex2_26 ?_
  refine lv_istore_n (lv' := [(2, .int x2_26), (1, .int x1_25), (0, .ref (ad 21))]) hx hb dX2_run_7 rfl hl (by decide) rfl (fun ls hl => ?_)
  exact j8   n S_23 x1_25 x2_26 _ _ _ hf hP hS (lv_sub hl [2, 1, 0] rfl)
set_option maxHeartbeats 4000000 in
set_option maxRecDepth 100000 in
theorem c_X3_all (l : Launch) (D : va_G) (y : y4) (ad : Nat → Nat) (aL aU : Nat) (hI : Inj ad) (n : Nat) (S : St) (r : Int32) (S2 : St) (hf : f_X3_all n S = some (r, S2)) : KI l D y ad aL aU yX3_all wsX3_all ({ frames := 1, cells := 0, slots := 0, locals := 20 }) [.ref (ad 16)] S r S2 := by
  refine Met.ofW (cc := cX3_all) (maxL := 1) (ret := (some .int)) (by decide) rfl ?_
  intro p e s m args below meth c s₁ B hml hv
  obtain ⟨rfl, hP, hK, hZ⟩ := hv
  have hx := B.exec
  have hb := B.bytes
  have hr := B.returns
  have hts := atoms_spec (ws := wsX3_all) B.pre
  have hown : s.vm.findClass RX3 = some m.cls := findClass_of_methodNamed B.named
  have hlocks := B.notSynchronized
  have hS : va_S (AA ad) s.heap s.heap [] := va_S.rf
  have L24 := hts (.fieldLink RX3 24 "JoinedTheories$Literals" "size" "I") (by decide +kernel)
  have n3 : ∀ w ∈ wsX30, w ∈ wsX3_all := by decide +kernel
  have hl := lv_entry ([.ref (ad 16)]) (n := 1) (Nat.le_of_ble_eq_true rfl)
  rw [lg_entry_eq]
  generalize (lg_sl ([.ref (ad 16)]) ++ List.replicate (1 - (lg_sl ([.ref (ad 16)])).length) Slot.unset).toArray = ls at hl ⊢
  have hl : lv_has ls 1 [(0, .ref (ad 16))] := hl
  unfold f_X3_all at hf
  refine lv_iconst (v := 1) hx hb dX3_all_0 (by decide) ?_
  refine lv_aload_n hx hb dX3_all_1 rfl (lv_at hl 0 rfl) ?_
  refine w_gI (C := RX3) (T := TX3) hx hb hts n3 hown hK hP t_16 rfl 4 (by decide) L24 rfl dX3_all_2 ?_
  refine lv_ishl hx hb dX3_all_5 ?_
  refine lv_iconst (v := 1) hx hb dX3_all_6 (by decide) ?_
  refine lv_isub hx hb dX3_all_7 ?_
  exact w_iret hx hb hr hlocks hP hS (rt_inv hf) dX3_all_8
