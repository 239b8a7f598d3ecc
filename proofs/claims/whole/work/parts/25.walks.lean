set_option maxHeartbeats 4000000 in
set_option maxRecDepth 100000 in
theorem c_X8_drop (l : Launch) (D : va_G) (y : y4) (ad : Nat → Nat) (aL aU : Nat) (hI : Inj ad) (n : Nat) (S : St) (a1 : Int32) (r : Int32) (S2 : St) (hf : f_X8_drop n S a1 = some (r, S2)) : KI l D y ad aL aU yX8_drop wsX8_drop ({ frames := 19, cells := 0, slots := 0, locals := 445 }) [.ref (ad 0), .int a1] S r S2 := by
  refine Met.ofW (cc := cX8_drop) (maxL := 2) (ret := (some .int)) (by decide) rfl ?_
  intro p e s m args below meth c s₁ B hml hv
  obtain ⟨rfl, hP, hK, hZ⟩ := hv
  have hx := B.exec
  have hb := B.bytes
  have hr := B.returns
  have hts := atoms_spec (ws := wsX8_drop) B.pre
  have hown : s.vm.findClass RX8 = some m.cls := findClass_of_methodNamed B.named
  have hlocks := B.notSynchronized
  have hS : va_S (AA ad) s.heap s.heap [] := va_S.rf
  have L33 := hts (.fieldLink RX8 33 "JoinedTheories" "literals" "LJoinedTheories$Literals;") (by decide +kernel)
  have L123 := hts (.fieldLink RX8 123 "JoinedTheories" "literalsRemoved" "I") (by decide +kernel)
  have K116 := hts (.constant RX8 116 (-2000000002)) (by decide +kernel)
  have n8 : ∀ w ∈ wsX80, w ∈ wsX8_drop := by decide +kernel
  have hl := lv_entry ([.ref (ad 0), .int a1]) (n := 2) (Nat.le_of_ble_eq_true rfl)
  rw [lg_entry_eq]
  generalize (lg_sl ([.ref (ad 0), .int a1]) ++ List.replicate (2 - (lg_sl ([.ref (ad 0), .int a1])).length) Slot.unset).toArray = ls at hl ⊢
  have hl : lv_has ls 2 [(0, .ref (ad 0)), (1, .int a1)] := hl
  unfold f_X8_drop at hf
  refine lv_aload_n hx hb dX8_drop_0 rfl (lv_at hl 0 rfl) ?_
  refine w_gR (z := 16) (C := RX8) (T := TX8) hx hb hts n8 hown hK hP t_0 rfl 5 (by decide) L33 rfl rfl dX8_drop_1 ?_
  refine lv_iload_n hx hb dX8_drop_4 rfl (lv_at hl 1 rfl) ?_
  obtain ⟨r_1, S_2, hc_3, hf⟩ := bo_inv hf
  refine w_ci (va_runV (As := [.int a1]) (rest := []) ⟨hx, hb, hml, hown, hts⟩ (c_X3_has l D y ad aL aU hI n S a1 _ _ hc_3) (cwV 1 hts gX8_drop_X3_has rfl rfl rfl (by decide +kernel) ⟨Nat.le_of_ble_eq_true rfl, Nat.le_of_ble_eq_true rfl⟩) (pwu_V t_16 rfl hP hK hZ hS) rfl rfl hl.1 rfl (lv_room (Nat.le_of_ble_eq_true rfl)) dX8_drop_5 ⟨Nat.zero_le _, Nat.zero_le _⟩) hS (fun H locs hP hS => ?_)
  refine lv_if_ne (tgt := 14) hx hb dX8_drop_8 (by decide) (fun b_4 => ?_) (fun b_4 => ?_)
  · have hf := if_f b_4 hf
    refine lv_aload_n hx hb dX8_drop_14 rfl (lv_at hl 0 rfl) ?_
    refine w_gR (z := 16) (C := RX8) (T := TX8) hx hb hts n8 hown hK hP t_0 rfl 5 (by decide) L33 rfl rfl dX8_drop_15 ?_
    refine lv_iload_n hx hb dX8_drop_18 rfl (lv_at hl 1 rfl) ?_
    obtain ⟨r_5, S_6, hc_7, hf⟩ := bo_inv hf
    refine w_cv (va_runV (As := [.int a1]) (rest := []) ⟨hx, hb, hml, hown, hts⟩ (c_X3_removeAt l D y ad aL aU hI n S_2 a1 _ _ hc_7) (cwV 1 hts gX8_drop_X3_removeAt rfl rfl rfl (by decide +kernel) ⟨Nat.le_of_ble_eq_true rfl, Nat.le_of_ble_eq_true rfl⟩) (pwu_V t_16 rfl hP hK hZ hS) rfl rfl hl.1 rfl (lv_room (Nat.le_of_ble_eq_true rfl)) dX8_drop_19 ⟨Nat.zero_le _, Nat.zero_le _⟩) hS (fun H locs hP hS => ?_)
    refine lv_aload_n hx hb dX8_drop_22 rfl (lv_at hl 0 rfl) ?_
    obtain ⟨r_8, S_9, hc_10, hf⟩ := bo_inv hf
    refine w_cv (va_runV (As := []) (rest := []) ⟨hx, hb, hml, hown, hts⟩ (c_X8_numberTermsAnew l D y ad aL aU hI n S_6  _ _ hc_10) (cwV 0 hts gX8_drop_X8_numberTermsAnew rfl rfl rfl (by decide +kernel) ⟨Nat.le_of_ble_eq_true rfl, Nat.le_of_ble_eq_true rfl⟩) (pwu_V t_0 rfl hP hK hZ hS) rfl rfl hl.1 rfl (lv_room (Nat.le_of_ble_eq_true rfl)) dX8_drop_23 ⟨Nat.zero_le _, Nat.zero_le _⟩) hS (fun H locs hP hS => ?_)
    refine lv_aload_n hx hb dX8_drop_26 rfl (lv_at hl 0 rfl) ?_
    refine lv_dup hx hb dX8_drop_27 rfl ?_
    refine w_gI (C := RX8) (T := TX8) hx hb hts n8 hown hK hP t_0 rfl 10 (by decide) L123 rfl dX8_drop_28 ?_
    refine lv_iconst (v := 1) hx hb dX8_drop_31 (by decide) ?_
    refine lv_iadd hx hb dX8_drop_32 ?_
    obtain ⟨S_11, eS_11, hf⟩ := bd_inv hf
    refine w_pI (ty := .int) (C := RX8) (T := TX8) hx hb hts n8 tyX8 tyX8_ok nmX8 hown hK hI hP hS t_0 rfl 10 (by decide) L123 rfl rfl rfl ⟨rfl, rfl⟩ dX8_drop_33 (fun H locs hP hS => ?_)
    rw [← eS_11] at hP
    refine lv_aload_n hx hb dX8_drop_36 rfl (lv_at hl 0 rfl) ?_
    obtain ⟨r_12, S_13, hc_14, hf⟩ := bo_inv hf
    refine w_cv (va_runV (As := []) (rest := []) ⟨hx, hb, hml, hown, hts⟩ (c_X8_forgetResults l D y ad aL aU hI n S_11  _ _ hc_14) (cwV 0 hts gX8_drop_X8_forgetResults rfl rfl rfl (by decide +kernel) ⟨Nat.le_of_ble_eq_true rfl, Nat.le_of_ble_eq_true rfl⟩) (pwu_V t_0 rfl hP hK hZ hS) rfl rfl hl.1 rfl (lv_room (Nat.le_of_ble_eq_true rfl)) dX8_drop_37 ⟨Nat.zero_le _, Nat.zero_le _⟩) hS (fun H locs hP hS => ?_)
    refine lv_aload_n hx hb dX8_drop_40 rfl (lv_at hl 0 rfl) ?_
    refine w_gR (z := 16) (C := RX8) (T := TX8) hx hb hts n8 hown hK hP t_0 rfl 5 (by decide) L33 rfl rfl dX8_drop_41 ?_
    obtain ⟨r_15, S_16, hc_17, hf⟩ := bo_inv hf
    refine w_ci (va_runV (As := []) (rest := []) ⟨hx, hb, hml, hown, hts⟩ (c_X3_size l D y ad aL aU hI n S_13  _ _ hc_17) (cwV 0 hts gX8_drop_X3_size rfl rfl rfl (by decide +kernel) ⟨Nat.le_of_ble_eq_true rfl, Nat.le_of_ble_eq_true rfl⟩) (pwu_V t_16 rfl hP hK hZ hS) rfl rfl hl.1 rfl (lv_room (Nat.le_of_ble_eq_true rfl)) dX8_drop_44 ⟨Nat.zero_le _, Nat.zero_le _⟩) hS (fun H locs hP hS => ?_)
    exact w_iret hx hb hr hlocks hP hS (rt_inv hf) dX8_drop_47
  · have hf := if_t b_4 hf
    refine lv_ldc (v := (-2000000002)) hx hb hown K116 dX8_drop_11 ?_
    exact w_iret hx hb hr hlocks hP hS (rt_inv hf) dX8_drop_13
set_option maxHeartbeats 4000000 in
set_option maxRecDepth 100000 in
theorem c_X8_isGreat (l : Launch) (D : va_G) (y : y4) (ad : Nat → Nat) (aL aU : Nat) (hI : Inj ad) (n : Nat) (S : St) (a0 : Int64) (r : Int32) (S2 : St) (hf : f_X8_isGreat n S a0 = some (r, S2)) : KI l D y ad aL aU yX8_isGreat wsX8_isGreat ({ frames := 1, cells := 0, slots := 0, locals := 20 }) [.long a0] S r S2 := by
  refine Met.ofW (cc := cX8_isGreat) (maxL := 2) (ret := (some .boolean)) (by decide) rfl ?_
  intro p e s m args below meth c s₁ B hml hv
  obtain ⟨rfl, hP, hK, hZ⟩ := hv
  have hx := B.exec
  have hb := B.bytes
  have hr := B.returns
  have hts := atoms_spec (ws := wsX8_isGreat) B.pre
  have hown : s.vm.findClass RX8 = some m.cls := findClass_of_methodNamed B.named
  have hlocks := B.notSynchronized
  have hS : va_S (AA ad) s.heap s.heap [] := va_S.rf
  have K262 := hts (.constantLong RX8 262 (2000000000)) (by decide +kernel)
  have K264 := hts (.constantLong RX8 264 (-2000000000)) (by decide +kernel)
  have hl := lv_entry ([.long a0]) (n := 2) (Nat.le_of_ble_eq_true rfl)
  rw [lg_entry_eq]
  generalize (lg_sl ([.long a0]) ++ List.replicate (2 - (lg_sl ([.long a0])).length) Slot.unset).toArray = ls at hl ⊢
  have hl : lv_has ls 2 [(0, .long a0)] := hl
  have j16 : ∀ (S : St) (H : Heap) (locs : List Loc) (ls : Array Slot), f_X8_isGreat_16 n S = some (r, S2) → PW D y ad S H → va_S (AA ad) s.heap H locs → lv_has ls 2 [] → W p l e (headSpec wsX8_isGreat ({ frames := 1, cells := 0, slots := 0, locals := 20 })).room s m ([.long a0] : List Value).toArray below meth c H locs 0 0 (QI below r S2 D y ad ([.long a0] : List Value).toArray s) (F0 m 16 ls []) := by
    intro  S H locs ls hf hP hS hl
    unfold f_X8_isGreat_16 at hf
    refine lv_iconst (v := 1) hx hb dX8_isGreat_16 (by decide) ?_
    refine lv_goto (tgt := 21) hx hb dX8_isGreat_17 (by decide) ?_
    exact w_zret hx hb hr hlocks (fun h => h (by decide)) hP hS (rt_inv hf) dX8_isGreat_21
  unfold f_X8_isGreat at hf
  refine lv_lload_n hx hb dX8_isGreat_0 rfl (lv_at hl 0 rfl) ?_
  refine lv_ldc2 (v := (2000000000)) hx hb hown K262 dX8_isGreat_1 ?_
  refine W.lcmp hx hb dX8_isGreat_4 ?_
  refine lv_if_gt (tgt := 16) hx hb dX8_isGreat_5 (by decide) (fun b_1 => ?_) (fun b_1 => ?_)
  · have hf := if_t b_1 hf
    exact j16   S  _ _ _ hf hP hS (lv_sub hl [] rfl)
  · have hf := if_f b_1 hf
    refine lv_lload_n hx hb dX8_isGreat_8 rfl (lv_at hl 0 rfl) ?_
    refine lv_ldc2 (v := (-2000000000)) hx hb hown K264 dX8_isGreat_9 ?_
    refine W.lcmp hx hb dX8_isGreat_12 ?_
    refine lv_if_ge (tgt := 20) hx hb dX8_isGreat_13 (by decide) (fun b_2 => ?_) (fun b_2 => ?_)
    · have hf := if_t b_2 hf
      refine lv_iconst (v := 0) hx hb dX8_isGreat_20 (by decide) ?_
      exact w_zret hx hb hr hlocks (fun h => h (by decide)) hP hS (rt_inv hf) dX8_isGreat_21
    · have hf := if_f b_2 hf
      exact j16   S  _ _ _ hf hP hS (lv_sub hl [] rfl)
set_option maxHeartbeats 4000000 in
set_option maxRecDepth 100000 in
theorem c_X8_scale (l : Launch) (D : va_G) (y : y4) (ad : Nat → Nat) (aL aU : Nat) (hI : Inj ad) (n : Nat) (S : St) (a1 : Int32) (r : Int32) (S2 : St) (hf : f_X8_scale n S a1 = some (r, S2)) : KI l D y ad aL aU yX8_scale wsX8_scale ({ frames := 3, cells := 0, slots := 0, locals := 63 }) [.ref (ad 0), .int a1] S r S2 := by
  refine Met.ofW (cc := cX8_scale) (maxL := 5) (ret := (some .int)) (by decide) rfl ?_
  intro p e s m args below meth c s₁ B hml hv
  obtain ⟨rfl, hP, hK, hZ⟩ := hv
  have hx := B.exec
  have hb := B.bytes
  have hr := B.returns
  have hts := atoms_spec (ws := wsX8_scale) B.pre
  have hown : s.vm.findClass RX8 = some m.cls := findClass_of_methodNamed B.named
  have hlocks := B.notSynchronized
  have hS : va_S (AA ad) s.heap s.heap [] := va_S.rf
  have L33 := hts (.fieldLink RX8 33 "JoinedTheories" "literals" "LJoinedTheories$Literals;") (by decide +kernel)
  have K62 := hts (.constant RX8 62 (-2000000003)) (by decide +kernel)
  have K134 := hts (.constant RX8 134 (-2000000006)) (by decide +kernel)
  have n8 : ∀ w ∈ wsX80, w ∈ wsX8_scale := by decide +kernel
  have hl := lv_entry ([.ref (ad 0), .int a1]) (n := 5) (Nat.le_of_ble_eq_true rfl)
  rw [lg_entry_eq]
  generalize (lg_sl ([.ref (ad 0), .int a1]) ++ List.replicate (5 - (lg_sl ([.ref (ad 0), .int a1])).length) Slot.unset).toArray = ls at hl ⊢
  have hl : lv_has ls 5 [(0, .ref (ad 0)), (1, .int a1)] := hl
  have j110 : ∀ (x1 : Int32) (k61 : St → Int32 → Int32 → Option (Int32 × St)) (hk61 : ∀ (S : St) (x2 : Int32) (x3 : Int32) (H : Heap) (locs : List Loc) (ls : Array Slot), k61 S x2 x3 = some (r, S2) → PW D y ad S H → va_S (AA ad) s.heap H locs → lv_has ls 5 [(0, .ref (ad 0)), (1, .int x1), (2, .int x2), (3, .int x3)] → W p l e (headSpec wsX8_scale ({ frames := 3, cells := 0, slots := 0, locals := 63 })).room s m ([.ref (ad 0), .int a1] : List Value).toArray below meth c H locs 0 0 (QI below r S2 D y ad ([.ref (ad 0), .int a1] : List Value).toArray s) (F0 m 61 ls [])), ∀ (S : St) (x2 : Int32) (x3 : Int32) (H : Heap) (locs : List Loc) (ls : Array Slot), f_X8_scale_110 n x1 k61 S x2 x3 = some (r, S2) → PW D y ad S H → va_S (AA ad) s.heap H locs → lv_has ls 5 [(0, .ref (ad 0)), (1, .int x1), (2, .int x2), (3, .int x3)] → W p l e (headSpec wsX8_scale ({ frames := 3, cells := 0, slots := 0, locals := 63 })).room s m ([.ref (ad 0), .int a1] : List Value).toArray below meth c H locs 0 0 (QI below r S2 D y ad ([.ref (ad 0), .int a1] : List Value).toArray s) (F0 m 110 ls []) := by
    intro x1 k61 hk61 S x2 x3 H locs ls hf hP hS hl
    unfold f_X8_scale_110 at hf
    obtain ⟨x3_1, ex3_1, hf⟩ := bd_inv hf
    refine lv_iinc (v := x3_1) (lv' := [(3, .int x3_1), (0, .ref (ad 0)), (1, .int x1), (2, .int x2)]) hx hb dX8_scale_110 hl (k := 3) rfl (by rw [ex3_1]; rfl) (by decide) rfl (fun ls hl => ?_)
    refine lv_goto (tgt := 61) hx hb dX8_scale_113 (by decide) ?_
    exact hk61 S x2 x3_1 _ _ _ hf hP hS (lv_sub hl [1, 2, 3, 0] rfl)
  have b61 : ∀ (x1 : Int32) (k61 : St → Int32 → Int32 → Option (Int32 × St)) (hk61 : ∀ (S : St) (x2 : Int32) (x3 : Int32) (H : Heap) (locs : List Loc) (ls : Array Slot), k61 S x2 x3 = some (r, S2) → PW D y ad S H → va_S (AA ad) s.heap H locs → lv_has ls 5 [(0, .ref (ad 0)), (1, .int x1), (2, .int x2), (3, .int x3)] → W p l e (headSpec wsX8_scale ({ frames := 3, cells := 0, slots := 0, locals := 63 })).room s m ([.ref (ad 0), .int a1] : List Value).toArray below meth c H locs 0 0 (QI below r S2 D y ad ([.ref (ad 0), .int a1] : List Value).toArray s) (F0 m 61 ls [])), ∀ (S : St) (x2 : Int32) (x3 : Int32) (H : Heap) (locs : List Loc) (ls : Array Slot), f_X8_scale_61 n x1 k61 S x2 x3 = some (r, S2) → PW D y ad S H → va_S (AA ad) s.heap H locs → lv_has ls 5 [(0, .ref (ad 0)), (1, .int x1), (2, .int x2), (3, .int x3)] → W p l e (headSpec wsX8_scale ({ frames := 3, cells := 0, slots := 0, locals := 63 })).room s m ([.ref (ad 0), .int a1] : List Value).toArray below meth c H locs 0 0 (QI below r S2 D y ad ([.ref (ad 0), .int a1] : List Value).toArray s) (F0 m 61 ls []) := by
    intro x1 k61 hk61 S x2 x3 H locs ls hf hP hS hl
    unfold f_X8_scale_61 at hf
    refine lv_iload_n hx hb dX8_scale_61 rfl (lv_at hl 3 rfl) ?_
    refine lv_aload_n hx hb dX8_scale_62 rfl (lv_at hl 0 rfl) ?_
    refine w_gR (z := 16) (C := RX8) (T := TX8) hx hb hts n8 hown hK hP t_0 rfl 5 (by decide) L33 rfl rfl dX8_scale_63 ?_
    obtain ⟨r_2, S_3, hc_4, hf⟩ := bo_inv hf
    refine w_ci (va_runV (As := []) (rest := [.int x3]) ⟨hx, hb, hml, hown, hts⟩ (c_X3_size l D y ad aL aU hI n S  _ _ hc_4) (cwV 0 hts gX8_scale_X3_size rfl rfl rfl (by decide +kernel) ⟨Nat.le_of_ble_eq_true rfl, Nat.le_of_ble_eq_true rfl⟩) (pwu_V t_16 rfl hP hK hZ hS) rfl rfl hl.1 rfl (lv_room (Nat.le_of_ble_eq_true rfl)) dX8_scale_66 ⟨Nat.zero_le _, Nat.zero_le _⟩) hS (fun H locs hP hS => ?_)
    refine lv_icmp_ge (tgt := 116) hx hb dX8_scale_69 (by decide) (fun b_5 => ?_) (fun b_5 => ?_)
    · have hf := if_t b_5 hf
      refine lv_aload_n hx hb dX8_scale_116 rfl (lv_at hl 0 rfl) ?_
      obtain ⟨r_6, S_7, hc_8, hf⟩ := bo_inv hf
      refine w_cv (va_runV (As := []) (rest := []) ⟨hx, hb, hml, hown, hts⟩ (c_X8_forgetResults l D y ad aL aU hI n S_3  _ _ hc_8) (cwV 0 hts gX8_scale_X8_forgetResults rfl rfl rfl (by decide +kernel) ⟨Nat.le_of_ble_eq_true rfl, Nat.le_of_ble_eq_true rfl⟩) (pwu_V t_0 rfl hP hK hZ hS) rfl rfl hl.1 rfl (lv_room (Nat.le_of_ble_eq_true rfl)) dX8_scale_117 ⟨Nat.zero_le _, Nat.zero_le _⟩) hS (fun H locs hP hS => ?_)
      refine lv_iload_n hx hb dX8_scale_120 rfl (lv_at hl 2 rfl) ?_
      exact w_iret hx hb hr hlocks hP hS (rt_inv hf) dX8_scale_121
    · have hf := if_f b_5 hf
      refine lv_aload_n hx hb dX8_scale_72 rfl (lv_at hl 0 rfl) ?_
      refine w_gR (z := 16) (C := RX8) (T := TX8) hx hb hts n8 hown hK hP t_0 rfl 5 (by decide) L33 rfl rfl dX8_scale_73 ?_
      refine lv_iload_n hx hb dX8_scale_76 rfl (lv_at hl 3 rfl) ?_
      obtain ⟨r_9, S_10, hc_11, hf⟩ := bo_inv hf
      refine w_ci (va_runV (As := [.int x3]) (rest := []) ⟨hx, hb, hml, hown, hts⟩ (c_X3_numberOf l D y ad aL aU hI n S_3 x3 _ _ hc_11) (cwV 1 hts gX8_scale_X3_numberOf rfl rfl rfl (by decide +kernel) ⟨Nat.le_of_ble_eq_true rfl, Nat.le_of_ble_eq_true rfl⟩) (pwu_V t_16 rfl hP hK hZ hS) rfl rfl hl.1 rfl (lv_room (Nat.le_of_ble_eq_true rfl)) dX8_scale_77 ⟨Nat.zero_le _, Nat.zero_le _⟩) hS (fun H locs hP hS => ?_)
      refine lv_iload_n hx hb dX8_scale_80 rfl (lv_at hl 1 rfl) ?_
      refine lv_imul hx hb dX8_scale_81 ?_
      obtain ⟨x4_12, ex4_12, hf⟩ := bd_inv hf
      refine w_topI ex4_12 ?_
      refine lv_istore (lv' := [(4, .int x4_12), (0, .ref (ad 0)), (1, .int x1), (2, .int x2), (3, .int x3)]) hx hb dX8_scale_82 hl (by decide) rfl (fun ls hl => ?_)
      refine lv_iload hx hb dX8_scale_84 (lv_at hl 0 rfl) ?_
      refine lv_aload_n hx hb dX8_scale_86 rfl (lv_at hl 1 rfl) ?_
      refine w_gR (z := 16) (C := RX8) (T := TX8) hx hb hts n8 hown hK hP t_0 rfl 5 (by decide) L33 rfl rfl dX8_scale_87 ?_
      refine lv_iload_n hx hb dX8_scale_90 rfl (lv_at hl 4 rfl) ?_
      obtain ⟨r_13, S_14, hc_15, hf⟩ := bo_inv hf
      refine w_ci (va_runV (As := [.int x3]) (rest := [.int x4_12]) ⟨hx, hb, hml, hown, hts⟩ (c_X3_numberOf l D y ad aL aU hI n S_10 x3 _ _ hc_15) (cwV 1 hts gX8_scale_X3_numberOf rfl rfl rfl (by decide +kernel) ⟨Nat.le_of_ble_eq_true rfl, Nat.le_of_ble_eq_true rfl⟩) (pwu_V t_16 rfl hP hK hZ hS) rfl rfl hl.1 rfl (lv_room (Nat.le_of_ble_eq_true rfl)) dX8_scale_91 ⟨Nat.zero_le _, Nat.zero_le _⟩) hS (fun H locs hP hS => ?_)
      refine lv_icmp_eq (tgt := 110) hx hb dX8_scale_94 (by decide) (fun b_16 => ?_) (fun b_16 => ?_)
      · have hf := if_t b_16 hf
        exact j110 x1 k61 hk61 S_14 x2 x3 _ _ _ hf hP hS (lv_sub hl [1, 2, 3, 4] rfl)
      · have hf := if_f b_16 hf
        refine lv_aload_n hx hb dX8_scale_97 rfl (lv_at hl 1 rfl) ?_
        refine w_gR (z := 16) (C := RX8) (T := TX8) hx hb hts n8 hown hK hP t_0 rfl 5 (by decide) L33 rfl rfl dX8_scale_98 ?_
        refine lv_iload_n hx hb dX8_scale_101 rfl (lv_at hl 4 rfl) ?_
        refine lv_iload hx hb dX8_scale_102 (lv_at hl 0 rfl) ?_
        obtain ⟨r_17, S_18, hc_19, hf⟩ := bo_inv hf
        refine w_cv (va_runV (As := [.int x3, .int x4_12]) (rest := []) ⟨hx, hb, hml, hown, hts⟩ (c_X3_setNumber l D y ad aL aU hI n S_14 x3 x4_12 _ _ hc_19) (cwV 2 hts gX8_scale_X3_setNumber rfl rfl rfl (by decide +kernel) ⟨Nat.le_of_ble_eq_true rfl, Nat.le_of_ble_eq_true rfl⟩) (pwu_V t_16 rfl hP hK hZ hS) rfl rfl hl.1 rfl (lv_room (Nat.le_of_ble_eq_true rfl)) dX8_scale_104 ⟨Nat.zero_le _, Nat.zero_le _⟩) hS (fun H locs hP hS => ?_)
        obtain ⟨x2_20, ex2_20, hf⟩ := bd_inv hf
        refine lv_iinc (v := x2_20) (lv' := [(2, .int x2_20), (4, .int x4_12), (0, .ref (ad 0)), (1, .int x1), (3, .int x3)]) hx hb dX8_scale_107 hl (k := 3) rfl (by rw [ex2_20]; rfl) (by decide) rfl (fun ls hl => ?_)
        exact j110 x1 k61 hk61 S_18 x2_20 x3 _ _ _ hf hP hS (lv_sub hl [2, 3, 0, 4] rfl)
  have j61 : ∀ (x1 : Int32) (fu : Nat), ∀ (S : St) (x2 : Int32) (x3 : Int32) (H : Heap) (locs : List Loc) (ls : Array Slot), fixF (fun _ _ _ => none) (f_X8_scale_61 n x1) fu S x2 x3 = some (r, S2) → PW D y ad S H → va_S (AA ad) s.heap H locs → lv_has ls 5 [(0, .ref (ad 0)), (1, .int x1), (2, .int x2), (3, .int x3)] → W p l e (headSpec wsX8_scale ({ frames := 3, cells := 0, slots := 0, locals := 63 })).room s m ([.ref (ad 0), .int a1] : List Value).toArray below meth c H locs 0 0 (QI below r S2 D y ad ([.ref (ad 0), .int a1] : List Value).toArray s) (F0 m 61 ls []) := by
    intro x1  fu
    induction fu with
    | zero => intro S x2 x3 H locs ls hf hP hS hl; cases hf
    | succ fu ih => exact b61 x1  (fixF (fun _ _ _ => none) (f_X8_scale_61 n x1) fu) ih
  have b19 : ∀ (x1 : Int32) (k19 : St → Int32 → Option (Int32 × St)) (hk19 : ∀ (S : St) (x2 : Int32) (H : Heap) (locs : List Loc) (ls : Array Slot), k19 S x2 = some (r, S2) → PW D y ad S H → va_S (AA ad) s.heap H locs → lv_has ls 5 [(0, .ref (ad 0)), (1, .int x1), (2, .int x2)] → W p l e (headSpec wsX8_scale ({ frames := 3, cells := 0, slots := 0, locals := 63 })).room s m ([.ref (ad 0), .int a1] : List Value).toArray below meth c H locs 0 0 (QI below r S2 D y ad ([.ref (ad 0), .int a1] : List Value).toArray s) (F0 m 19 ls [])), ∀ (S : St) (x2 : Int32) (H : Heap) (locs : List Loc) (ls : Array Slot), f_X8_scale_19 n x1 k19 S x2 = some (r, S2) → PW D y ad S H → va_S (AA ad) s.heap H locs → lv_has ls 5 [(0, .ref (ad 0)), (1, .int x1), (2, .int x2)] → W p l e (headSpec wsX8_scale ({ frames := 3, cells := 0, slots := 0, locals := 63 })).room s m ([.ref (ad 0), .int a1] : List Value).toArray below meth c H locs 0 0 (QI below r S2 D y ad ([.ref (ad 0), .int a1] : List Value).toArray s) (F0 m 19 ls []) := by
    intro x1 k19 hk19 S x2 H locs ls hf hP hS hl
    unfold f_X8_scale_19 at hf
    refine lv_iload_n hx hb dX8_scale_19 rfl (lv_at hl 2 rfl) ?_
    refine lv_aload_n hx hb dX8_scale_20 rfl (lv_at hl 0 rfl) ?_
    refine w_gR (z := 16) (C := RX8) (T := TX8) hx hb hts n8 hown hK hP t_0 rfl 5 (by decide) L33 rfl rfl dX8_scale_21 ?_
    obtain ⟨r_21, S_22, hc_23, hf⟩ := bo_inv hf
    refine w_ci (va_runV (As := []) (rest := [.int x2]) ⟨hx, hb, hml, hown, hts⟩ (c_X3_size l D y ad aL aU hI n S  _ _ hc_23) (cwV 0 hts gX8_scale_X3_size rfl rfl rfl (by decide +kernel) ⟨Nat.le_of_ble_eq_true rfl, Nat.le_of_ble_eq_true rfl⟩) (pwu_V t_16 rfl hP hK hZ hS) rfl rfl hl.1 rfl (lv_room (Nat.le_of_ble_eq_true rfl)) dX8_scale_24 ⟨Nat.zero_le _, Nat.zero_le _⟩) hS (fun H locs hP hS => ?_)
    refine lv_icmp_ge (tgt := 57) hx hb dX8_scale_27 (by decide) (fun b_24 => ?_) (fun b_24 => ?_)
    · have hf := if_t b_24 hf
      refine lv_iconst (v := 0) hx hb dX8_scale_57 (by decide) ?_
      obtain ⟨x2_25, ex2_25, hf⟩ := bd_inv hf
      refine w_topI ex2_25 ?_
      refine lv_istore_n (lv' := [(2, .int x2_25), (0, .ref (ad 0)), (1, .int x1)]) hx hb dX8_scale_58 rfl hl (by decide) rfl (fun ls hl => ?_)
      refine lv_iconst (v := 0) hx hb dX8_scale_59 (by decide) ?_
      obtain ⟨x3_26, ex3_26, hf⟩ := bd_inv hf
      refine w_topI ex3_26 ?_
      refine lv_istore_n (lv' := [(3, .int x3_26), (2, .int x2_25), (0, .ref (ad 0)), (1, .int x1)]) hx hb dX8_scale_60 rfl hl (by decide) rfl (fun ls hl => ?_)
      exact j61 x1  n S_22 x2_25 x3_26 _ _ _ hf hP hS (lv_sub hl [2, 3, 1, 0] rfl)
    · have hf := if_f b_24 hf
      refine lv_aload_n hx hb dX8_scale_30 rfl (lv_at hl 0 rfl) ?_
      refine w_gR (z := 16) (C := RX8) (T := TX8) hx hb hts n8 hown hK hP t_0 rfl 5 (by decide) L33 rfl rfl dX8_scale_31 ?_
      refine lv_iload_n hx hb dX8_scale_34 rfl (lv_at hl 2 rfl) ?_
      obtain ⟨r_27, S_28, hc_29, hf⟩ := bo_inv hf
      refine w_ci (va_runV (As := [.int x2]) (rest := []) ⟨hx, hb, hml, hown, hts⟩ (c_X3_numberOf l D y ad aL aU hI n S_22 x2 _ _ hc_29) (cwV 1 hts gX8_scale_X3_numberOf rfl rfl rfl (by decide +kernel) ⟨Nat.le_of_ble_eq_true rfl, Nat.le_of_ble_eq_true rfl⟩) (pwu_V t_16 rfl hP hK hZ hS) rfl rfl hl.1 rfl (lv_room (Nat.le_of_ble_eq_true rfl)) dX8_scale_35 ⟨Nat.zero_le _, Nat.zero_le _⟩) hS (fun H locs hP hS => ?_)
      refine lv_i2l hx hb dX8_scale_38 rfl ?_
      refine lv_iload_n hx hb dX8_scale_39 rfl (lv_at hl 1 rfl) ?_
      refine lv_i2l hx hb dX8_scale_40 rfl ?_
      refine lv_lmul hx hb dX8_scale_41 ?_
      obtain ⟨r_30, S_31, hc_32, hf⟩ := bo_inv hf
      refine w_ci (va_runS (As := [.long ((r_27).toInt64 * (x1).toInt64)]) (rest := []) ⟨hx, hb, hml, hown, hts⟩ (c_X8_isGreat l D y ad aL aU hI n S_28 (((r_27).toInt64 * (x1).toInt64)) _ _ hc_32) (cwS 1 hts gX8_scale_X8_isGreat rfl rfl rfl (by decide +kernel) ⟨Nat.le_of_ble_eq_true rfl, Nat.le_of_ble_eq_true rfl⟩) (pwu_S hP hK hZ hS) rfl rfl hl.1 rfl (lv_room (Nat.le_of_ble_eq_true rfl)) dX8_scale_42 ⟨Nat.zero_le _, Nat.zero_le _⟩) hS (fun H locs hP hS => ?_)
      refine lv_if_eq (tgt := 51) hx hb dX8_scale_45 (by decide) (fun b_33 => ?_) (fun b_33 => ?_)
      · have hf := if_t b_33 hf
        obtain ⟨x2_34, ex2_34, hf⟩ := bd_inv hf
        refine lv_iinc (v := x2_34) (lv' := [(2, .int x2_34), (0, .ref (ad 0)), (1, .int x1)]) hx hb dX8_scale_51 hl (k := 2) rfl (by rw [ex2_34]; rfl) (by decide) rfl (fun ls hl => ?_)
        refine lv_goto (tgt := 19) hx hb dX8_scale_54 (by decide) ?_
        exact hk19 S_31 x2_34 _ _ _ hf hP hS (lv_sub hl [1, 2, 0] rfl)
      · have hf := if_f b_33 hf
        refine lv_ldc (v := (-2000000006)) hx hb hown K134 dX8_scale_48 ?_
        exact w_iret hx hb hr hlocks hP hS (rt_inv hf) dX8_scale_50
  have j19 : ∀ (x1 : Int32) (fu : Nat), ∀ (S : St) (x2 : Int32) (H : Heap) (locs : List Loc) (ls : Array Slot), fixF (fun _ _ => none) (f_X8_scale_19 n x1) fu S x2 = some (r, S2) → PW D y ad S H → va_S (AA ad) s.heap H locs → lv_has ls 5 [(0, .ref (ad 0)), (1, .int x1), (2, .int x2)] → W p l e (headSpec wsX8_scale ({ frames := 3, cells := 0, slots := 0, locals := 63 })).room s m ([.ref (ad 0), .int a1] : List Value).toArray below meth c H locs 0 0 (QI below r S2 D y ad ([.ref (ad 0), .int a1] : List Value).toArray s) (F0 m 19 ls []) := by
    intro x1  fu
    induction fu with
    | zero => intro S x2 H locs ls hf hP hS hl; cases hf
    | succ fu ih => exact b19 x1  (fixF (fun _ _ => none) (f_X8_scale_19 n x1) fu) ih
  unfold f_X8_scale at hf
  refine lv_iload_n hx hb dX8_scale_0 rfl (lv_at hl 1 rfl) ?_
  refine lv_sipush (v := (-1000)) hx hb dX8_scale_1 (by decide) ?_
  refine lv_icmp_lt (tgt := 14) hx hb dX8_scale_4 (by decide) (fun b_35 => ?_) (fun b_35 => ?_)
  · have hf := if_t b_35 hf
    refine lv_ldc (v := (-2000000003)) hx hb hown K62 dX8_scale_14 ?_
    exact w_iret hx hb hr hlocks hP hS (rt_inv hf) dX8_scale_16
  · have hf := if_f b_35 hf
    refine lv_iload_n hx hb dX8_scale_7 rfl (lv_at hl 1 rfl) ?_
    refine lv_sipush (v := (1000)) hx hb dX8_scale_8 (by decide) ?_
    refine lv_icmp_le (tgt := 17) hx hb dX8_scale_11 (by decide) (fun b_36 => ?_) (fun b_36 => ?_)
    · have hf := if_t b_36 hf
      refine lv_iconst (v := 0) hx hb dX8_scale_17 (by decide) ?_
      obtain ⟨x2_37, ex2_37, hf⟩ := bd_inv hf
      refine w_topI ex2_37 ?_
      refine lv_istore_n (lv' := [(2, .int x2_37), (0, .ref (ad 0)), (1, .int a1)]) hx hb dX8_scale_18 rfl hl (by decide) rfl (fun ls hl => ?_)
      exact j19 a1  n S x2_37 _ _ _ hf hP hS (lv_sub hl [1, 2, 0] rfl)
    · have hf := if_f b_36 hf
      refine lv_ldc (v := (-2000000003)) hx hb hown K62 dX8_scale_14 ?_
      exact w_iret hx hb hr hlocks hP hS (rt_inv hf) dX8_scale_16
set_option maxHeartbeats 4000000 in
set_option maxRecDepth 100000 in
theorem c_X8_literal (l : Launch) (D : va_G) (y : y4) (ad : Nat → Nat) (aL aU : Nat) (hI : Inj ad) (n : Nat) (S : St) (a1 : Int32) (a2 : Int32) (r : Int32) (S2 : St) (hf : f_X8_literal n S a1 a2 = some (r, S2)) : KI l D y ad aL aU yX8_literal wsX8_literal ({ frames := 3, cells := 0, slots := 0, locals := 62 }) [.ref (ad 0), .int a1, .int a2] S r S2 := by
  refine Met.ofW (cc := cX8_literal) (maxL := 3) (ret := (some .int)) (by decide) rfl ?_
  intro p e s m args below meth c s₁ B hml hv
  obtain ⟨rfl, hP, hK, hZ⟩ := hv
  have hx := B.exec
  have hb := B.bytes
  have hr := B.returns
  have hts := atoms_spec (ws := wsX8_literal) B.pre
  have hown : s.vm.findClass RX8 = some m.cls := findClass_of_methodNamed B.named
  have hlocks := B.notSynchronized
  have hS : va_S (AA ad) s.heap s.heap [] := va_S.rf
  have L33 := hts (.fieldLink RX8 33 "JoinedTheories" "literals" "LJoinedTheories$Literals;") (by decide +kernel)
  have K62 := hts (.constant RX8 62 (-2000000003)) (by decide +kernel)
  have K116 := hts (.constant RX8 116 (-2000000002)) (by decide +kernel)
  have n8 : ∀ w ∈ wsX80, w ∈ wsX8_literal := by decide +kernel
  have hl := lv_entry ([.ref (ad 0), .int a1, .int a2]) (n := 3) (Nat.le_of_ble_eq_true rfl)
  rw [lg_entry_eq]
  generalize (lg_sl ([.ref (ad 0), .int a1, .int a2]) ++ List.replicate (3 - (lg_sl ([.ref (ad 0), .int a1, .int a2])).length) Slot.unset).toArray = ls at hl ⊢
  have hl : lv_has ls 3 [(0, .ref (ad 0)), (1, .int a1), (2, .int a2)] := hl
  unfold f_X8_literal at hf
  refine lv_aload_n hx hb dX8_literal_0 rfl (lv_at hl 0 rfl) ?_
  refine w_gR (z := 16) (C := RX8) (T := TX8) hx hb hts n8 hown hK hP t_0 rfl 5 (by decide) L33 rfl rfl dX8_literal_1 ?_
  refine lv_iload_n hx hb dX8_literal_4 rfl (lv_at hl 1 rfl) ?_
  obtain ⟨r_1, S_2, hc_3, hf⟩ := bo_inv hf
  refine w_ci (va_runV (As := [.int a1]) (rest := []) ⟨hx, hb, hml, hown, hts⟩ (c_X3_has l D y ad aL aU hI n S a1 _ _ hc_3) (cwV 1 hts gX8_literal_X3_has rfl rfl rfl (by decide +kernel) ⟨Nat.le_of_ble_eq_true rfl, Nat.le_of_ble_eq_true rfl⟩) (pwu_V t_16 rfl hP hK hZ hS) rfl rfl hl.1 rfl (lv_room (Nat.le_of_ble_eq_true rfl)) dX8_literal_5 ⟨Nat.zero_le _, Nat.zero_le _⟩) hS (fun H locs hP hS => ?_)
  refine lv_if_ne (tgt := 14) hx hb dX8_literal_8 (by decide) (fun b_4 => ?_) (fun b_4 => ?_)
  · have hf := if_f b_4 hf
    refine lv_iload_n hx hb dX8_literal_14 rfl (lv_at hl 2 rfl) ?_
    by_cases b_5 : a2 = (0 : Int32)
    · have hf := if_t b_5 hf
      refine lv_tableIn (tgt := 44) hx hb dX8_literal_15 (by rw [b_5]; decide) (by rw [b_5]; decide) (by rw [b_5]; rfl) (by decide) ?_
      refine lv_aload_n hx hb dX8_literal_44 rfl (lv_at hl 0 rfl) ?_
      refine w_gR (z := 16) (C := RX8) (T := TX8) hx hb hts n8 hown hK hP t_0 rfl 5 (by decide) L33 rfl rfl dX8_literal_45 ?_
      refine lv_iload_n hx hb dX8_literal_48 rfl (lv_at hl 1 rfl) ?_
      obtain ⟨r_6, S_7, hc_8, hf⟩ := bo_inv hf
      refine w_ci (va_runV (As := [.int a1]) (rest := []) ⟨hx, hb, hml, hown, hts⟩ (c_X3_kindOf l D y ad aL aU hI n S_2 a1 _ _ hc_8) (cwV 1 hts gX8_literal_X3_kindOf rfl rfl rfl (by decide +kernel) ⟨Nat.le_of_ble_eq_true rfl, Nat.le_of_ble_eq_true rfl⟩) (pwu_V t_16 rfl hP hK hZ hS) rfl rfl hl.1 rfl (lv_room (Nat.le_of_ble_eq_true rfl)) dX8_literal_49 ⟨Nat.zero_le _, Nat.zero_le _⟩) hS (fun H locs hP hS => ?_)
      exact w_iret hx hb hr hlocks hP hS (rt_inv hf) dX8_literal_52
    · have hf := if_f b_5 hf
      by_cases b_9 : a2 = (1 : Int32)
      · have hf := if_t b_9 hf
        refine lv_tableIn (tgt := 53) hx hb dX8_literal_15 (by rw [b_9]; decide) (by rw [b_9]; decide) (by rw [b_9]; rfl) (by decide) ?_
        refine lv_aload_n hx hb dX8_literal_53 rfl (lv_at hl 0 rfl) ?_
        refine w_gR (z := 16) (C := RX8) (T := TX8) hx hb hts n8 hown hK hP t_0 rfl 5 (by decide) L33 rfl rfl dX8_literal_54 ?_
        refine lv_iload_n hx hb dX8_literal_57 rfl (lv_at hl 1 rfl) ?_
        obtain ⟨r_10, S_11, hc_12, hf⟩ := bo_inv hf
        refine w_ci (va_runV (As := [.int a1]) (rest := []) ⟨hx, hb, hml, hown, hts⟩ (c_X3_leftOf l D y ad aL aU hI n S_2 a1 _ _ hc_12) (cwV 1 hts gX8_literal_X3_leftOf rfl rfl rfl (by decide +kernel) ⟨Nat.le_of_ble_eq_true rfl, Nat.le_of_ble_eq_true rfl⟩) (pwu_V t_16 rfl hP hK hZ hS) rfl rfl hl.1 rfl (lv_room (Nat.le_of_ble_eq_true rfl)) dX8_literal_58 ⟨Nat.zero_le _, Nat.zero_le _⟩) hS (fun H locs hP hS => ?_)
        exact w_iret hx hb hr hlocks hP hS (rt_inv hf) dX8_literal_61
      · have hf := if_f b_9 hf
        by_cases b_13 : a2 = (2 : Int32)
        · have hf := if_t b_13 hf
          refine lv_tableIn (tgt := 62) hx hb dX8_literal_15 (by rw [b_13]; decide) (by rw [b_13]; decide) (by rw [b_13]; rfl) (by decide) ?_
          refine lv_aload_n hx hb dX8_literal_62 rfl (lv_at hl 0 rfl) ?_
          refine w_gR (z := 16) (C := RX8) (T := TX8) hx hb hts n8 hown hK hP t_0 rfl 5 (by decide) L33 rfl rfl dX8_literal_63 ?_
          refine lv_iload_n hx hb dX8_literal_66 rfl (lv_at hl 1 rfl) ?_
          obtain ⟨r_14, S_15, hc_16, hf⟩ := bo_inv hf
          refine w_ci (va_runV (As := [.int a1]) (rest := []) ⟨hx, hb, hml, hown, hts⟩ (c_X3_rightOf l D y ad aL aU hI n S_2 a1 _ _ hc_16) (cwV 1 hts gX8_literal_X3_rightOf rfl rfl rfl (by decide +kernel) ⟨Nat.le_of_ble_eq_true rfl, Nat.le_of_ble_eq_true rfl⟩) (pwu_V t_16 rfl hP hK hZ hS) rfl rfl hl.1 rfl (lv_room (Nat.le_of_ble_eq_true rfl)) dX8_literal_67 ⟨Nat.zero_le _, Nat.zero_le _⟩) hS (fun H locs hP hS => ?_)
          exact w_iret hx hb hr hlocks hP hS (rt_inv hf) dX8_literal_70
        · have hf := if_f b_13 hf
          by_cases b_17 : a2 = (3 : Int32)
          · have hf := if_t b_17 hf
            refine lv_tableIn (tgt := 71) hx hb dX8_literal_15 (by rw [b_17]; decide) (by rw [b_17]; decide) (by rw [b_17]; rfl) (by decide) ?_
            refine lv_aload_n hx hb dX8_literal_71 rfl (lv_at hl 0 rfl) ?_
            refine w_gR (z := 16) (C := RX8) (T := TX8) hx hb hts n8 hown hK hP t_0 rfl 5 (by decide) L33 rfl rfl dX8_literal_72 ?_
            refine lv_iload_n hx hb dX8_literal_75 rfl (lv_at hl 1 rfl) ?_
            obtain ⟨r_18, S_19, hc_20, hf⟩ := bo_inv hf
            refine w_ci (va_runV (As := [.int a1]) (rest := []) ⟨hx, hb, hml, hown, hts⟩ (c_X3_numberOf l D y ad aL aU hI n S_2 a1 _ _ hc_20) (cwV 1 hts gX8_literal_X3_numberOf rfl rfl rfl (by decide +kernel) ⟨Nat.le_of_ble_eq_true rfl, Nat.le_of_ble_eq_true rfl⟩) (pwu_V t_16 rfl hP hK hZ hS) rfl rfl hl.1 rfl (lv_room (Nat.le_of_ble_eq_true rfl)) dX8_literal_76 ⟨Nat.zero_le _, Nat.zero_le _⟩) hS (fun H locs hP hS => ?_)
            exact w_iret hx hb hr hlocks hP hS (rt_inv hf) dX8_literal_79
          · have hf := if_f b_17 hf
            refine lv_tableOut (tgt := 80) hx hb dX8_literal_15 (by have i0 : (a2).toInt ≠ (0 : Int) := ne_toInt b_5; have i1 : (a2).toInt ≠ (1 : Int) := ne_toInt b_9; have i2 : (a2).toInt ≠ (2 : Int) := ne_toInt b_13; have i3 : (a2).toInt ≠ (3 : Int) := ne_toInt b_17; omega) (by decide) ?_
            refine lv_ldc (v := (-2000000003)) hx hb hown K62 dX8_literal_80 ?_
            exact w_iret hx hb hr hlocks hP hS (rt_inv hf) dX8_literal_82
  · have hf := if_t b_4 hf
    refine lv_ldc (v := (-2000000002)) hx hb hown K116 dX8_literal_11 ?_
    exact w_iret hx hb hr hlocks hP hS (rt_inv hf) dX8_literal_13
set_option maxHeartbeats 4000000 in
set_option maxRecDepth 100000 in
theorem c_X8_ensureExchanged (l : Launch) (D : va_G) (y : y4) (ad : Nat → Nat) (aL aU : Nat) (hI : Inj ad) (n : Nat) (S : St) (r : Unit) (S2 : St) (hf : f_X8_ensureExchanged n S = some (r, S2)) : KV l D y ad aL aU yX8_ensureExchanged wsX8_ensureExchanged ({ frames := 6, cells := 0, slots := 0, locals := 152 }) [.ref (ad 0)] S r S2 := by
  refine Met.ofW (cc := cX8_ensureExchanged) (maxL := 1) (ret := none) (by decide) rfl ?_
  intro p e s m args below meth c s₁ B hml hv
  obtain ⟨rfl, hP, hK, hZ⟩ := hv
  have hx := B.exec
  have hb := B.bytes
  have hr := B.returns
  have hts := atoms_spec (ws := wsX8_ensureExchanged) B.pre
  have hown : s.vm.findClass RX8 = some m.cls := findClass_of_methodNamed B.named
  have hlocks := B.notSynchronized
  have hS : va_S (AA ad) s.heap s.heap [] := va_S.rf
  have L42 := hts (.fieldLink RX8 42 "JoinedTheories" "exchanger" "LJoinedTheories$Exchanger;") (by decide +kernel)
  have L250 := hts (.fieldLink RX8 250 "JoinedTheories" "exchangeKnown" "Z") (by decide +kernel)
  have n8 : ∀ w ∈ wsX80, w ∈ wsX8_ensureExchanged := by decide +kernel
  have hl := lv_entry ([.ref (ad 0)]) (n := 1) (Nat.le_of_ble_eq_true rfl)
  rw [lg_entry_eq]
  generalize (lg_sl ([.ref (ad 0)]) ++ List.replicate (1 - (lg_sl ([.ref (ad 0)])).length) Slot.unset).toArray = ls at hl ⊢
  have hl : lv_has ls 1 [(0, .ref (ad 0))] := hl
  unfold f_X8_ensureExchanged at hf
  refine lv_aload_n hx hb dX8_ensureExchanged_0 rfl (lv_at hl 0 rfl) ?_
  refine w_gI (C := RX8) (T := TX8) hx hb hts n8 hown hK hP t_0 rfl 12 (by decide) L250 rfl dX8_ensureExchanged_1 ?_
  refine lv_if_ne (tgt := 19) hx hb dX8_ensureExchanged_4 (by decide) (fun b_1 => ?_) (fun b_1 => ?_)
  · have hf := if_f b_1 hf
    exact w_vret hx hb hr hlocks hP hS (rt_inv hf) dX8_ensureExchanged_19
  · have hf := if_t b_1 hf
    refine lv_aload_n hx hb dX8_ensureExchanged_7 rfl (lv_at hl 0 rfl) ?_
    refine w_gR (z := 21) (C := RX8) (T := TX8) hx hb hts n8 hown hK hP t_0 rfl 6 (by decide) L42 rfl rfl dX8_ensureExchanged_8 ?_
    obtain ⟨r_2, S_3, hc_4, hf⟩ := bo_inv hf
    refine w_cv (va_runV (As := []) (rest := []) ⟨hx, hb, hml, hown, hts⟩ (c_X2_run l D y ad aL aU hI n S  _ _ hc_4) (cwV 0 hts gX8_ensureExchanged_X2_run rfl rfl rfl (by decide +kernel) ⟨Nat.le_of_ble_eq_true rfl, Nat.le_of_ble_eq_true rfl⟩) (pwu_V t_21 rfl hP hK hZ hS) rfl rfl hl.1 rfl (lv_room (Nat.le_of_ble_eq_true rfl)) dX8_ensureExchanged_11 ⟨Nat.zero_le _, Nat.zero_le _⟩) hS (fun H locs hP hS => ?_)
    refine lv_aload_n hx hb dX8_ensureExchanged_14 rfl (lv_at hl 0 rfl) ?_
    refine lv_iconst (v := 1) hx hb dX8_ensureExchanged_15 (by decide) ?_
    obtain ⟨S_5, eS_5, hf⟩ := bd_inv hf
    refine w_pI (ty := .boolean) (C := RX8) (T := TX8) hx hb hts n8 tyX8 tyX8_ok nmX8 hown hK hI hP hS t_0 rfl 12 (by decide) L250 rfl rfl rfl ⟨rfl, rfl⟩ dX8_ensureExchanged_16 (fun H locs hP hS => ?_)
    rw [← eS_5] at hP
    exact w_vret hx hb hr hlocks hP hS (rt_inv hf) dX8_ensureExchanged_19
set_option maxHeartbeats 4000000 in
set_option maxRecDepth 100000 in
theorem c_X8_term (l : Launch) (D : va_G) (y : y4) (ad : Nat → Nat) (aL aU : Nat) (hI : Inj ad) (n : Nat) (S : St) (a1 : Int32) (a2 : Int32) (r : Int32) (S2 : St) (hf : f_X8_term n S a1 a2 = some (r, S2)) : KI l D y ad aL aU yX8_term wsX8_term ({ frames := 7, cells := 0, slots := 0, locals := 172 }) [.ref (ad 0), .int a1, .int a2] S r S2 := by
  refine Met.ofW (cc := cX8_term) (maxL := 3) (ret := (some .int)) (by decide) rfl ?_
  intro p e s m args below meth c s₁ B hml hv
  obtain ⟨rfl, hP, hK, hZ⟩ := hv
  have hx := B.exec
  have hb := B.bytes
  have hr := B.returns
  have hts := atoms_spec (ws := wsX8_term) B.pre
  have hown : s.vm.findClass RX8 = some m.cls := findClass_of_methodNamed B.named
  have hlocks := B.notSynchronized
  have hS : va_S (AA ad) s.heap s.heap [] := va_S.rf
  have L23 := hts (.fieldLink RX8 23 "JoinedTheories" "terms" "LJoinedTheories$Terms;") (by decide +kernel)
  have L33 := hts (.fieldLink RX8 33 "JoinedTheories" "literals" "LJoinedTheories$Literals;") (by decide +kernel)
  have L42 := hts (.fieldLink RX8 42 "JoinedTheories" "exchanger" "LJoinedTheories$Exchanger;") (by decide +kernel)
  have K62 := hts (.constant RX8 62 (-2000000003)) (by decide +kernel)
  have K116 := hts (.constant RX8 116 (-2000000002)) (by decide +kernel)
  have n8 : ∀ w ∈ wsX80, w ∈ wsX8_term := by decide +kernel
  have hl := lv_entry ([.ref (ad 0), .int a1, .int a2]) (n := 3) (Nat.le_of_ble_eq_true rfl)
  rw [lg_entry_eq]
  generalize (lg_sl ([.ref (ad 0), .int a1, .int a2]) ++ List.replicate (3 - (lg_sl ([.ref (ad 0), .int a1, .int a2])).length) Slot.unset).toArray = ls at hl ⊢
  have hl : lv_has ls 3 [(0, .ref (ad 0)), (1, .int a1), (2, .int a2)] := hl
  unfold f_X8_term at hf
  refine lv_aload_n hx hb dX8_term_0 rfl (lv_at hl 0 rfl) ?_
  refine w_gR (z := 6) (C := RX8) (T := TX8) hx hb hts n8 hown hK hP t_0 rfl 3 (by decide) L23 rfl rfl dX8_term_1 ?_
  refine lv_iload_n hx hb dX8_term_4 rfl (lv_at hl 1 rfl) ?_
  obtain ⟨r_1, S_2, hc_3, hf⟩ := bo_inv hf
  refine w_ci (va_runV (As := [.int a1]) (rest := []) ⟨hx, hb, hml, hown, hts⟩ (c_X7_has l D y ad aL aU hI n 6 isT6 S a1 _ _ hc_3) (cwV 1 hts gX8_term_X7_has rfl rfl rfl (by decide +kernel) ⟨Nat.le_of_ble_eq_true rfl, Nat.le_of_ble_eq_true rfl⟩) (pwu_V t_6 rfl hP hK hZ hS) rfl rfl hl.1 rfl (lv_room (Nat.le_of_ble_eq_true rfl)) dX8_term_5 ⟨Nat.zero_le _, Nat.zero_le _⟩) hS (fun H locs hP hS => ?_)
  refine lv_if_ne (tgt := 14) hx hb dX8_term_8 (by decide) (fun b_4 => ?_) (fun b_4 => ?_)
  · have hf := if_f b_4 hf
    refine lv_iload_n hx hb dX8_term_14 rfl (lv_at hl 2 rfl) ?_
    by_cases b_5 : a2 = (0 : Int32)
    · have hf := if_t b_5 hf
      refine lv_tableIn (tgt := 52) hx hb dX8_term_15 (by rw [b_5]; decide) (by rw [b_5]; decide) (by rw [b_5]; rfl) (by decide) ?_
      refine lv_aload_n hx hb dX8_term_52 rfl (lv_at hl 0 rfl) ?_
      refine w_gR (z := 6) (C := RX8) (T := TX8) hx hb hts n8 hown hK hP t_0 rfl 3 (by decide) L23 rfl rfl dX8_term_53 ?_
      refine lv_iload_n hx hb dX8_term_56 rfl (lv_at hl 1 rfl) ?_
      obtain ⟨r_6, S_7, hc_8, hf⟩ := bo_inv hf
      refine w_ci (va_runV (As := [.int a1]) (rest := []) ⟨hx, hb, hml, hown, hts⟩ (c_X7_kindOf l D y ad aL aU hI n 6 isT6 S_2 a1 _ _ hc_8) (cwV 1 hts gX8_term_X7_kindOf rfl rfl rfl (by decide +kernel) ⟨Nat.le_of_ble_eq_true rfl, Nat.le_of_ble_eq_true rfl⟩) (pwu_V t_6 rfl hP hK hZ hS) rfl rfl hl.1 rfl (lv_room (Nat.le_of_ble_eq_true rfl)) dX8_term_57 ⟨Nat.zero_le _, Nat.zero_le _⟩) hS (fun H locs hP hS => ?_)
      exact w_iret hx hb hr hlocks hP hS (rt_inv hf) dX8_term_60
    · have hf := if_f b_5 hf
      by_cases b_9 : a2 = (1 : Int32)
      · have hf := if_t b_9 hf
        refine lv_tableIn (tgt := 61) hx hb dX8_term_15 (by rw [b_9]; decide) (by rw [b_9]; decide) (by rw [b_9]; rfl) (by decide) ?_
        refine lv_aload_n hx hb dX8_term_61 rfl (lv_at hl 0 rfl) ?_
        refine w_gR (z := 6) (C := RX8) (T := TX8) hx hb hts n8 hown hK hP t_0 rfl 3 (by decide) L23 rfl rfl dX8_term_62 ?_
        refine lv_iload_n hx hb dX8_term_65 rfl (lv_at hl 1 rfl) ?_
        obtain ⟨r_10, S_11, hc_12, hf⟩ := bo_inv hf
        refine w_ci (va_runV (As := [.int a1]) (rest := []) ⟨hx, hb, hml, hown, hts⟩ (c_X7_firstOf l D y ad aL aU hI n 6 isT6 S_2 a1 _ _ hc_12) (cwV 1 hts gX8_term_X7_firstOf rfl rfl rfl (by decide +kernel) ⟨Nat.le_of_ble_eq_true rfl, Nat.le_of_ble_eq_true rfl⟩) (pwu_V t_6 rfl hP hK hZ hS) rfl rfl hl.1 rfl (lv_room (Nat.le_of_ble_eq_true rfl)) dX8_term_66 ⟨Nat.zero_le _, Nat.zero_le _⟩) hS (fun H locs hP hS => ?_)
        exact w_iret hx hb hr hlocks hP hS (rt_inv hf) dX8_term_69
      · have hf := if_f b_9 hf
        by_cases b_13 : a2 = (2 : Int32)
        · have hf := if_t b_13 hf
          refine lv_tableIn (tgt := 70) hx hb dX8_term_15 (by rw [b_13]; decide) (by rw [b_13]; decide) (by rw [b_13]; rfl) (by decide) ?_
          refine lv_aload_n hx hb dX8_term_70 rfl (lv_at hl 0 rfl) ?_
          refine w_gR (z := 6) (C := RX8) (T := TX8) hx hb hts n8 hown hK hP t_0 rfl 3 (by decide) L23 rfl rfl dX8_term_71 ?_
          refine lv_iload_n hx hb dX8_term_74 rfl (lv_at hl 1 rfl) ?_
          obtain ⟨r_14, S_15, hc_16, hf⟩ := bo_inv hf
          refine w_ci (va_runV (As := [.int a1]) (rest := []) ⟨hx, hb, hml, hown, hts⟩ (c_X7_secondOf l D y ad aL aU hI n 6 isT6 S_2 a1 _ _ hc_16) (cwV 1 hts gX8_term_X7_secondOf rfl rfl rfl (by decide +kernel) ⟨Nat.le_of_ble_eq_true rfl, Nat.le_of_ble_eq_true rfl⟩) (pwu_V t_6 rfl hP hK hZ hS) rfl rfl hl.1 rfl (lv_room (Nat.le_of_ble_eq_true rfl)) dX8_term_75 ⟨Nat.zero_le _, Nat.zero_le _⟩) hS (fun H locs hP hS => ?_)
          exact w_iret hx hb hr hlocks hP hS (rt_inv hf) dX8_term_78
        · have hf := if_f b_13 hf
          by_cases b_17 : a2 = (3 : Int32)
          · have hf := if_t b_17 hf
            refine lv_tableIn (tgt := 79) hx hb dX8_term_15 (by rw [b_17]; decide) (by rw [b_17]; decide) (by rw [b_17]; rfl) (by decide) ?_
            refine lv_aload_n hx hb dX8_term_79 rfl (lv_at hl 0 rfl) ?_
            refine w_gR (z := 6) (C := RX8) (T := TX8) hx hb hts n8 hown hK hP t_0 rfl 3 (by decide) L23 rfl rfl dX8_term_80 ?_
            refine lv_iload_n hx hb dX8_term_83 rfl (lv_at hl 1 rfl) ?_
            obtain ⟨r_18, S_19, hc_20, hf⟩ := bo_inv hf
            refine w_ci (va_runV (As := [.int a1]) (rest := []) ⟨hx, hb, hml, hown, hts⟩ (c_X7_lengthOf l D y ad aL aU hI n 6 isT6 S_2 a1 _ _ hc_20) (cwV 1 hts gX8_term_X7_lengthOf rfl rfl rfl (by decide +kernel) ⟨Nat.le_of_ble_eq_true rfl, Nat.le_of_ble_eq_true rfl⟩) (pwu_V t_6 rfl hP hK hZ hS) rfl rfl hl.1 rfl (lv_room (Nat.le_of_ble_eq_true rfl)) dX8_term_84 ⟨Nat.zero_le _, Nat.zero_le _⟩) hS (fun H locs hP hS => ?_)
            exact w_iret hx hb hr hlocks hP hS (rt_inv hf) dX8_term_87
          · have hf := if_f b_17 hf
            by_cases b_21 : a2 = (4 : Int32)
            · have hf := if_t b_21 hf
              refine lv_tableIn (tgt := 88) hx hb dX8_term_15 (by rw [b_21]; decide) (by rw [b_21]; decide) (by rw [b_21]; rfl) (by decide) ?_
              refine lv_aload_n hx hb dX8_term_88 rfl (lv_at hl 0 rfl) ?_
              obtain ⟨r_22, S_23, hc_24, hf⟩ := bo_inv hf
              refine w_cv (va_runV (As := []) (rest := []) ⟨hx, hb, hml, hown, hts⟩ (c_X8_ensureExchanged l D y ad aL aU hI n S_2  _ _ hc_24) (cwV 0 hts gX8_term_X8_ensureExchanged rfl rfl rfl (by decide +kernel) ⟨Nat.le_of_ble_eq_true rfl, Nat.le_of_ble_eq_true rfl⟩) (pwu_V t_0 rfl hP hK hZ hS) rfl rfl hl.1 rfl (lv_room (Nat.le_of_ble_eq_true rfl)) dX8_term_89 ⟨Nat.zero_le _, Nat.zero_le _⟩) hS (fun H locs hP hS => ?_)
              refine lv_aload_n hx hb dX8_term_92 rfl (lv_at hl 0 rfl) ?_
              refine w_gR (z := 21) (C := RX8) (T := TX8) hx hb hts n8 hown hK hP t_0 rfl 6 (by decide) L42 rfl rfl dX8_term_93 ?_
              refine lv_iload_n hx hb dX8_term_96 rfl (lv_at hl 1 rfl) ?_
              obtain ⟨r_25, S_26, hc_27, hf⟩ := bo_inv hf
              refine w_ci (va_runV (As := [.int a1]) (rest := []) ⟨hx, hb, hml, hown, hts⟩ (c_X2_smallestSame l D y ad aL aU hI n S_23 a1 _ _ hc_27) (cwV 1 hts gX8_term_X2_smallestSame rfl rfl rfl (by decide +kernel) ⟨Nat.le_of_ble_eq_true rfl, Nat.le_of_ble_eq_true rfl⟩) (pwu_V t_21 rfl hP hK hZ hS) rfl rfl hl.1 rfl (lv_room (Nat.le_of_ble_eq_true rfl)) dX8_term_97 ⟨Nat.zero_le _, Nat.zero_le _⟩) hS (fun H locs hP hS => ?_)
              exact w_iret hx hb hr hlocks hP hS (rt_inv hf) dX8_term_100
            · have hf := if_f b_21 hf
              by_cases b_28 : a2 = (5 : Int32)
              · have hf := if_t b_28 hf
                refine lv_tableIn (tgt := 101) hx hb dX8_term_15 (by rw [b_28]; decide) (by rw [b_28]; decide) (by rw [b_28]; rfl) (by decide) ?_
                refine lv_aload_n hx hb dX8_term_101 rfl (lv_at hl 0 rfl) ?_
                refine w_gR (z := 16) (C := RX8) (T := TX8) hx hb hts n8 hown hK hP t_0 rfl 5 (by decide) L33 rfl rfl dX8_term_102 ?_
                refine lv_iload_n hx hb dX8_term_105 rfl (lv_at hl 1 rfl) ?_
                obtain ⟨r_29, S_30, hc_31, hf⟩ := bo_inv hf
                refine w_ci (va_runV (As := [.int a1]) (rest := []) ⟨hx, hb, hml, hown, hts⟩ (c_X3_howManyHave l D y ad aL aU hI n S_2 a1 _ _ hc_31) (cwV 1 hts gX8_term_X3_howManyHave rfl rfl rfl (by decide +kernel) ⟨Nat.le_of_ble_eq_true rfl, Nat.le_of_ble_eq_true rfl⟩) (pwu_V t_16 rfl hP hK hZ hS) rfl rfl hl.1 rfl (lv_room (Nat.le_of_ble_eq_true rfl)) dX8_term_106 ⟨Nat.zero_le _, Nat.zero_le _⟩) hS (fun H locs hP hS => ?_)
                exact w_iret hx hb hr hlocks hP hS (rt_inv hf) dX8_term_109
              · have hf := if_f b_28 hf
                refine lv_tableOut (tgt := 110) hx hb dX8_term_15 (by have i0 : (a2).toInt ≠ (0 : Int) := ne_toInt b_5; have i1 : (a2).toInt ≠ (1 : Int) := ne_toInt b_9; have i2 : (a2).toInt ≠ (2 : Int) := ne_toInt b_13; have i3 : (a2).toInt ≠ (3 : Int) := ne_toInt b_17; have i4 : (a2).toInt ≠ (4 : Int) := ne_toInt b_21; have i5 : (a2).toInt ≠ (5 : Int) := ne_toInt b_28; omega) (by decide) ?_
                refine lv_ldc (v := (-2000000003)) hx hb hown K62 dX8_term_110 ?_
                exact w_iret hx hb hr hlocks hP hS (rt_inv hf) dX8_term_112
  · have hf := if_t b_4 hf
    refine lv_ldc (v := (-2000000002)) hx hb hown K116 dX8_term_11 ?_
    exact w_iret hx hb hr hlocks hP hS (rt_inv hf) dX8_term_13
set_option maxHeartbeats 4000000 in
set_option maxRecDepth 100000 in
theorem c_X8_exchange (l : Launch) (D : va_G) (y : y4) (ad : Nat → Nat) (aL aU : Nat) (hI : Inj ad) (n : Nat) (S : St) (a1 : Int32) (r : Int32) (S2 : St) (hf : f_X8_exchange n S a1 = some (r, S2)) : KI l D y ad aL aU yX8_exchange wsX8_exchange ({ frames := 7, cells := 0, slots := 0, locals := 172 }) [.ref (ad 0), .int a1] S r S2 := by
  refine Met.ofW (cc := cX8_exchange) (maxL := 2) (ret := (some .int)) (by decide) rfl ?_
  intro p e s m args below meth c s₁ B hml hv
  obtain ⟨rfl, hP, hK, hZ⟩ := hv
  have hx := B.exec
  have hb := B.bytes
  have hr := B.returns
  have hts := atoms_spec (ws := wsX8_exchange) B.pre
  have hown : s.vm.findClass RX8 = some m.cls := findClass_of_methodNamed B.named
  have hlocks := B.notSynchronized
  have hS : va_S (AA ad) s.heap s.heap [] := va_S.rf
  have L42 := hts (.fieldLink RX8 42 "JoinedTheories" "exchanger" "LJoinedTheories$Exchanger;") (by decide +kernel)
  have K62 := hts (.constant RX8 62 (-2000000003)) (by decide +kernel)
  have n8 : ∀ w ∈ wsX80, w ∈ wsX8_exchange := by decide +kernel
  have hl := lv_entry ([.ref (ad 0), .int a1]) (n := 2) (Nat.le_of_ble_eq_true rfl)
  rw [lg_entry_eq]
  generalize (lg_sl ([.ref (ad 0), .int a1]) ++ List.replicate (2 - (lg_sl ([.ref (ad 0), .int a1])).length) Slot.unset).toArray = ls at hl ⊢
  have hl : lv_has ls 2 [(0, .ref (ad 0)), (1, .int a1)] := hl
  unfold f_X8_exchange at hf
  refine lv_iload_n hx hb dX8_exchange_0 rfl (lv_at hl 1 rfl) ?_
  refine lv_if_lt (tgt := 9) hx hb dX8_exchange_1 (by decide) (fun b_1 => ?_) (fun b_1 => ?_)
  · have hf := if_t b_1 hf
    refine lv_ldc (v := (-2000000003)) hx hb hown K62 dX8_exchange_9 ?_
    exact w_iret hx hb hr hlocks hP hS (rt_inv hf) dX8_exchange_11
  · have hf := if_f b_1 hf
    refine lv_iload_n hx hb dX8_exchange_4 rfl (lv_at hl 1 rfl) ?_
    refine lv_iconst (v := 2) hx hb dX8_exchange_5 (by decide) ?_
    refine lv_icmp_le (tgt := 12) hx hb dX8_exchange_6 (by decide) (fun b_2 => ?_) (fun b_2 => ?_)
    · have hf := if_t b_2 hf
      refine lv_aload_n hx hb dX8_exchange_12 rfl (lv_at hl 0 rfl) ?_
      obtain ⟨r_3, S_4, hc_5, hf⟩ := bo_inv hf
      refine w_cv (va_runV (As := []) (rest := []) ⟨hx, hb, hml, hown, hts⟩ (c_X8_ensureExchanged l D y ad aL aU hI n S  _ _ hc_5) (cwV 0 hts gX8_exchange_X8_ensureExchanged rfl rfl rfl (by decide +kernel) ⟨Nat.le_of_ble_eq_true rfl, Nat.le_of_ble_eq_true rfl⟩) (pwu_V t_0 rfl hP hK hZ hS) rfl rfl hl.1 rfl (lv_room (Nat.le_of_ble_eq_true rfl)) dX8_exchange_13 ⟨Nat.zero_le _, Nat.zero_le _⟩) hS (fun H locs hP hS => ?_)
      refine lv_iload_n hx hb dX8_exchange_16 rfl (lv_at hl 1 rfl) ?_
      by_cases b_6 : a1 = (0 : Int32)
      · have hf := if_t b_6 hf
        refine lv_lookup (tgt := 44) hx hb dX8_exchange_17 (by decide) (by rw [b_6] <;> rfl) (by decide) ?_
        refine lv_aload_n hx hb dX8_exchange_44 rfl (lv_at hl 0 rfl) ?_
        refine w_gR (z := 21) (C := RX8) (T := TX8) hx hb hts n8 hown hK hP t_0 rfl 6 (by decide) L42 rfl rfl dX8_exchange_45 ?_
        obtain ⟨r_7, S_8, hc_9, hf⟩ := bo_inv hf
        refine w_ci (va_runV (As := []) (rest := []) ⟨hx, hb, hml, hown, hts⟩ (c_X2_hasConflict l D y ad aL aU hI n S_4  _ _ hc_9) (cwV 0 hts gX8_exchange_X2_hasConflict rfl rfl rfl (by decide +kernel) ⟨Nat.le_of_ble_eq_true rfl, Nat.le_of_ble_eq_true rfl⟩) (pwu_V t_21 rfl hP hK hZ hS) rfl rfl hl.1 rfl (lv_room (Nat.le_of_ble_eq_true rfl)) dX8_exchange_48 ⟨Nat.zero_le _, Nat.zero_le _⟩) hS (fun H locs hP hS => ?_)
        refine lv_if_eq (tgt := 58) hx hb dX8_exchange_51 (by decide) (fun b_10 => ?_) (fun b_10 => ?_)
        · have hf := if_t b_10 hf
          refine lv_iconst (v := 0) hx hb dX8_exchange_58 (by decide) ?_
          exact w_iret hx hb hr hlocks hP hS (rt_inv hf) dX8_exchange_59
        · have hf := if_f b_10 hf
          refine lv_iconst (v := 1) hx hb dX8_exchange_54 (by decide) ?_
          refine lv_goto (tgt := 59) hx hb dX8_exchange_55 (by decide) ?_
          exact w_iret hx hb hr hlocks hP hS (rt_inv hf) dX8_exchange_59
      · have hf := if_f b_6 hf
        by_cases b_11 : a1 = (1 : Int32)
        · have hf := if_t b_11 hf
          refine lv_lookup (tgt := 60) hx hb dX8_exchange_17 (by decide) (by rw [b_11] <;> rfl) (by decide) ?_
          refine lv_aload_n hx hb dX8_exchange_60 rfl (lv_at hl 0 rfl) ?_
          refine w_gR (z := 21) (C := RX8) (T := TX8) hx hb hts n8 hown hK hP t_0 rfl 6 (by decide) L42 rfl rfl dX8_exchange_61 ?_
          obtain ⟨r_12, S_13, hc_14, hf⟩ := bo_inv hf
          refine w_ci (va_runV (As := []) (rest := []) ⟨hx, hb, hml, hown, hts⟩ (c_X2_rounds l D y ad aL aU hI n S_4  _ _ hc_14) (cwV 0 hts gX8_exchange_X2_rounds rfl rfl rfl (by decide +kernel) ⟨Nat.le_of_ble_eq_true rfl, Nat.le_of_ble_eq_true rfl⟩) (pwu_V t_21 rfl hP hK hZ hS) rfl rfl hl.1 rfl (lv_room (Nat.le_of_ble_eq_true rfl)) dX8_exchange_64 ⟨Nat.zero_le _, Nat.zero_le _⟩) hS (fun H locs hP hS => ?_)
          exact w_iret hx hb hr hlocks hP hS (rt_inv hf) dX8_exchange_67
        · have hf := if_f b_11 hf
          refine lv_lookup (tgt := 68) hx hb dX8_exchange_17 (by decide) (lku2 b_6 b_11) (by decide) ?_
          refine lv_aload_n hx hb dX8_exchange_68 rfl (lv_at hl 0 rfl) ?_
          refine w_gR (z := 21) (C := RX8) (T := TX8) hx hb hts n8 hown hK hP t_0 rfl 6 (by decide) L42 rfl rfl dX8_exchange_69 ?_
          obtain ⟨r_15, S_16, hc_17, hf⟩ := bo_inv hf
          refine w_ci (va_runV (As := []) (rest := []) ⟨hx, hb, hml, hown, hts⟩ (c_X2_classes l D y ad aL aU hI n S_4  _ _ hc_17) (cwV 0 hts gX8_exchange_X2_classes rfl rfl rfl (by decide +kernel) ⟨Nat.le_of_ble_eq_true rfl, Nat.le_of_ble_eq_true rfl⟩) (pwu_V t_21 rfl hP hK hZ hS) rfl rfl hl.1 rfl (lv_room (Nat.le_of_ble_eq_true rfl)) dX8_exchange_72 ⟨Nat.zero_le _, Nat.zero_le _⟩) hS (fun H locs hP hS => ?_)
          exact w_iret hx hb hr hlocks hP hS (rt_inv hf) dX8_exchange_75
    · have hf := if_f b_2 hf
      refine lv_ldc (v := (-2000000003)) hx hb hown K62 dX8_exchange_9 ?_
      exact w_iret hx hb hr hlocks hP hS (rt_inv hf) dX8_exchange_11
set_option maxHeartbeats 4000000 in
set_option maxRecDepth 100000 in
theorem c_X8_asAnswer (l : Launch) (D : va_G) (y : y4) (ad : Nat → Nat) (aL aU : Nat) (hI : Inj ad) (n : Nat) (S : St) (a0 : Int64) (r : Int32) (S2 : St) (hf : f_X8_asAnswer n S a0 = some (r, S2)) : KI l D y ad aL aU yX8_asAnswer wsX8_asAnswer ({ frames := 2, cells := 0, slots := 0, locals := 41 }) [.long a0] S r S2 := by
  refine Met.ofW (cc := cX8_asAnswer) (maxL := 2) (ret := (some .int)) (by decide) rfl ?_
  intro p e s m args below meth c s₁ B hml hv
  obtain ⟨rfl, hP, hK, hZ⟩ := hv
  have hx := B.exec
  have hb := B.bytes
  have hr := B.returns
  have hts := atoms_spec (ws := wsX8_asAnswer) B.pre
  have hown : s.vm.findClass RX8 = some m.cls := findClass_of_methodNamed B.named
  have hlocks := B.notSynchronized
  have hS : va_S (AA ad) s.heap s.heap [] := va_S.rf
  have K134 := hts (.constant RX8 134 (-2000000006)) (by decide +kernel)
  have K268 := hts (.constantLong RX8 268 (1000000000000000)) (by decide +kernel)
  have K270 := hts (.constant RX8 270 (-2000000001)) (by decide +kernel)
  have hl := lv_entry ([.long a0]) (n := 2) (Nat.le_of_ble_eq_true rfl)
  rw [lg_entry_eq]
  generalize (lg_sl ([.long a0]) ++ List.replicate (2 - (lg_sl ([.long a0])).length) Slot.unset).toArray = ls at hl ⊢
  have hl : lv_has ls 2 [(0, .long a0)] := hl
  unfold f_X8_asAnswer at hf
  refine lv_lload_n hx hb dX8_asAnswer_0 rfl (lv_at hl 0 rfl) ?_
  refine lv_ldc2 (v := (1000000000000000)) hx hb hown K268 dX8_asAnswer_1 ?_
  refine W.lcmp hx hb dX8_asAnswer_4 ?_
  refine lv_if_ne (tgt := 12) hx hb dX8_asAnswer_5 (by decide) (fun b_1 => ?_) (fun b_1 => ?_)
  · have hf := if_f b_1 hf
    refine lv_lload_n hx hb dX8_asAnswer_12 rfl (lv_at hl 0 rfl) ?_
    obtain ⟨r_2, S_3, hc_4, hf⟩ := bo_inv hf
    refine w_ci (va_runS (As := [.long a0]) (rest := []) ⟨hx, hb, hml, hown, hts⟩ (c_X8_isGreat l D y ad aL aU hI n S a0 _ _ hc_4) (cwS 1 hts gX8_asAnswer_X8_isGreat rfl rfl rfl (by decide +kernel) ⟨Nat.le_of_ble_eq_true rfl, Nat.le_of_ble_eq_true rfl⟩) (pwu_S hP hK hZ hS) rfl rfl hl.1 rfl (lv_room (Nat.le_of_ble_eq_true rfl)) dX8_asAnswer_13 ⟨Nat.zero_le _, Nat.zero_le _⟩) hS (fun H locs hP hS => ?_)
    refine lv_if_eq (tgt := 24) hx hb dX8_asAnswer_16 (by decide) (fun b_5 => ?_) (fun b_5 => ?_)
    · have hf := if_t b_5 hf
      refine lv_lload_n hx hb dX8_asAnswer_24 rfl (lv_at hl 0 rfl) ?_
      refine lv_l2i hx hb dX8_asAnswer_25 rfl ?_
      exact w_iret hx hb hr hlocks hP hS (rt_inv hf) dX8_asAnswer_26
    · have hf := if_f b_5 hf
      refine lv_ldc (v := (-2000000006)) hx hb hown K134 dX8_asAnswer_19 ?_
      refine lv_goto (tgt := 26) hx hb dX8_asAnswer_21 (by decide) ?_
      exact w_iret hx hb hr hlocks hP hS (rt_inv hf) dX8_asAnswer_26
  · have hf := if_t b_1 hf
    refine lv_ldcw (v := (-2000000001)) hx hb hown K270 dX8_asAnswer_8 ?_
    exact w_iret hx hb hr hlocks hP hS (rt_inv hf) dX8_asAnswer_11
set_option maxHeartbeats 4000000 in
set_option maxRecDepth 100000 in
theorem c_X8_far (l : Launch) (D : va_G) (y : y4) (ad : Nat → Nat) (aL aU : Nat) (hI : Inj ad) (n : Nat) (S : St) (a1 : Int32) (a2 : Int32) (r : Int32) (S2 : St) (hf : f_X8_far n S a1 a2 = some (r, S2)) : KI l D y ad aL aU yX8_far wsX8_far ({ frames := 7, cells := 0, slots := 0, locals := 172 }) [.ref (ad 0), .int a1, .int a2] S r S2 := by
  refine Met.ofW (cc := cX8_far) (maxL := 3) (ret := (some .int)) (by decide) rfl ?_
  intro p e s m args below meth c s₁ B hml hv
  obtain ⟨rfl, hP, hK, hZ⟩ := hv
  have hx := B.exec
  have hb := B.bytes
  have hr := B.returns
  have hts := atoms_spec (ws := wsX8_far) B.pre
  have hown : s.vm.findClass RX8 = some m.cls := findClass_of_methodNamed B.named
  have hlocks := B.notSynchronized
  have hS : va_S (AA ad) s.heap s.heap [] := va_S.rf
  have L23 := hts (.fieldLink RX8 23 "JoinedTheories" "terms" "LJoinedTheories$Terms;") (by decide +kernel)
  have L42 := hts (.fieldLink RX8 42 "JoinedTheories" "exchanger" "LJoinedTheories$Exchanger;") (by decide +kernel)
  have K76 := hts (.constant RX8 76 (-2000000004)) (by decide +kernel)
  have K116 := hts (.constant RX8 116 (-2000000002)) (by decide +kernel)
  have n8 : ∀ w ∈ wsX80, w ∈ wsX8_far := by decide +kernel
  have hl := lv_entry ([.ref (ad 0), .int a1, .int a2]) (n := 3) (Nat.le_of_ble_eq_true rfl)
  rw [lg_entry_eq]
  generalize (lg_sl ([.ref (ad 0), .int a1, .int a2]) ++ List.replicate (3 - (lg_sl ([.ref (ad 0), .int a1, .int a2])).length) Slot.unset).toArray = ls at hl ⊢
  have hl : lv_has ls 3 [(0, .ref (ad 0)), (1, .int a1), (2, .int a2)] := hl
  unfold f_X8_far at hf
  refine lv_aload_n hx hb dX8_far_0 rfl (lv_at hl 0 rfl) ?_
  refine w_gR (z := 6) (C := RX8) (T := TX8) hx hb hts n8 hown hK hP t_0 rfl 3 (by decide) L23 rfl rfl dX8_far_1 ?_
  refine lv_iload_n hx hb dX8_far_4 rfl (lv_at hl 1 rfl) ?_
  obtain ⟨r_1, S_2, hc_3, hf⟩ := bo_inv hf
  refine w_ci (va_runV (As := [.int a1]) (rest := []) ⟨hx, hb, hml, hown, hts⟩ (c_X7_has l D y ad aL aU hI n 6 isT6 S a1 _ _ hc_3) (cwV 1 hts gX8_far_X7_has rfl rfl rfl (by decide +kernel) ⟨Nat.le_of_ble_eq_true rfl, Nat.le_of_ble_eq_true rfl⟩) (pwu_V t_6 rfl hP hK hZ hS) rfl rfl hl.1 rfl (lv_room (Nat.le_of_ble_eq_true rfl)) dX8_far_5 ⟨Nat.zero_le _, Nat.zero_le _⟩) hS (fun H locs hP hS => ?_)
  refine lv_if_eq (tgt := 22) hx hb dX8_far_8 (by decide) (fun b_4 => ?_) (fun b_4 => ?_)
  · have hf := if_t b_4 hf
    refine lv_ldc (v := (-2000000002)) hx hb hown K116 dX8_far_22 ?_
    exact w_iret hx hb hr hlocks hP hS (rt_inv hf) dX8_far_24
  · have hf := if_f b_4 hf
    refine lv_aload_n hx hb dX8_far_11 rfl (lv_at hl 0 rfl) ?_
    refine w_gR (z := 6) (C := RX8) (T := TX8) hx hb hts n8 hown hK hP t_0 rfl 3 (by decide) L23 rfl rfl dX8_far_12 ?_
    refine lv_iload_n hx hb dX8_far_15 rfl (lv_at hl 2 rfl) ?_
    obtain ⟨r_5, S_6, hc_7, hf⟩ := bo_inv hf
    refine w_ci (va_runV (As := [.int a2]) (rest := []) ⟨hx, hb, hml, hown, hts⟩ (c_X7_has l D y ad aL aU hI n 6 isT6 S_2 a2 _ _ hc_7) (cwV 1 hts gX8_far_X7_has rfl rfl rfl (by decide +kernel) ⟨Nat.le_of_ble_eq_true rfl, Nat.le_of_ble_eq_true rfl⟩) (pwu_V t_6 rfl hP hK hZ hS) rfl rfl hl.1 rfl (lv_room (Nat.le_of_ble_eq_true rfl)) dX8_far_16 ⟨Nat.zero_le _, Nat.zero_le _⟩) hS (fun H locs hP hS => ?_)
    refine lv_if_ne (tgt := 25) hx hb dX8_far_19 (by decide) (fun b_8 => ?_) (fun b_8 => ?_)
    · have hf := if_f b_8 hf
      refine lv_aload_n hx hb dX8_far_25 rfl (lv_at hl 0 rfl) ?_
      obtain ⟨r_9, S_10, hc_11, hf⟩ := bo_inv hf
      refine w_cv (va_runV (As := []) (rest := []) ⟨hx, hb, hml, hown, hts⟩ (c_X8_ensureExchanged l D y ad aL aU hI n S_6  _ _ hc_11) (cwV 0 hts gX8_far_X8_ensureExchanged rfl rfl rfl (by decide +kernel) ⟨Nat.le_of_ble_eq_true rfl, Nat.le_of_ble_eq_true rfl⟩) (pwu_V t_0 rfl hP hK hZ hS) rfl rfl hl.1 rfl (lv_room (Nat.le_of_ble_eq_true rfl)) dX8_far_26 ⟨Nat.zero_le _, Nat.zero_le _⟩) hS (fun H locs hP hS => ?_)
      refine lv_aload_n hx hb dX8_far_29 rfl (lv_at hl 0 rfl) ?_
      refine w_gR (z := 21) (C := RX8) (T := TX8) hx hb hts n8 hown hK hP t_0 rfl 6 (by decide) L42 rfl rfl dX8_far_30 ?_
      obtain ⟨r_12, S_13, hc_14, hf⟩ := bo_inv hf
      refine w_ci (va_runV (As := []) (rest := []) ⟨hx, hb, hml, hown, hts⟩ (c_X2_hasConflict l D y ad aL aU hI n S_10  _ _ hc_14) (cwV 0 hts gX8_far_X2_hasConflict rfl rfl rfl (by decide +kernel) ⟨Nat.le_of_ble_eq_true rfl, Nat.le_of_ble_eq_true rfl⟩) (pwu_V t_21 rfl hP hK hZ hS) rfl rfl hl.1 rfl (lv_room (Nat.le_of_ble_eq_true rfl)) dX8_far_33 ⟨Nat.zero_le _, Nat.zero_le _⟩) hS (fun H locs hP hS => ?_)
      refine lv_if_eq (tgt := 42) hx hb dX8_far_36 (by decide) (fun b_15 => ?_) (fun b_15 => ?_)
      · have hf := if_t b_15 hf
        refine lv_aload_n hx hb dX8_far_42 rfl (lv_at hl 0 rfl) ?_
        refine w_gR (z := 21) (C := RX8) (T := TX8) hx hb hts n8 hown hK hP t_0 rfl 6 (by decide) L42 rfl rfl dX8_far_43 ?_
        refine lv_iload_n hx hb dX8_far_46 rfl (lv_at hl 1 rfl) ?_
        refine lv_iload_n hx hb dX8_far_47 rfl (lv_at hl 2 rfl) ?_
        obtain ⟨r_16, S_17, hc_18, hf⟩ := bo_inv hf
        refine w_cl (va_runV (As := [.int a1, .int a2]) (rest := []) ⟨hx, hb, hml, hown, hts⟩ (c_X2_distance l D y ad aL aU hI n S_13 a1 a2 _ _ hc_18) (cwV 2 hts gX8_far_X2_distance rfl rfl rfl (by decide +kernel) ⟨Nat.le_of_ble_eq_true rfl, Nat.le_of_ble_eq_true rfl⟩) (pwu_V t_21 rfl hP hK hZ hS) rfl rfl hl.1 rfl (lv_room (Nat.le_of_ble_eq_true rfl)) dX8_far_48 ⟨Nat.zero_le _, Nat.zero_le _⟩) hS (fun H locs hP hS => ?_)
        obtain ⟨r_19, S_20, hc_21, hf⟩ := bo_inv hf
        refine w_ci (va_runS (As := [.long r_16]) (rest := []) ⟨hx, hb, hml, hown, hts⟩ (c_X8_asAnswer l D y ad aL aU hI n S_17 r_16 _ _ hc_21) (cwS 1 hts gX8_far_X8_asAnswer rfl rfl rfl (by decide +kernel) ⟨Nat.le_of_ble_eq_true rfl, Nat.le_of_ble_eq_true rfl⟩) (pwu_S hP hK hZ hS) rfl rfl hl.1 rfl (lv_room (Nat.le_of_ble_eq_true rfl)) dX8_far_51 ⟨Nat.zero_le _, Nat.zero_le _⟩) hS (fun H locs hP hS => ?_)
        exact w_iret hx hb hr hlocks hP hS (rt_inv hf) dX8_far_54
      · have hf := if_f b_15 hf
        refine lv_ldc (v := (-2000000004)) hx hb hown K76 dX8_far_39 ?_
        exact w_iret hx hb hr hlocks hP hS (rt_inv hf) dX8_far_41
    · have hf := if_t b_8 hf
      refine lv_ldc (v := (-2000000002)) hx hb hown K116 dX8_far_22 ?_
      exact w_iret hx hb hr hlocks hP hS (rt_inv hf) dX8_far_24
set_option maxHeartbeats 4000000 in
set_option maxRecDepth 100000 in
theorem c_X8_isSolvable (l : Launch) (D : va_G) (y : y4) (ad : Nat → Nat) (aL aU : Nat) (hI : Inj ad) (n : Nat) (S : St) (r : Int32) (S2 : St) (hf : f_X8_isSolvable n S = some (r, S2)) : KI l D y ad aL aU yX8_isSolvable wsX8_isSolvable ({ frames := 30, cells := 0, slots := 0, locals := 747 }) [.ref (ad 0)] S r S2 := by
  refine Met.ofW (cc := cX8_isSolvable) (maxL := 1) (ret := (some .boolean)) (by decide) rfl ?_
  intro p e s m args below meth c s₁ B hml hv
  obtain ⟨rfl, hP, hK, hZ⟩ := hv
  have hx := B.exec
  have hb := B.bytes
  have hr := B.returns
  have hts := atoms_spec (ws := wsX8_isSolvable) B.pre
  have hown : s.vm.findClass RX8 = some m.cls := findClass_of_methodNamed B.named
  have hlocks := B.notSynchronized
  have hS : va_S (AA ad) s.heap s.heap [] := va_S.rf
  have L33 := hts (.fieldLink RX8 33 "JoinedTheories" "literals" "LJoinedTheories$Literals;") (by decide +kernel)
  have L49 := hts (.fieldLink RX8 49 "JoinedTheories" "solver" "LJoinedTheories$Solver;") (by decide +kernel)
  have L253 := hts (.fieldLink RX8 253 "JoinedTheories" "solvableKnown" "Z") (by decide +kernel)
  have L259 := hts (.fieldLink RX8 259 "JoinedTheories" "solvable" "Z") (by decide +kernel)
  have n8 : ∀ w ∈ wsX80, w ∈ wsX8_isSolvable := by decide +kernel
  have hl := lv_entry ([.ref (ad 0)]) (n := 1) (Nat.le_of_ble_eq_true rfl)
  rw [lg_entry_eq]
  generalize (lg_sl ([.ref (ad 0)]) ++ List.replicate (1 - (lg_sl ([.ref (ad 0)])).length) Slot.unset).toArray = ls at hl ⊢
  have hl : lv_has ls 1 [(0, .ref (ad 0))] := hl
  unfold f_X8_isSolvable at hf
  refine lv_aload_n hx hb dX8_isSolvable_0 rfl (lv_at hl 0 rfl) ?_
  refine w_gI (C := RX8) (T := TX8) hx hb hts n8 hown hK hP t_0 rfl 13 (by decide) L253 rfl dX8_isSolvable_1 ?_
  refine lv_if_ne (tgt := 37) hx hb dX8_isSolvable_4 (by decide) (fun b_1 => ?_) (fun b_1 => ?_)
  · have hf := if_f b_1 hf
    refine lv_aload_n hx hb dX8_isSolvable_37 rfl (lv_at hl 0 rfl) ?_
    refine w_gI (C := RX8) (T := TX8) hx hb hts n8 hown hK hP t_0 rfl 14 (by decide) L259 rfl dX8_isSolvable_38 ?_
    obtain ⟨g_2, hf⟩ := gd_inv hf
    exact w_zret hx hb hr hlocks g_2 hP hS (rt_inv hf) dX8_isSolvable_41
  · have hf := if_t b_1 hf
    refine lv_aload_n hx hb dX8_isSolvable_7 rfl (lv_at hl 0 rfl) ?_
    refine w_gR (z := 23) (C := RX8) (T := TX8) hx hb hts n8 hown hK hP t_0 rfl 7 (by decide) L49 rfl rfl dX8_isSolvable_8 ?_
    refine lv_aload_n hx hb dX8_isSolvable_11 rfl (lv_at hl 0 rfl) ?_
    refine w_gR (z := 16) (C := RX8) (T := TX8) hx hb hts n8 hown hK hP t_0 rfl 5 (by decide) L33 rfl rfl dX8_isSolvable_12 ?_
    obtain ⟨r_3, S_4, hc_5, hf⟩ := bo_inv hf
    refine w_ci (va_runV (As := []) (rest := [.ref (ad 23)]) ⟨hx, hb, hml, hown, hts⟩ (c_X3_all l D y ad aL aU hI n S  _ _ hc_5) (cwV 0 hts gX8_isSolvable_X3_all rfl rfl rfl (by decide +kernel) ⟨Nat.le_of_ble_eq_true rfl, Nat.le_of_ble_eq_true rfl⟩) (pwu_V t_16 rfl hP hK hZ hS) rfl rfl hl.1 rfl (lv_room (Nat.le_of_ble_eq_true rfl)) dX8_isSolvable_15 ⟨Nat.zero_le _, Nat.zero_le _⟩) hS (fun H locs hP hS => ?_)
    obtain ⟨r_6, S_7, hc_8, hf⟩ := bo_inv hf
    refine w_cv (va_runV (As := [.int r_3]) (rest := []) ⟨hx, hb, hml, hown, hts⟩ (c_X6_load l D y ad aL aU hI n S_4 r_3 _ _ hc_8) (cwV 1 hts gX8_isSolvable_X6_load rfl rfl rfl (by decide +kernel) ⟨Nat.le_of_ble_eq_true rfl, Nat.le_of_ble_eq_true rfl⟩) (pwu_V t_23 rfl hP hK hZ hS) rfl rfl hl.1 rfl (lv_room (Nat.le_of_ble_eq_true rfl)) dX8_isSolvable_18 ⟨Nat.zero_le _, Nat.zero_le _⟩) hS (fun H locs hP hS => ?_)
    refine lv_aload_n hx hb dX8_isSolvable_21 rfl (lv_at hl 0 rfl) ?_
    refine lv_aload_n hx hb dX8_isSolvable_22 rfl (lv_at hl 0 rfl) ?_
    refine w_gR (z := 23) (C := RX8) (T := TX8) hx hb hts n8 hown hK hP t_0 rfl 7 (by decide) L49 rfl rfl dX8_isSolvable_23 ?_
    obtain ⟨r_9, S_10, hc_11, hf⟩ := bo_inv hf
    refine w_ci (va_runV (As := []) (rest := [.ref (ad 0)]) ⟨hx, hb, hml, hown, hts⟩ (c_X6_hasSolution l D y ad aL aU hI n S_7  _ _ hc_11) (cwV 0 hts gX8_isSolvable_X6_hasSolution rfl rfl rfl (by decide +kernel) ⟨Nat.le_of_ble_eq_true rfl, Nat.le_of_ble_eq_true rfl⟩) (pwu_V t_23 rfl hP hK hZ hS) rfl rfl hl.1 rfl (lv_room (Nat.le_of_ble_eq_true rfl)) dX8_isSolvable_26 ⟨Nat.zero_le _, Nat.zero_le _⟩) hS (fun H locs hP hS => ?_)
    obtain ⟨g_13, hf⟩ := gd_inv hf
    obtain ⟨S_12, eS_12, hf⟩ := bd_inv hf
    refine w_pI (ty := .boolean) (C := RX8) (T := TX8) hx hb hts n8 tyX8 tyX8_ok nmX8 hown hK hI hP hS t_0 rfl 14 (by decide) L259 rfl rfl rfl (zok g_13) dX8_isSolvable_29 (fun H locs hP hS => ?_)
    rw [← eS_12] at hP
    refine lv_aload_n hx hb dX8_isSolvable_32 rfl (lv_at hl 0 rfl) ?_
    refine lv_iconst (v := 1) hx hb dX8_isSolvable_33 (by decide) ?_
    obtain ⟨S_14, eS_14, hf⟩ := bd_inv hf
    refine w_pI (ty := .boolean) (C := RX8) (T := TX8) hx hb hts n8 tyX8 tyX8_ok nmX8 hown hK hI hP hS t_0 rfl 13 (by decide) L253 rfl rfl rfl ⟨rfl, rfl⟩ dX8_isSolvable_34 (fun H locs hP hS => ?_)
    rw [← eS_14] at hP
    refine lv_aload_n hx hb dX8_isSolvable_37 rfl (lv_at hl 0 rfl) ?_
    refine w_gI (C := RX8) (T := TX8) hx hb hts n8 hown hK hP t_0 rfl 14 (by decide) L259 rfl dX8_isSolvable_38 ?_
    obtain ⟨g_15, hf⟩ := gd_inv hf
    exact w_zret hx hb hr hlocks g_15 hP hS (rt_inv hf) dX8_isSolvable_41
set_option maxHeartbeats 4000000 in
set_option maxRecDepth 100000 in
theorem c_X8_holds (l : Launch) (D : va_G) (y : y4) (ad : Nat → Nat) (aL aU : Nat) (hI : Inj ad) (n : Nat) (S : St) (r : Int32) (S2 : St) (hf : f_X8_holds n S = some (r, S2)) : KI l D y ad aL aU yX8_holds wsX8_holds ({ frames := 31, cells := 0, slots := 0, locals := 767 }) [.ref (ad 0)] S r S2 := by
  refine Met.ofW (cc := cX8_holds) (maxL := 1) (ret := (some .int)) (by decide) rfl ?_
  intro p e s m args below meth c s₁ B hml hv
  obtain ⟨rfl, hP, hK, hZ⟩ := hv
  have hx := B.exec
  have hb := B.bytes
  have hr := B.returns
  have hts := atoms_spec (ws := wsX8_holds) B.pre
  have hown : s.vm.findClass RX8 = some m.cls := findClass_of_methodNamed B.named
  have hlocks := B.notSynchronized
  have hS : va_S (AA ad) s.heap s.heap [] := va_S.rf
  have hl := lv_entry ([.ref (ad 0)]) (n := 1) (Nat.le_of_ble_eq_true rfl)
  rw [lg_entry_eq]
  generalize (lg_sl ([.ref (ad 0)]) ++ List.replicate (1 - (lg_sl ([.ref (ad 0)])).length) Slot.unset).toArray = ls at hl ⊢
  have hl : lv_has ls 1 [(0, .ref (ad 0))] := hl
  unfold f_X8_holds at hf
  refine lv_aload_n hx hb dX8_holds_0 rfl (lv_at hl 0 rfl) ?_
  obtain ⟨r_1, S_2, hc_3, hf⟩ := bo_inv hf
  refine w_ci (va_runV (As := []) (rest := []) ⟨hx, hb, hml, hown, hts⟩ (c_X8_isSolvable l D y ad aL aU hI n S  _ _ hc_3) (cwV 0 hts gX8_holds_X8_isSolvable rfl rfl rfl (by decide +kernel) ⟨Nat.le_of_ble_eq_true rfl, Nat.le_of_ble_eq_true rfl⟩) (pwu_V t_0 rfl hP hK hZ hS) rfl rfl hl.1 rfl (lv_room (Nat.le_of_ble_eq_true rfl)) dX8_holds_1 ⟨Nat.zero_le _, Nat.zero_le _⟩) hS (fun H locs hP hS => ?_)
  refine lv_if_eq (tgt := 11) hx hb dX8_holds_4 (by decide) (fun b_4 => ?_) (fun b_4 => ?_)
  · have hf := if_t b_4 hf
    refine lv_iconst (v := 0) hx hb dX8_holds_11 (by decide) ?_
    exact w_iret hx hb hr hlocks hP hS (rt_inv hf) dX8_holds_12
  · have hf := if_f b_4 hf
    refine lv_iconst (v := 1) hx hb dX8_holds_7 (by decide) ?_
    refine lv_goto (tgt := 12) hx hb dX8_holds_8 (by decide) ?_
    exact w_iret hx hb hr hlocks hP hS (rt_inv hf) dX8_holds_12
set_option maxHeartbeats 4000000 in
set_option maxRecDepth 100000 in
theorem c_X8_apart (l : Launch) (D : va_G) (y : y4) (ad : Nat → Nat) (aL aU : Nat) (hI : Inj ad) (n : Nat) (S : St) (a1 : Int32) (a2 : Int32) (r : Int32) (S2 : St) (hf : f_X8_apart n S a1 a2 = some (r, S2)) : KI l D y ad aL aU yX8_apart wsX8_apart ({ frames := 31, cells := 0, slots := 0, locals := 767 }) [.ref (ad 0), .int a1, .int a2] S r S2 := by
  refine Met.ofW (cc := cX8_apart) (maxL := 3) (ret := (some .int)) (by decide) rfl ?_
  intro p e s m args below meth c s₁ B hml hv
  obtain ⟨rfl, hP, hK, hZ⟩ := hv
  have hx := B.exec
  have hb := B.bytes
  have hr := B.returns
  have hts := atoms_spec (ws := wsX8_apart) B.pre
  have hown : s.vm.findClass RX8 = some m.cls := findClass_of_methodNamed B.named
  have hlocks := B.notSynchronized
  have hS : va_S (AA ad) s.heap s.heap [] := va_S.rf
  have L23 := hts (.fieldLink RX8 23 "JoinedTheories" "terms" "LJoinedTheories$Terms;") (by decide +kernel)
  have L33 := hts (.fieldLink RX8 33 "JoinedTheories" "literals" "LJoinedTheories$Literals;") (by decide +kernel)
  have L49 := hts (.fieldLink RX8 49 "JoinedTheories" "solver" "LJoinedTheories$Solver;") (by decide +kernel)
  have K76 := hts (.constant RX8 76 (-2000000004)) (by decide +kernel)
  have K116 := hts (.constant RX8 116 (-2000000002)) (by decide +kernel)
  have n8 : ∀ w ∈ wsX80, w ∈ wsX8_apart := by decide +kernel
  have hl := lv_entry ([.ref (ad 0), .int a1, .int a2]) (n := 3) (Nat.le_of_ble_eq_true rfl)
  rw [lg_entry_eq]
  generalize (lg_sl ([.ref (ad 0), .int a1, .int a2]) ++ List.replicate (3 - (lg_sl ([.ref (ad 0), .int a1, .int a2])).length) Slot.unset).toArray = ls at hl ⊢
  have hl : lv_has ls 3 [(0, .ref (ad 0)), (1, .int a1), (2, .int a2)] := hl
  unfold f_X8_apart at hf
  refine lv_aload_n hx hb dX8_apart_0 rfl (lv_at hl 0 rfl) ?_
  refine w_gR (z := 6) (C := RX8) (T := TX8) hx hb hts n8 hown hK hP t_0 rfl 3 (by decide) L23 rfl rfl dX8_apart_1 ?_
  refine lv_iload_n hx hb dX8_apart_4 rfl (lv_at hl 1 rfl) ?_
  obtain ⟨r_1, S_2, hc_3, hf⟩ := bo_inv hf
  refine w_ci (va_runV (As := [.int a1]) (rest := []) ⟨hx, hb, hml, hown, hts⟩ (c_X7_has l D y ad aL aU hI n 6 isT6 S a1 _ _ hc_3) (cwV 1 hts gX8_apart_X7_has rfl rfl rfl (by decide +kernel) ⟨Nat.le_of_ble_eq_true rfl, Nat.le_of_ble_eq_true rfl⟩) (pwu_V t_6 rfl hP hK hZ hS) rfl rfl hl.1 rfl (lv_room (Nat.le_of_ble_eq_true rfl)) dX8_apart_5 ⟨Nat.zero_le _, Nat.zero_le _⟩) hS (fun H locs hP hS => ?_)
  refine lv_if_eq (tgt := 22) hx hb dX8_apart_8 (by decide) (fun b_4 => ?_) (fun b_4 => ?_)
  · have hf := if_t b_4 hf
    refine lv_ldc (v := (-2000000002)) hx hb hown K116 dX8_apart_22 ?_
    exact w_iret hx hb hr hlocks hP hS (rt_inv hf) dX8_apart_24
  · have hf := if_f b_4 hf
    refine lv_aload_n hx hb dX8_apart_11 rfl (lv_at hl 0 rfl) ?_
    refine w_gR (z := 6) (C := RX8) (T := TX8) hx hb hts n8 hown hK hP t_0 rfl 3 (by decide) L23 rfl rfl dX8_apart_12 ?_
    refine lv_iload_n hx hb dX8_apart_15 rfl (lv_at hl 2 rfl) ?_
    obtain ⟨r_5, S_6, hc_7, hf⟩ := bo_inv hf
    refine w_ci (va_runV (As := [.int a2]) (rest := []) ⟨hx, hb, hml, hown, hts⟩ (c_X7_has l D y ad aL aU hI n 6 isT6 S_2 a2 _ _ hc_7) (cwV 1 hts gX8_apart_X7_has rfl rfl rfl (by decide +kernel) ⟨Nat.le_of_ble_eq_true rfl, Nat.le_of_ble_eq_true rfl⟩) (pwu_V t_6 rfl hP hK hZ hS) rfl rfl hl.1 rfl (lv_room (Nat.le_of_ble_eq_true rfl)) dX8_apart_16 ⟨Nat.zero_le _, Nat.zero_le _⟩) hS (fun H locs hP hS => ?_)
    refine lv_if_ne (tgt := 25) hx hb dX8_apart_19 (by decide) (fun b_8 => ?_) (fun b_8 => ?_)
    · have hf := if_f b_8 hf
      refine lv_aload_n hx hb dX8_apart_25 rfl (lv_at hl 0 rfl) ?_
      obtain ⟨r_9, S_10, hc_11, hf⟩ := bo_inv hf
      refine w_ci (va_runV (As := []) (rest := []) ⟨hx, hb, hml, hown, hts⟩ (c_X8_isSolvable l D y ad aL aU hI n S_6  _ _ hc_11) (cwV 0 hts gX8_apart_X8_isSolvable rfl rfl rfl (by decide +kernel) ⟨Nat.le_of_ble_eq_true rfl, Nat.le_of_ble_eq_true rfl⟩) (pwu_V t_0 rfl hP hK hZ hS) rfl rfl hl.1 rfl (lv_room (Nat.le_of_ble_eq_true rfl)) dX8_apart_26 ⟨Nat.zero_le _, Nat.zero_le _⟩) hS (fun H locs hP hS => ?_)
      refine lv_if_ne (tgt := 35) hx hb dX8_apart_29 (by decide) (fun b_12 => ?_) (fun b_12 => ?_)
      · have hf := if_f b_12 hf
        refine lv_aload_n hx hb dX8_apart_35 rfl (lv_at hl 0 rfl) ?_
        refine w_gR (z := 23) (C := RX8) (T := TX8) hx hb hts n8 hown hK hP t_0 rfl 7 (by decide) L49 rfl rfl dX8_apart_36 ?_
        refine lv_aload_n hx hb dX8_apart_39 rfl (lv_at hl 0 rfl) ?_
        refine w_gR (z := 16) (C := RX8) (T := TX8) hx hb hts n8 hown hK hP t_0 rfl 5 (by decide) L33 rfl rfl dX8_apart_40 ?_
        obtain ⟨r_13, S_14, hc_15, hf⟩ := bo_inv hf
        refine w_ci (va_runV (As := []) (rest := [.ref (ad 23)]) ⟨hx, hb, hml, hown, hts⟩ (c_X3_all l D y ad aL aU hI n S_10  _ _ hc_15) (cwV 0 hts gX8_apart_X3_all rfl rfl rfl (by decide +kernel) ⟨Nat.le_of_ble_eq_true rfl, Nat.le_of_ble_eq_true rfl⟩) (pwu_V t_16 rfl hP hK hZ hS) rfl rfl hl.1 rfl (lv_room (Nat.le_of_ble_eq_true rfl)) dX8_apart_43 ⟨Nat.zero_le _, Nat.zero_le _⟩) hS (fun H locs hP hS => ?_)
        obtain ⟨r_16, S_17, hc_18, hf⟩ := bo_inv hf
        refine w_cv (va_runV (As := [.int r_13]) (rest := []) ⟨hx, hb, hml, hown, hts⟩ (c_X6_load l D y ad aL aU hI n S_14 r_13 _ _ hc_18) (cwV 1 hts gX8_apart_X6_load rfl rfl rfl (by decide +kernel) ⟨Nat.le_of_ble_eq_true rfl, Nat.le_of_ble_eq_true rfl⟩) (pwu_V t_23 rfl hP hK hZ hS) rfl rfl hl.1 rfl (lv_room (Nat.le_of_ble_eq_true rfl)) dX8_apart_46 ⟨Nat.zero_le _, Nat.zero_le _⟩) hS (fun H locs hP hS => ?_)
        refine lv_aload_n hx hb dX8_apart_49 rfl (lv_at hl 0 rfl) ?_
        refine w_gR (z := 23) (C := RX8) (T := TX8) hx hb hts n8 hown hK hP t_0 rfl 7 (by decide) L49 rfl rfl dX8_apart_50 ?_
        refine lv_iload_n hx hb dX8_apart_53 rfl (lv_at hl 1 rfl) ?_
        refine lv_iload_n hx hb dX8_apart_54 rfl (lv_at hl 2 rfl) ?_
        obtain ⟨r_19, S_20, hc_21, hf⟩ := bo_inv hf
        refine w_cv (va_runV (As := [.int a1, .int a2]) (rest := []) ⟨hx, hb, hml, hown, hts⟩ (c_X6_aimAt l D y ad aL aU hI n S_17 a1 a2 _ _ hc_21) (cwV 2 hts gX8_apart_X6_aimAt rfl rfl rfl (by decide +kernel) ⟨Nat.le_of_ble_eq_true rfl, Nat.le_of_ble_eq_true rfl⟩) (pwu_V t_23 rfl hP hK hZ hS) rfl rfl hl.1 rfl (lv_room (Nat.le_of_ble_eq_true rfl)) dX8_apart_55 ⟨Nat.zero_le _, Nat.zero_le _⟩) hS (fun H locs hP hS => ?_)
        refine lv_aload_n hx hb dX8_apart_58 rfl (lv_at hl 0 rfl) ?_
        refine w_gR (z := 23) (C := RX8) (T := TX8) hx hb hts n8 hown hK hP t_0 rfl 7 (by decide) L49 rfl rfl dX8_apart_59 ?_
        obtain ⟨r_22, S_23, hc_24, hf⟩ := bo_inv hf
        refine w_ci (va_runV (As := []) (rest := []) ⟨hx, hb, hml, hown, hts⟩ (c_X6_hasSolution l D y ad aL aU hI n S_20  _ _ hc_24) (cwV 0 hts gX8_apart_X6_hasSolution rfl rfl rfl (by decide +kernel) ⟨Nat.le_of_ble_eq_true rfl, Nat.le_of_ble_eq_true rfl⟩) (pwu_V t_23 rfl hP hK hZ hS) rfl rfl hl.1 rfl (lv_room (Nat.le_of_ble_eq_true rfl)) dX8_apart_62 ⟨Nat.zero_le _, Nat.zero_le _⟩) hS (fun H locs hP hS => ?_)
        refine lv_if_eq (tgt := 81) hx hb dX8_apart_65 (by decide) (fun b_25 => ?_) (fun b_25 => ?_)
        · have hf := if_t b_25 hf
          refine lv_ldc (v := (-2000000004)) hx hb hown K76 dX8_apart_81 ?_
          exact w_iret hx hb hr hlocks hP hS (rt_inv hf) dX8_apart_83
        · have hf := if_f b_25 hf
          refine lv_aload_n hx hb dX8_apart_68 rfl (lv_at hl 0 rfl) ?_
          refine w_gR (z := 23) (C := RX8) (T := TX8) hx hb hts n8 hown hK hP t_0 rfl 7 (by decide) L49 rfl rfl dX8_apart_69 ?_
          obtain ⟨r_26, S_27, hc_28, hf⟩ := bo_inv hf
          refine w_cl (va_runV (As := []) (rest := []) ⟨hx, hb, hml, hown, hts⟩ (c_X6_greatest l D y ad aL aU hI n S_23  _ _ hc_28) (cwV 0 hts gX8_apart_X6_greatest rfl rfl rfl (by decide +kernel) ⟨Nat.le_of_ble_eq_true rfl, Nat.le_of_ble_eq_true rfl⟩) (pwu_V t_23 rfl hP hK hZ hS) rfl rfl hl.1 rfl (lv_room (Nat.le_of_ble_eq_true rfl)) dX8_apart_72 ⟨Nat.zero_le _, Nat.zero_le _⟩) hS (fun H locs hP hS => ?_)
          obtain ⟨r_29, S_30, hc_31, hf⟩ := bo_inv hf
          refine w_ci (va_runS (As := [.long r_26]) (rest := []) ⟨hx, hb, hml, hown, hts⟩ (c_X8_asAnswer l D y ad aL aU hI n S_27 r_26 _ _ hc_31) (cwS 1 hts gX8_apart_X8_asAnswer rfl rfl rfl (by decide +kernel) ⟨Nat.le_of_ble_eq_true rfl, Nat.le_of_ble_eq_true rfl⟩) (pwu_S hP hK hZ hS) rfl rfl hl.1 rfl (lv_room (Nat.le_of_ble_eq_true rfl)) dX8_apart_75 ⟨Nat.zero_le _, Nat.zero_le _⟩) hS (fun H locs hP hS => ?_)
          refine lv_goto (tgt := 83) hx hb dX8_apart_78 (by decide) ?_
          exact w_iret hx hb hr hlocks hP hS (rt_inv hf) dX8_apart_83
      · have hf := if_t b_12 hf
        refine lv_ldc (v := (-2000000004)) hx hb hown K76 dX8_apart_32 ?_
        exact w_iret hx hb hr hlocks hP hS (rt_inv hf) dX8_apart_34
    · have hf := if_t b_8 hf
      refine lv_ldc (v := (-2000000002)) hx hb hown K116 dX8_apart_22 ?_
      exact w_iret hx hb hr hlocks hP hS (rt_inv hf) dX8_apart_24
set_option maxHeartbeats 4000000 in
set_option maxRecDepth 100000 in
theorem c_X8_implied (l : Launch) (D : va_G) (y : y4) (ad : Nat → Nat) (aL aU : Nat) (hI : Inj ad) (n : Nat) (S : St) (a1 : Int32) (a2 : Int32) (a3 : Int32) (r : Int32) (S2 : St) (hf : f_X8_implied n S a1 a2 a3 = some (r, S2)) : KI l D y ad aL aU yX8_implied wsX8_implied ({ frames := 31, cells := 0, slots := 0, locals := 767 }) [.ref (ad 0), .int a1, .int a2, .int a3] S r S2 := by
  refine Met.ofW (cc := cX8_implied) (maxL := 4) (ret := (some .int)) (by decide) rfl ?_
  intro p e s m args below meth c s₁ B hml hv
  obtain ⟨rfl, hP, hK, hZ⟩ := hv
  have hx := B.exec
  have hb := B.bytes
  have hr := B.returns
  have hts := atoms_spec (ws := wsX8_implied) B.pre
  have hown : s.vm.findClass RX8 = some m.cls := findClass_of_methodNamed B.named
  have hlocks := B.notSynchronized
  have hS : va_S (AA ad) s.heap s.heap [] := va_S.rf
  have L23 := hts (.fieldLink RX8 23 "JoinedTheories" "terms" "LJoinedTheories$Terms;") (by decide +kernel)
  have L33 := hts (.fieldLink RX8 33 "JoinedTheories" "literals" "LJoinedTheories$Literals;") (by decide +kernel)
  have L49 := hts (.fieldLink RX8 49 "JoinedTheories" "solver" "LJoinedTheories$Solver;") (by decide +kernel)
  have K62 := hts (.constant RX8 62 (-2000000003)) (by decide +kernel)
  have K76 := hts (.constant RX8 76 (-2000000004)) (by decide +kernel)
  have K116 := hts (.constant RX8 116 (-2000000002)) (by decide +kernel)
  have n8 : ∀ w ∈ wsX80, w ∈ wsX8_implied := by decide +kernel
  have hl := lv_entry ([.ref (ad 0), .int a1, .int a2, .int a3]) (n := 4) (Nat.le_of_ble_eq_true rfl)
  rw [lg_entry_eq]
  generalize (lg_sl ([.ref (ad 0), .int a1, .int a2, .int a3]) ++ List.replicate (4 - (lg_sl ([.ref (ad 0), .int a1, .int a2, .int a3])).length) Slot.unset).toArray = ls at hl ⊢
  have hl : lv_has ls 4 [(0, .ref (ad 0)), (1, .int a1), (2, .int a2), (3, .int a3)] := hl
  have j104 : ∀ (S : St) (H : Heap) (locs : List Loc) (ls : Array Slot), f_X8_implied_104 n S = some (r, S2) → PW D y ad S H → va_S (AA ad) s.heap H locs → lv_has ls 4 [(0, .ref (ad 0))] → W p l e (headSpec wsX8_implied ({ frames := 31, cells := 0, slots := 0, locals := 767 })).room s m ([.ref (ad 0), .int a1, .int a2, .int a3] : List Value).toArray below meth c H locs 0 0 (QI below r S2 D y ad ([.ref (ad 0), .int a1, .int a2, .int a3] : List Value).toArray s) (F0 m 104 ls []) := by
    intro  S H locs ls hf hP hS hl
    unfold f_X8_implied_104 at hf
    refine lv_aload_n hx hb dX8_implied_104 rfl (lv_at hl 0 rfl) ?_
    refine w_gR (z := 23) (C := RX8) (T := TX8) hx hb hts n8 hown hK hP t_0 rfl 7 (by decide) L49 rfl rfl dX8_implied_105 ?_
    obtain ⟨r_1, S_2, hc_3, hf⟩ := bo_inv hf
    refine w_ci (va_runV (As := []) (rest := []) ⟨hx, hb, hml, hown, hts⟩ (c_X6_hasSolution l D y ad aL aU hI n S  _ _ hc_3) (cwV 0 hts gX8_implied_X6_hasSolution rfl rfl rfl (by decide +kernel) ⟨Nat.le_of_ble_eq_true rfl, Nat.le_of_ble_eq_true rfl⟩) (pwu_V t_23 rfl hP hK hZ hS) rfl rfl hl.1 rfl (lv_room (Nat.le_of_ble_eq_true rfl)) dX8_implied_108 ⟨Nat.zero_le _, Nat.zero_le _⟩) hS (fun H locs hP hS => ?_)
    refine lv_if_eq (tgt := 118) hx hb dX8_implied_111 (by decide) (fun b_4 => ?_) (fun b_4 => ?_)
    · have hf := if_t b_4 hf
      refine lv_iconst (v := 1) hx hb dX8_implied_118 (by decide) ?_
      exact w_iret hx hb hr hlocks hP hS (rt_inv hf) dX8_implied_119
    · have hf := if_f b_4 hf
      refine lv_iconst (v := 0) hx hb dX8_implied_114 (by decide) ?_
      refine lv_goto (tgt := 119) hx hb dX8_implied_115 (by decide) ?_
      exact w_iret hx hb hr hlocks hP hS (rt_inv hf) dX8_implied_119
  unfold f_X8_implied at hf
  refine lv_aload_n hx hb dX8_implied_0 rfl (lv_at hl 0 rfl) ?_
  refine w_gR (z := 6) (C := RX8) (T := TX8) hx hb hts n8 hown hK hP t_0 rfl 3 (by decide) L23 rfl rfl dX8_implied_1 ?_
  refine lv_iload_n hx hb dX8_implied_4 rfl (lv_at hl 1 rfl) ?_
  obtain ⟨r_5, S_6, hc_7, hf⟩ := bo_inv hf
  refine w_ci (va_runV (As := [.int a1]) (rest := []) ⟨hx, hb, hml, hown, hts⟩ (c_X7_has l D y ad aL aU hI n 6 isT6 S a1 _ _ hc_7) (cwV 1 hts gX8_implied_X7_has rfl rfl rfl (by decide +kernel) ⟨Nat.le_of_ble_eq_true rfl, Nat.le_of_ble_eq_true rfl⟩) (pwu_V t_6 rfl hP hK hZ hS) rfl rfl hl.1 rfl (lv_room (Nat.le_of_ble_eq_true rfl)) dX8_implied_5 ⟨Nat.zero_le _, Nat.zero_le _⟩) hS (fun H locs hP hS => ?_)
  refine lv_if_eq (tgt := 22) hx hb dX8_implied_8 (by decide) (fun b_8 => ?_) (fun b_8 => ?_)
  · have hf := if_t b_8 hf
    refine lv_ldc (v := (-2000000002)) hx hb hown K116 dX8_implied_22 ?_
    exact w_iret hx hb hr hlocks hP hS (rt_inv hf) dX8_implied_24
  · have hf := if_f b_8 hf
    refine lv_aload_n hx hb dX8_implied_11 rfl (lv_at hl 0 rfl) ?_
    refine w_gR (z := 6) (C := RX8) (T := TX8) hx hb hts n8 hown hK hP t_0 rfl 3 (by decide) L23 rfl rfl dX8_implied_12 ?_
    refine lv_iload_n hx hb dX8_implied_15 rfl (lv_at hl 2 rfl) ?_
    obtain ⟨r_9, S_10, hc_11, hf⟩ := bo_inv hf
    refine w_ci (va_runV (As := [.int a2]) (rest := []) ⟨hx, hb, hml, hown, hts⟩ (c_X7_has l D y ad aL aU hI n 6 isT6 S_6 a2 _ _ hc_11) (cwV 1 hts gX8_implied_X7_has rfl rfl rfl (by decide +kernel) ⟨Nat.le_of_ble_eq_true rfl, Nat.le_of_ble_eq_true rfl⟩) (pwu_V t_6 rfl hP hK hZ hS) rfl rfl hl.1 rfl (lv_room (Nat.le_of_ble_eq_true rfl)) dX8_implied_16 ⟨Nat.zero_le _, Nat.zero_le _⟩) hS (fun H locs hP hS => ?_)
    refine lv_if_ne (tgt := 25) hx hb dX8_implied_19 (by decide) (fun b_12 => ?_) (fun b_12 => ?_)
    · have hf := if_f b_12 hf
      refine lv_iload_n hx hb dX8_implied_25 rfl (lv_at hl 3 rfl) ?_
      refine lv_if_lt (tgt := 34) hx hb dX8_implied_26 (by decide) (fun b_13 => ?_) (fun b_13 => ?_)
      · have hf := if_t b_13 hf
        refine lv_ldc (v := (-2000000003)) hx hb hown K62 dX8_implied_34 ?_
        exact w_iret hx hb hr hlocks hP hS (rt_inv hf) dX8_implied_36
      · have hf := if_f b_13 hf
        refine lv_iload_n hx hb dX8_implied_29 rfl (lv_at hl 3 rfl) ?_
        refine lv_iconst (v := 2) hx hb dX8_implied_30 (by decide) ?_
        refine lv_icmp_le (tgt := 37) hx hb dX8_implied_31 (by decide) (fun b_14 => ?_) (fun b_14 => ?_)
        · have hf := if_t b_14 hf
          refine lv_aload_n hx hb dX8_implied_37 rfl (lv_at hl 0 rfl) ?_
          obtain ⟨r_15, S_16, hc_17, hf⟩ := bo_inv hf
          refine w_ci (va_runV (As := []) (rest := []) ⟨hx, hb, hml, hown, hts⟩ (c_X8_isSolvable l D y ad aL aU hI n S_10  _ _ hc_17) (cwV 0 hts gX8_implied_X8_isSolvable rfl rfl rfl (by decide +kernel) ⟨Nat.le_of_ble_eq_true rfl, Nat.le_of_ble_eq_true rfl⟩) (pwu_V t_0 rfl hP hK hZ hS) rfl rfl hl.1 rfl (lv_room (Nat.le_of_ble_eq_true rfl)) dX8_implied_38 ⟨Nat.zero_le _, Nat.zero_le _⟩) hS (fun H locs hP hS => ?_)
          refine lv_if_ne (tgt := 47) hx hb dX8_implied_41 (by decide) (fun b_18 => ?_) (fun b_18 => ?_)
          · have hf := if_f b_18 hf
            refine lv_aload_n hx hb dX8_implied_47 rfl (lv_at hl 0 rfl) ?_
            refine w_gR (z := 23) (C := RX8) (T := TX8) hx hb hts n8 hown hK hP t_0 rfl 7 (by decide) L49 rfl rfl dX8_implied_48 ?_
            refine lv_aload_n hx hb dX8_implied_51 rfl (lv_at hl 0 rfl) ?_
            refine w_gR (z := 16) (C := RX8) (T := TX8) hx hb hts n8 hown hK hP t_0 rfl 5 (by decide) L33 rfl rfl dX8_implied_52 ?_
            obtain ⟨r_19, S_20, hc_21, hf⟩ := bo_inv hf
            refine w_ci (va_runV (As := []) (rest := [.ref (ad 23)]) ⟨hx, hb, hml, hown, hts⟩ (c_X3_all l D y ad aL aU hI n S_16  _ _ hc_21) (cwV 0 hts gX8_implied_X3_all rfl rfl rfl (by decide +kernel) ⟨Nat.le_of_ble_eq_true rfl, Nat.le_of_ble_eq_true rfl⟩) (pwu_V t_16 rfl hP hK hZ hS) rfl rfl hl.1 rfl (lv_room (Nat.le_of_ble_eq_true rfl)) dX8_implied_55 ⟨Nat.zero_le _, Nat.zero_le _⟩) hS (fun H locs hP hS => ?_)
            obtain ⟨r_22, S_23, hc_24, hf⟩ := bo_inv hf
            refine w_cv (va_runV (As := [.int r_19]) (rest := []) ⟨hx, hb, hml, hown, hts⟩ (c_X6_load l D y ad aL aU hI n S_20 r_19 _ _ hc_24) (cwV 1 hts gX8_implied_X6_load rfl rfl rfl (by decide +kernel) ⟨Nat.le_of_ble_eq_true rfl, Nat.le_of_ble_eq_true rfl⟩) (pwu_V t_23 rfl hP hK hZ hS) rfl rfl hl.1 rfl (lv_room (Nat.le_of_ble_eq_true rfl)) dX8_implied_58 ⟨Nat.zero_le _, Nat.zero_le _⟩) hS (fun H locs hP hS => ?_)
            refine lv_iload_n hx hb dX8_implied_61 rfl (lv_at hl 3 rfl) ?_
            refine lv_if_ne (tgt := 77) hx hb dX8_implied_62 (by decide) (fun b_25 => ?_) (fun b_25 => ?_)
            · have hf := if_f b_25 hf
              refine lv_iload_n hx hb dX8_implied_77 rfl (lv_at hl 3 rfl) ?_
              refine lv_iconst (v := 1) hx hb dX8_implied_78 (by decide) ?_
              refine lv_icmp_ne (tgt := 94) hx hb dX8_implied_79 (by decide) (fun b_26 => ?_) (fun b_26 => ?_)
              · have hf := if_f b_26 hf
                refine lv_aload_n hx hb dX8_implied_94 rfl (lv_at hl 0 rfl) ?_
                refine w_gR (z := 23) (C := RX8) (T := TX8) hx hb hts n8 hown hK hP t_0 rfl 7 (by decide) L49 rfl rfl dX8_implied_95 ?_
                refine lv_iload_n hx hb dX8_implied_98 rfl (lv_at hl 2 rfl) ?_
                refine lv_iload_n hx hb dX8_implied_99 rfl (lv_at hl 1 rfl) ?_
                refine lv_iconst (v := (-1)) hx hb dX8_implied_100 (by decide) ?_
                obtain ⟨r_27, S_28, hc_29, hf⟩ := bo_inv hf
                refine w_cv (va_runV (As := [.int a2, .int a1, .int (-1 : Int32)]) (rest := []) ⟨hx, hb, hml, hown, hts⟩ (c_X6_demandAtMost l D y ad aL aU hI n S_23 a2 a1 (-1 : Int32) _ _ hc_29) (cwV 3 hts gX8_implied_X6_demandAtMost rfl rfl rfl (by decide +kernel) ⟨Nat.le_of_ble_eq_true rfl, Nat.le_of_ble_eq_true rfl⟩) (pwu_V t_23 rfl hP hK hZ hS) rfl rfl hl.1 rfl (lv_room (Nat.le_of_ble_eq_true rfl)) dX8_implied_101 ⟨Nat.zero_le _, Nat.zero_le _⟩) hS (fun H locs hP hS => ?_)
                exact j104   S_28  _ _ _ hf hP hS (lv_sub hl [0] rfl)
              · have hf := if_t b_26 hf
                refine lv_aload_n hx hb dX8_implied_82 rfl (lv_at hl 0 rfl) ?_
                refine w_gR (z := 23) (C := RX8) (T := TX8) hx hb hts n8 hown hK hP t_0 rfl 7 (by decide) L49 rfl rfl dX8_implied_83 ?_
                refine lv_iload_n hx hb dX8_implied_86 rfl (lv_at hl 1 rfl) ?_
                refine lv_iload_n hx hb dX8_implied_87 rfl (lv_at hl 2 rfl) ?_
                obtain ⟨r_30, S_31, hc_32, hf⟩ := bo_inv hf
                refine w_cv (va_runV (As := [.int a1, .int a2]) (rest := []) ⟨hx, hb, hml, hown, hts⟩ (c_X6_demandEqual l D y ad aL aU hI n S_23 a1 a2 _ _ hc_32) (cwV 2 hts gX8_implied_X6_demandEqual rfl rfl rfl (by decide +kernel) ⟨Nat.le_of_ble_eq_true rfl, Nat.le_of_ble_eq_true rfl⟩) (pwu_V t_23 rfl hP hK hZ hS) rfl rfl hl.1 rfl (lv_room (Nat.le_of_ble_eq_true rfl)) dX8_implied_88 ⟨Nat.zero_le _, Nat.zero_le _⟩) hS (fun H locs hP hS => ?_)
                refine lv_goto (tgt := 104) hx hb dX8_implied_91 (by decide) ?_
                exact j104   S_31  _ _ _ hf hP hS (lv_sub hl [0] rfl)
            · have hf := if_t b_25 hf
              refine lv_aload_n hx hb dX8_implied_65 rfl (lv_at hl 0 rfl) ?_
              refine w_gR (z := 23) (C := RX8) (T := TX8) hx hb hts n8 hown hK hP t_0 rfl 7 (by decide) L49 rfl rfl dX8_implied_66 ?_
              refine lv_iload_n hx hb dX8_implied_69 rfl (lv_at hl 1 rfl) ?_
              refine lv_iload_n hx hb dX8_implied_70 rfl (lv_at hl 2 rfl) ?_
              obtain ⟨r_33, S_34, hc_35, hf⟩ := bo_inv hf
              refine w_cv (va_runV (As := [.int a1, .int a2]) (rest := []) ⟨hx, hb, hml, hown, hts⟩ (c_X6_demandDifferent l D y ad aL aU hI n S_23 a1 a2 _ _ hc_35) (cwV 2 hts gX8_implied_X6_demandDifferent rfl rfl rfl (by decide +kernel) ⟨Nat.le_of_ble_eq_true rfl, Nat.le_of_ble_eq_true rfl⟩) (pwu_V t_23 rfl hP hK hZ hS) rfl rfl hl.1 rfl (lv_room (Nat.le_of_ble_eq_true rfl)) dX8_implied_71 ⟨Nat.zero_le _, Nat.zero_le _⟩) hS (fun H locs hP hS => ?_)
              refine lv_goto (tgt := 104) hx hb dX8_implied_74 (by decide) ?_
              exact j104   S_34  _ _ _ hf hP hS (lv_sub hl [0] rfl)
          · have hf := if_t b_18 hf
            refine lv_ldc (v := (-2000000004)) hx hb hown K76 dX8_implied_44 ?_
            exact w_iret hx hb hr hlocks hP hS (rt_inv hf) dX8_implied_46
        · have hf := if_f b_14 hf
          refine lv_ldc (v := (-2000000003)) hx hb hown K62 dX8_implied_34 ?_
          exact w_iret hx hb hr hlocks hP hS (rt_inv hf) dX8_implied_36
    · have hf := if_t b_12 hf
      refine lv_ldc (v := (-2000000002)) hx hb hown K116 dX8_implied_22 ?_
      exact w_iret hx hb hr hlocks hP hS (rt_inv hf) dX8_implied_24
set_option maxHeartbeats 4000000 in
set_option maxRecDepth 100000 in
theorem c_X8_why (l : Launch) (D : va_G) (y : y4) (ad : Nat → Nat) (aL aU : Nat) (hI : Inj ad) (n : Nat) (S : St) (r : Int32) (S2 : St) (hf : f_X8_why n S = some (r, S2)) : KI l D y ad aL aU yX8_why wsX8_why ({ frames := 31, cells := 0, slots := 0, locals := 767 }) [.ref (ad 0)] S r S2 := by
  refine Met.ofW (cc := cX8_why) (maxL := 4) (ret := (some .int)) (by decide) rfl ?_
  intro p e s m args below meth c s₁ B hml hv
  obtain ⟨rfl, hP, hK, hZ⟩ := hv
  have hx := B.exec
  have hb := B.bytes
  have hr := B.returns
  have hts := atoms_spec (ws := wsX8_why) B.pre
  have hown : s.vm.findClass RX8 = some m.cls := findClass_of_methodNamed B.named
  have hlocks := B.notSynchronized
  have hS : va_S (AA ad) s.heap s.heap [] := va_S.rf
  have L33 := hts (.fieldLink RX8 33 "JoinedTheories" "literals" "LJoinedTheories$Literals;") (by decide +kernel)
  have L49 := hts (.fieldLink RX8 49 "JoinedTheories" "solver" "LJoinedTheories$Solver;") (by decide +kernel)
  have K76 := hts (.constant RX8 76 (-2000000004)) (by decide +kernel)
  have n8 : ∀ w ∈ wsX80, w ∈ wsX8_why := by decide +kernel
  have hl := lv_entry ([.ref (ad 0)]) (n := 4) (Nat.le_of_ble_eq_true rfl)
  rw [lg_entry_eq]
  generalize (lg_sl ([.ref (ad 0)]) ++ List.replicate (4 - (lg_sl ([.ref (ad 0)])).length) Slot.unset).toArray = ls at hl ⊢
  have hl : lv_has ls 4 [(0, .ref (ad 0))] := hl
  have j60 : ∀ (k28 : St → Int32 → Int32 → Option (Int32 × St)) (hk28 : ∀ (S : St) (x1 : Int32) (x2 : Int32) (H : Heap) (locs : List Loc) (ls : Array Slot), k28 S x1 x2 = some (r, S2) → PW D y ad S H → va_S (AA ad) s.heap H locs → lv_has ls 4 [(0, .ref (ad 0)), (1, .int x1), (2, .int x2)] → W p l e (headSpec wsX8_why ({ frames := 31, cells := 0, slots := 0, locals := 767 })).room s m ([.ref (ad 0)] : List Value).toArray below meth c H locs 0 0 (QI below r S2 D y ad ([.ref (ad 0)] : List Value).toArray s) (F0 m 28 ls [])), ∀ (S : St) (x1 : Int32) (x2 : Int32) (H : Heap) (locs : List Loc) (ls : Array Slot), f_X8_why_60 n k28 S x1 x2 = some (r, S2) → PW D y ad S H → va_S (AA ad) s.heap H locs → lv_has ls 4 [(0, .ref (ad 0)), (1, .int x1), (2, .int x2)] → W p l e (headSpec wsX8_why ({ frames := 31, cells := 0, slots := 0, locals := 767 })).room s m ([.ref (ad 0)] : List Value).toArray below meth c H locs 0 0 (QI below r S2 D y ad ([.ref (ad 0)] : List Value).toArray s) (F0 m 60 ls []) := by
    intro  k28 hk28 S x1 x2 H locs ls hf hP hS hl
    unfold f_X8_why_60 at hf
    obtain ⟨x2_1, ex2_1, hf⟩ := bd_inv hf
    refine lv_iinc (v := x2_1) (lv' := [(2, .int x2_1), (0, .ref (ad 0)), (1, .int x1)]) hx hb dX8_why_60 hl (k := 2) rfl (by rw [ex2_1]; rfl) (by decide) rfl (fun ls hl => ?_)
    refine lv_goto (tgt := 28) hx hb dX8_why_63 (by decide) ?_
    exact hk28 S x1 x2_1 _ _ _ hf hP hS (lv_sub hl [1, 2, 0] rfl)
  have b28 : ∀ (k28 : St → Int32 → Int32 → Option (Int32 × St)) (hk28 : ∀ (S : St) (x1 : Int32) (x2 : Int32) (H : Heap) (locs : List Loc) (ls : Array Slot), k28 S x1 x2 = some (r, S2) → PW D y ad S H → va_S (AA ad) s.heap H locs → lv_has ls 4 [(0, .ref (ad 0)), (1, .int x1), (2, .int x2)] → W p l e (headSpec wsX8_why ({ frames := 31, cells := 0, slots := 0, locals := 767 })).room s m ([.ref (ad 0)] : List Value).toArray below meth c H locs 0 0 (QI below r S2 D y ad ([.ref (ad 0)] : List Value).toArray s) (F0 m 28 ls [])), ∀ (S : St) (x1 : Int32) (x2 : Int32) (H : Heap) (locs : List Loc) (ls : Array Slot), f_X8_why_28 n k28 S x1 x2 = some (r, S2) → PW D y ad S H → va_S (AA ad) s.heap H locs → lv_has ls 4 [(0, .ref (ad 0)), (1, .int x1), (2, .int x2)] → W p l e (headSpec wsX8_why ({ frames := 31, cells := 0, slots := 0, locals := 767 })).room s m ([.ref (ad 0)] : List Value).toArray below meth c H locs 0 0 (QI below r S2 D y ad ([.ref (ad 0)] : List Value).toArray s) (F0 m 28 ls []) := by
    intro  k28 hk28 S x1 x2 H locs ls hf hP hS hl
    unfold f_X8_why_28 at hf
    refine lv_iload_n hx hb dX8_why_28 rfl (lv_at hl 2 rfl) ?_
    refine lv_if_lt (tgt := 66) hx hb dX8_why_29 (by decide) (fun b_2 => ?_) (fun b_2 => ?_)
    · have hf := if_t b_2 hf
      refine lv_iload_n hx hb dX8_why_66 rfl (lv_at hl 1 rfl) ?_
      exact w_iret hx hb hr hlocks hP hS (rt_inv hf) dX8_why_67
    · have hf := if_f b_2 hf
      refine lv_iload_n hx hb dX8_why_32 rfl (lv_at hl 1 rfl) ?_
      refine lv_iconst (v := 1) hx hb dX8_why_33 (by decide) ?_
      refine lv_iload_n hx hb dX8_why_34 rfl (lv_at hl 2 rfl) ?_
      refine lv_ishl hx hb dX8_why_35 ?_
      refine lv_iconst (v := (-1)) hx hb dX8_why_36 (by decide) ?_
      refine lv_ixor hx hb dX8_why_37 ?_
      refine lv_iand hx hb dX8_why_38 ?_
      obtain ⟨x3_3, ex3_3, hf⟩ := bd_inv hf
      refine w_topI ex3_3 ?_
      refine lv_istore_n (lv' := [(3, .int x3_3), (0, .ref (ad 0)), (1, .int x1), (2, .int x2)]) hx hb dX8_why_39 rfl hl (by decide) rfl (fun ls hl => ?_)
      refine lv_aload_n hx hb dX8_why_40 rfl (lv_at hl 1 rfl) ?_
      refine w_gR (z := 23) (C := RX8) (T := TX8) hx hb hts n8 hown hK hP t_0 rfl 7 (by decide) L49 rfl rfl dX8_why_41 ?_
      refine lv_iload_n hx hb dX8_why_44 rfl (lv_at hl 0 rfl) ?_
      obtain ⟨r_4, S_5, hc_6, hf⟩ := bo_inv hf
      refine w_cv (va_runV (As := [.int x3_3]) (rest := []) ⟨hx, hb, hml, hown, hts⟩ (c_X6_load l D y ad aL aU hI n S x3_3 _ _ hc_6) (cwV 1 hts gX8_why_X6_load rfl rfl rfl (by decide +kernel) ⟨Nat.le_of_ble_eq_true rfl, Nat.le_of_ble_eq_true rfl⟩) (pwu_V t_23 rfl hP hK hZ hS) rfl rfl hl.1 rfl (lv_room (Nat.le_of_ble_eq_true rfl)) dX8_why_45 ⟨Nat.zero_le _, Nat.zero_le _⟩) hS (fun H locs hP hS => ?_)
      refine lv_aload_n hx hb dX8_why_48 rfl (lv_at hl 1 rfl) ?_
      refine w_gR (z := 23) (C := RX8) (T := TX8) hx hb hts n8 hown hK hP t_0 rfl 7 (by decide) L49 rfl rfl dX8_why_49 ?_
      obtain ⟨r_7, S_8, hc_9, hf⟩ := bo_inv hf
      refine w_ci (va_runV (As := []) (rest := []) ⟨hx, hb, hml, hown, hts⟩ (c_X6_hasSolution l D y ad aL aU hI n S_5  _ _ hc_9) (cwV 0 hts gX8_why_X6_hasSolution rfl rfl rfl (by decide +kernel) ⟨Nat.le_of_ble_eq_true rfl, Nat.le_of_ble_eq_true rfl⟩) (pwu_V t_23 rfl hP hK hZ hS) rfl rfl hl.1 rfl (lv_room (Nat.le_of_ble_eq_true rfl)) dX8_why_52 ⟨Nat.zero_le _, Nat.zero_le _⟩) hS (fun H locs hP hS => ?_)
      refine lv_if_ne (tgt := 60) hx hb dX8_why_55 (by decide) (fun b_10 => ?_) (fun b_10 => ?_)
      · have hf := if_f b_10 hf
        exact j60  k28 hk28 S_8 x1 x2 _ _ _ hf hP hS (lv_sub hl [1, 2, 3] rfl)
      · have hf := if_t b_10 hf
        refine lv_iload_n hx hb dX8_why_58 rfl (lv_at hl 0 rfl) ?_
        obtain ⟨x1_11, ex1_11, hf⟩ := bd_inv hf
        refine w_topI ex1_11 ?_
        refine lv_istore_n (lv' := [(1, .int x1_11), (3, .int x3_3), (0, .ref (ad 0)), (2, .int x2)]) hx hb dX8_why_59 rfl hl (by decide) rfl (fun ls hl => ?_)
        exact j60  k28 hk28 S_8 x1_11 x2 _ _ _ hf hP hS (lv_sub hl [2, 0, 3] rfl)
  have j28 : ∀ (fu : Nat), ∀ (S : St) (x1 : Int32) (x2 : Int32) (H : Heap) (locs : List Loc) (ls : Array Slot), fixF (fun _ _ _ => none) (f_X8_why_28 n) fu S x1 x2 = some (r, S2) → PW D y ad S H → va_S (AA ad) s.heap H locs → lv_has ls 4 [(0, .ref (ad 0)), (1, .int x1), (2, .int x2)] → W p l e (headSpec wsX8_why ({ frames := 31, cells := 0, slots := 0, locals := 767 })).room s m ([.ref (ad 0)] : List Value).toArray below meth c H locs 0 0 (QI below r S2 D y ad ([.ref (ad 0)] : List Value).toArray s) (F0 m 28 ls []) := by
    intro   fu
    induction fu with
    | zero => intro S x1 x2 H locs ls hf hP hS hl; cases hf
    | succ fu ih => exact b28   (fixF (fun _ _ _ => none) (f_X8_why_28 n) fu) ih
  unfold f_X8_why at hf
  refine lv_aload_n hx hb dX8_why_0 rfl (lv_at hl 0 rfl) ?_
  obtain ⟨r_12, S_13, hc_14, hf⟩ := bo_inv hf
  refine w_ci (va_runV (As := []) (rest := []) ⟨hx, hb, hml, hown, hts⟩ (c_X8_isSolvable l D y ad aL aU hI n S  _ _ hc_14) (cwV 0 hts gX8_why_X8_isSolvable rfl rfl rfl (by decide +kernel) ⟨Nat.le_of_ble_eq_true rfl, Nat.le_of_ble_eq_true rfl⟩) (pwu_V t_0 rfl hP hK hZ hS) rfl rfl hl.1 rfl (lv_room (Nat.le_of_ble_eq_true rfl)) dX8_why_1 ⟨Nat.zero_le _, Nat.zero_le _⟩) hS (fun H locs hP hS => ?_)
  refine lv_if_eq (tgt := 10) hx hb dX8_why_4 (by decide) (fun b_15 => ?_) (fun b_15 => ?_)
  · have hf := if_t b_15 hf
    refine lv_aload_n hx hb dX8_why_10 rfl (lv_at hl 0 rfl) ?_
    refine w_gR (z := 16) (C := RX8) (T := TX8) hx hb hts n8 hown hK hP t_0 rfl 5 (by decide) L33 rfl rfl dX8_why_11 ?_
    obtain ⟨r_16, S_17, hc_18, hf⟩ := bo_inv hf
    refine w_ci (va_runV (As := []) (rest := []) ⟨hx, hb, hml, hown, hts⟩ (c_X3_all l D y ad aL aU hI n S_13  _ _ hc_18) (cwV 0 hts gX8_why_X3_all rfl rfl rfl (by decide +kernel) ⟨Nat.le_of_ble_eq_true rfl, Nat.le_of_ble_eq_true rfl⟩) (pwu_V t_16 rfl hP hK hZ hS) rfl rfl hl.1 rfl (lv_room (Nat.le_of_ble_eq_true rfl)) dX8_why_14 ⟨Nat.zero_le _, Nat.zero_le _⟩) hS (fun H locs hP hS => ?_)
    obtain ⟨x1_19, ex1_19, hf⟩ := bd_inv hf
    refine w_topI ex1_19 ?_
    refine lv_istore_n (lv' := [(1, .int x1_19), (0, .ref (ad 0))]) hx hb dX8_why_17 rfl hl (by decide) rfl (fun ls hl => ?_)
    refine lv_aload_n hx hb dX8_why_18 rfl (lv_at hl 1 rfl) ?_
    refine w_gR (z := 16) (C := RX8) (T := TX8) hx hb hts n8 hown hK hP t_0 rfl 5 (by decide) L33 rfl rfl dX8_why_19 ?_
    obtain ⟨r_20, S_21, hc_22, hf⟩ := bo_inv hf
    refine w_ci (va_runV (As := []) (rest := []) ⟨hx, hb, hml, hown, hts⟩ (c_X3_size l D y ad aL aU hI n S_17  _ _ hc_22) (cwV 0 hts gX8_why_X3_size rfl rfl rfl (by decide +kernel) ⟨Nat.le_of_ble_eq_true rfl, Nat.le_of_ble_eq_true rfl⟩) (pwu_V t_16 rfl hP hK hZ hS) rfl rfl hl.1 rfl (lv_room (Nat.le_of_ble_eq_true rfl)) dX8_why_22 ⟨Nat.zero_le _, Nat.zero_le _⟩) hS (fun H locs hP hS => ?_)
    refine lv_iconst (v := 1) hx hb dX8_why_25 (by decide) ?_
    refine lv_isub hx hb dX8_why_26 ?_
    obtain ⟨x2_23, ex2_23, hf⟩ := bd_inv hf
    refine w_topI ex2_23 ?_
    refine lv_istore_n (lv' := [(2, .int x2_23), (1, .int x1_19), (0, .ref (ad 0))]) hx hb dX8_why_27 rfl hl (by decide) rfl (fun ls hl => ?_)
    exact j28   n S_21 x1_19 x2_23 _ _ _ hf hP hS (lv_sub hl [2, 1, 0] rfl)
  · have hf := if_f b_15 hf
    refine lv_ldc (v := (-2000000004)) hx hb hown K76 dX8_why_7 ?_
    exact w_iret hx hb hr hlocks hP hS (rt_inv hf) dX8_why_9
set_option maxHeartbeats 4000000 in
set_option maxRecDepth 100000 in
theorem c_X8_either (l : Launch) (D : va_G) (y : y4) (ad : Nat → Nat) (aL aU : Nat) (hI : Inj ad) (n : Nat) (S : St) (a1 : Int32) (r : Int32) (S2 : St) (hf : f_X8_either n S a1 = some (r, S2)) : KI l D y ad aL aU yX8_either wsX8_either ({ frames := 32, cells := 0, slots := 0, locals := 794 }) [.ref (ad 0), .int a1] S r S2 := by
  refine Met.ofW (cc := cX8_either) (maxL := 2) (ret := (some .int)) (by decide) rfl ?_
  intro p e s m args below meth c s₁ B hml hv
  obtain ⟨rfl, hP, hK, hZ⟩ := hv
  have hx := B.exec
  have hb := B.bytes
  have hr := B.returns
  have hts := atoms_spec (ws := wsX8_either) B.pre
  have hown : s.vm.findClass RX8 = some m.cls := findClass_of_methodNamed B.named
  have hlocks := B.notSynchronized
  have hS : va_S (AA ad) s.heap s.heap [] := va_S.rf
  have L33 := hts (.fieldLink RX8 33 "JoinedTheories" "literals" "LJoinedTheories$Literals;") (by decide +kernel)
  have L58 := hts (.fieldLink RX8 58 "JoinedTheories" "pairFinder" "LJoinedTheories$PairFinder;") (by decide +kernel)
  have L214 := hts (.fieldLink RX8 214 "JoinedTheories" "callsOfEither" "I") (by decide +kernel)
  have L217 := hts (.fieldLink RX8 217 "JoinedTheories" "pairsKnown" "Z") (by decide +kernel)
  have K62 := hts (.constant RX8 62 (-2000000003)) (by decide +kernel)
  have K76 := hts (.constant RX8 76 (-2000000004)) (by decide +kernel)
  have n8 : ∀ w ∈ wsX80, w ∈ wsX8_either := by decide +kernel
  have hl := lv_entry ([.ref (ad 0), .int a1]) (n := 2) (Nat.le_of_ble_eq_true rfl)
  rw [lg_entry_eq]
  generalize (lg_sl ([.ref (ad 0), .int a1]) ++ List.replicate (2 - (lg_sl ([.ref (ad 0), .int a1])).length) Slot.unset).toArray = ls at hl ⊢
  have hl : lv_has ls 2 [(0, .ref (ad 0)), (1, .int a1)] := hl
  have j57 : ∀ (S : St) (x1 : Int32) (H : Heap) (locs : List Loc) (ls : Array Slot), f_X8_either_57 n S x1 = some (r, S2) → PW D y ad S H → va_S (AA ad) s.heap H locs → lv_has ls 2 [(0, .ref (ad 0)), (1, .int x1)] → W p l e (headSpec wsX8_either ({ frames := 32, cells := 0, slots := 0, locals := 794 })).room s m ([.ref (ad 0), .int a1] : List Value).toArray below meth c H locs 0 0 (QI below r S2 D y ad ([.ref (ad 0), .int a1] : List Value).toArray s) (F0 m 57 ls []) := by
    intro  S x1 H locs ls hf hP hS hl
    unfold f_X8_either_57 at hf
    refine lv_aload_n hx hb dX8_either_57 rfl (lv_at hl 0 rfl) ?_
    refine lv_dup hx hb dX8_either_58 rfl ?_
    refine w_gI (C := RX8) (T := TX8) hx hb hts n8 hown hK hP t_0 rfl 11 (by decide) L214 rfl dX8_either_59 ?_
    refine lv_iconst (v := 1) hx hb dX8_either_62 (by decide) ?_
    refine lv_iadd hx hb dX8_either_63 ?_
    obtain ⟨S_1, eS_1, hf⟩ := bd_inv hf
    refine w_pI (ty := .int) (C := RX8) (T := TX8) hx hb hts n8 tyX8 tyX8_ok nmX8 hown hK hI hP hS t_0 rfl 11 (by decide) L214 rfl rfl rfl ⟨rfl, rfl⟩ dX8_either_64 (fun H locs hP hS => ?_)
    rw [← eS_1] at hP
    refine lv_iload_n hx hb dX8_either_67 rfl (lv_at hl 1 rfl) ?_
    refine lv_if_ne (tgt := 81) hx hb dX8_either_68 (by decide) (fun b_2 => ?_) (fun b_2 => ?_)
    · have hf := if_f b_2 hf
      refine lv_aload_n hx hb dX8_either_81 rfl (lv_at hl 0 rfl) ?_
      refine w_gR (z := 26) (C := RX8) (T := TX8) hx hb hts n8 hown hK hP t_0 rfl 8 (by decide) L58 rfl rfl dX8_either_82 ?_
      obtain ⟨r_3, S_4, hc_5, hf⟩ := bo_inv hf
      refine w_ci (va_runV (As := []) (rest := []) ⟨hx, hb, hml, hown, hts⟩ (c_X4_second l D y ad aL aU hI n S_1  _ _ hc_5) (cwV 0 hts gX8_either_X4_second rfl rfl rfl (by decide +kernel) ⟨Nat.le_of_ble_eq_true rfl, Nat.le_of_ble_eq_true rfl⟩) (pwu_V t_26 rfl hP hK hZ hS) rfl rfl hl.1 rfl (lv_room (Nat.le_of_ble_eq_true rfl)) dX8_either_85 ⟨Nat.zero_le _, Nat.zero_le _⟩) hS (fun H locs hP hS => ?_)
      exact w_iret hx hb hr hlocks hP hS (rt_inv hf) dX8_either_88
    · have hf := if_t b_2 hf
      refine lv_aload_n hx hb dX8_either_71 rfl (lv_at hl 0 rfl) ?_
      refine w_gR (z := 26) (C := RX8) (T := TX8) hx hb hts n8 hown hK hP t_0 rfl 8 (by decide) L58 rfl rfl dX8_either_72 ?_
      obtain ⟨r_6, S_7, hc_8, hf⟩ := bo_inv hf
      refine w_ci (va_runV (As := []) (rest := []) ⟨hx, hb, hml, hown, hts⟩ (c_X4_first l D y ad aL aU hI n S_1  _ _ hc_8) (cwV 0 hts gX8_either_X4_first rfl rfl rfl (by decide +kernel) ⟨Nat.le_of_ble_eq_true rfl, Nat.le_of_ble_eq_true rfl⟩) (pwu_V t_26 rfl hP hK hZ hS) rfl rfl hl.1 rfl (lv_room (Nat.le_of_ble_eq_true rfl)) dX8_either_75 ⟨Nat.zero_le _, Nat.zero_le _⟩) hS (fun H locs hP hS => ?_)
      refine lv_goto (tgt := 88) hx hb dX8_either_78 (by decide) ?_
      exact w_iret hx hb hr hlocks hP hS (rt_inv hf) dX8_either_88
  unfold f_X8_either at hf
  refine lv_iload_n hx hb dX8_either_0 rfl (lv_at hl 1 rfl) ?_
  refine lv_if_lt (tgt := 9) hx hb dX8_either_1 (by decide) (fun b_9 => ?_) (fun b_9 => ?_)
  · have hf := if_t b_9 hf
    refine lv_ldc (v := (-2000000003)) hx hb hown K62 dX8_either_9 ?_
    exact w_iret hx hb hr hlocks hP hS (rt_inv hf) dX8_either_11
  · have hf := if_f b_9 hf
    refine lv_iload_n hx hb dX8_either_4 rfl (lv_at hl 1 rfl) ?_
    refine lv_iconst (v := 1) hx hb dX8_either_5 (by decide) ?_
    refine lv_icmp_le (tgt := 12) hx hb dX8_either_6 (by decide) (fun b_10 => ?_) (fun b_10 => ?_)
    · have hf := if_t b_10 hf
      refine lv_aload_n hx hb dX8_either_12 rfl (lv_at hl 0 rfl) ?_
      refine w_gI (C := RX8) (T := TX8) hx hb hts n8 hown hK hP t_0 rfl 11 (by decide) L214 rfl dX8_either_13 ?_
      refine lv_bipush (v := (12)) hx hb dX8_either_16 (by decide) ?_
      refine lv_icmp_ge (tgt := 28) hx hb dX8_either_18 (by decide) (fun b_11 => ?_) (fun b_11 => ?_)
      · have hf := if_t b_11 hf
        refine lv_ldc (v := (-2000000004)) hx hb hown K76 dX8_either_28 ?_
        exact w_iret hx hb hr hlocks hP hS (rt_inv hf) dX8_either_30
      · have hf := if_f b_11 hf
        refine lv_aload_n hx hb dX8_either_21 rfl (lv_at hl 0 rfl) ?_
        obtain ⟨r_12, S_13, hc_14, hf⟩ := bo_inv hf
        refine w_ci (va_runV (As := []) (rest := []) ⟨hx, hb, hml, hown, hts⟩ (c_X8_isSolvable l D y ad aL aU hI n S  _ _ hc_14) (cwV 0 hts gX8_either_X8_isSolvable rfl rfl rfl (by decide +kernel) ⟨Nat.le_of_ble_eq_true rfl, Nat.le_of_ble_eq_true rfl⟩) (pwu_V t_0 rfl hP hK hZ hS) rfl rfl hl.1 rfl (lv_room (Nat.le_of_ble_eq_true rfl)) dX8_either_22 ⟨Nat.zero_le _, Nat.zero_le _⟩) hS (fun H locs hP hS => ?_)
        refine lv_if_ne (tgt := 31) hx hb dX8_either_25 (by decide) (fun b_15 => ?_) (fun b_15 => ?_)
        · have hf := if_f b_15 hf
          refine lv_aload_n hx hb dX8_either_31 rfl (lv_at hl 0 rfl) ?_
          refine w_gI (C := RX8) (T := TX8) hx hb hts n8 hown hK hP t_0 rfl 15 (by decide) L217 rfl dX8_either_32 ?_
          refine lv_if_ne (tgt := 57) hx hb dX8_either_35 (by decide) (fun b_16 => ?_) (fun b_16 => ?_)
          · have hf := if_f b_16 hf
            exact j57   S_13 a1 _ _ _ hf hP hS (lv_sub hl [0, 1] rfl)
          · have hf := if_t b_16 hf
            refine lv_aload_n hx hb dX8_either_38 rfl (lv_at hl 0 rfl) ?_
            refine w_gR (z := 26) (C := RX8) (T := TX8) hx hb hts n8 hown hK hP t_0 rfl 8 (by decide) L58 rfl rfl dX8_either_39 ?_
            refine lv_aload_n hx hb dX8_either_42 rfl (lv_at hl 0 rfl) ?_
            refine w_gR (z := 16) (C := RX8) (T := TX8) hx hb hts n8 hown hK hP t_0 rfl 5 (by decide) L33 rfl rfl dX8_either_43 ?_
            obtain ⟨r_17, S_18, hc_19, hf⟩ := bo_inv hf
            refine w_ci (va_runV (As := []) (rest := [.ref (ad 26)]) ⟨hx, hb, hml, hown, hts⟩ (c_X3_all l D y ad aL aU hI n S_13  _ _ hc_19) (cwV 0 hts gX8_either_X3_all rfl rfl rfl (by decide +kernel) ⟨Nat.le_of_ble_eq_true rfl, Nat.le_of_ble_eq_true rfl⟩) (pwu_V t_16 rfl hP hK hZ hS) rfl rfl hl.1 rfl (lv_room (Nat.le_of_ble_eq_true rfl)) dX8_either_46 ⟨Nat.zero_le _, Nat.zero_le _⟩) hS (fun H locs hP hS => ?_)
            obtain ⟨r_20, S_21, hc_22, hf⟩ := bo_inv hf
            refine w_cv (va_runV (As := [.int r_17]) (rest := []) ⟨hx, hb, hml, hown, hts⟩ (c_X4_find l D y ad aL aU hI n S_18 r_17 _ _ hc_22) (cwV 1 hts gX8_either_X4_find rfl rfl rfl (by decide +kernel) ⟨Nat.le_of_ble_eq_true rfl, Nat.le_of_ble_eq_true rfl⟩) (pwu_V t_26 rfl hP hK hZ hS) rfl rfl hl.1 rfl (lv_room (Nat.le_of_ble_eq_true rfl)) dX8_either_49 ⟨Nat.zero_le _, Nat.zero_le _⟩) hS (fun H locs hP hS => ?_)
            refine lv_aload_n hx hb dX8_either_52 rfl (lv_at hl 0 rfl) ?_
            refine lv_iconst (v := 1) hx hb dX8_either_53 (by decide) ?_
            obtain ⟨S_23, eS_23, hf⟩ := bd_inv hf
            refine w_pI (ty := .boolean) (C := RX8) (T := TX8) hx hb hts n8 tyX8 tyX8_ok nmX8 hown hK hI hP hS t_0 rfl 15 (by decide) L217 rfl rfl rfl ⟨rfl, rfl⟩ dX8_either_54 (fun H locs hP hS => ?_)
            rw [← eS_23] at hP
            exact j57   S_23 a1 _ _ _ hf hP hS (lv_sub hl [0, 1] rfl)
        · have hf := if_t b_15 hf
          refine lv_ldc (v := (-2000000004)) hx hb hown K76 dX8_either_28 ?_
          exact w_iret hx hb hr hlocks hP hS (rt_inv hf) dX8_either_30
    · have hf := if_f b_10 hf
      refine lv_ldc (v := (-2000000003)) hx hb hown K62 dX8_either_9 ?_
      exact w_iret hx hb hr hlocks hP hS (rt_inv hf) dX8_either_11
set_option maxHeartbeats 4000000 in
set_option maxRecDepth 100000 in
theorem c_X8_count (l : Launch) (D : va_G) (y : y4) (ad : Nat → Nat) (aL aU : Nat) (hI : Inj ad) (n : Nat) (S : St) (a1 : Int32) (r : Int32) (S2 : St) (hf : f_X8_count n S a1 = some (r, S2)) : KI l D y ad aL aU yX8_count wsX8_count ({ frames := 2, cells := 0, slots := 0, locals := 40 }) [.ref (ad 0), .int a1] S r S2 := by
  refine Met.ofW (cc := cX8_count) (maxL := 2) (ret := (some .int)) (by decide) rfl ?_
  intro p e s m args below meth c s₁ B hml hv
  obtain ⟨rfl, hP, hK, hZ⟩ := hv
  have hx := B.exec
  have hb := B.bytes
  have hr := B.returns
  have hts := atoms_spec (ws := wsX8_count) B.pre
  have hown : s.vm.findClass RX8 = some m.cls := findClass_of_methodNamed B.named
  have hlocks := B.notSynchronized
  have hS : va_S (AA ad) s.heap s.heap [] := va_S.rf
  have L23 := hts (.fieldLink RX8 23 "JoinedTheories" "terms" "LJoinedTheories$Terms;") (by decide +kernel)
  have L33 := hts (.fieldLink RX8 33 "JoinedTheories" "literals" "LJoinedTheories$Literals;") (by decide +kernel)
  have L63 := hts (.fieldLink RX8 63 "JoinedTheories" "pageSize" "I") (by decide +kernel)
  have L106 := hts (.fieldLink RX8 106 "JoinedTheories" "literalsAdded" "I") (by decide +kernel)
  have L123 := hts (.fieldLink RX8 123 "JoinedTheories" "literalsRemoved" "I") (by decide +kernel)
  have L214 := hts (.fieldLink RX8 214 "JoinedTheories" "callsOfEither" "I") (by decide +kernel)
  have K62 := hts (.constant RX8 62 (-2000000003)) (by decide +kernel)
  have n8 : ∀ w ∈ wsX80, w ∈ wsX8_count := by decide +kernel
  have hl := lv_entry ([.ref (ad 0), .int a1]) (n := 2) (Nat.le_of_ble_eq_true rfl)
  rw [lg_entry_eq]
  generalize (lg_sl ([.ref (ad 0), .int a1]) ++ List.replicate (2 - (lg_sl ([.ref (ad 0), .int a1])).length) Slot.unset).toArray = ls at hl ⊢
  have hl : lv_has ls 2 [(0, .ref (ad 0)), (1, .int a1)] := hl
  unfold f_X8_count at hf
  refine lv_iload_n hx hb dX8_count_0 rfl (lv_at hl 1 rfl) ?_
  by_cases b_1 : a1 = (0 : Int32)
  · have hf := if_t b_1 hf
    refine lv_tableIn (tgt := 40) hx hb dX8_count_1 (by rw [b_1]; decide) (by rw [b_1]; decide) (by rw [b_1]; rfl) (by decide) ?_
    refine lv_aload_n hx hb dX8_count_40 rfl (lv_at hl 0 rfl) ?_
    refine w_gR (z := 16) (C := RX8) (T := TX8) hx hb hts n8 hown hK hP t_0 rfl 5 (by decide) L33 rfl rfl dX8_count_41 ?_
    obtain ⟨r_2, S_3, hc_4, hf⟩ := bo_inv hf
    refine w_ci (va_runV (As := []) (rest := []) ⟨hx, hb, hml, hown, hts⟩ (c_X3_size l D y ad aL aU hI n S  _ _ hc_4) (cwV 0 hts gX8_count_X3_size rfl rfl rfl (by decide +kernel) ⟨Nat.le_of_ble_eq_true rfl, Nat.le_of_ble_eq_true rfl⟩) (pwu_V t_16 rfl hP hK hZ hS) rfl rfl hl.1 rfl (lv_room (Nat.le_of_ble_eq_true rfl)) dX8_count_44 ⟨Nat.zero_le _, Nat.zero_le _⟩) hS (fun H locs hP hS => ?_)
    exact w_iret hx hb hr hlocks hP hS (rt_inv hf) dX8_count_47
  · have hf := if_f b_1 hf
    by_cases b_5 : a1 = (1 : Int32)
    · have hf := if_t b_5 hf
      refine lv_tableIn (tgt := 48) hx hb dX8_count_1 (by rw [b_5]; decide) (by rw [b_5]; decide) (by rw [b_5]; rfl) (by decide) ?_
      refine lv_aload_n hx hb dX8_count_48 rfl (lv_at hl 0 rfl) ?_
      refine w_gR (z := 6) (C := RX8) (T := TX8) hx hb hts n8 hown hK hP t_0 rfl 3 (by decide) L23 rfl rfl dX8_count_49 ?_
      obtain ⟨r_6, S_7, hc_8, hf⟩ := bo_inv hf
      refine w_ci (va_runV (As := []) (rest := []) ⟨hx, hb, hml, hown, hts⟩ (c_X7_size l D y ad aL aU hI n 6 isT6 S  _ _ hc_8) (cwV 0 hts gX8_count_X7_size rfl rfl rfl (by decide +kernel) ⟨Nat.le_of_ble_eq_true rfl, Nat.le_of_ble_eq_true rfl⟩) (pwu_V t_6 rfl hP hK hZ hS) rfl rfl hl.1 rfl (lv_room (Nat.le_of_ble_eq_true rfl)) dX8_count_52 ⟨Nat.zero_le _, Nat.zero_le _⟩) hS (fun H locs hP hS => ?_)
      exact w_iret hx hb hr hlocks hP hS (rt_inv hf) dX8_count_55
    · have hf := if_f b_5 hf
      by_cases b_9 : a1 = (2 : Int32)
      · have hf := if_t b_9 hf
        refine lv_tableIn (tgt := 56) hx hb dX8_count_1 (by rw [b_9]; decide) (by rw [b_9]; decide) (by rw [b_9]; rfl) (by decide) ?_
        refine lv_aload_n hx hb dX8_count_56 rfl (lv_at hl 0 rfl) ?_
        refine w_gI (C := RX8) (T := TX8) hx hb hts n8 hown hK hP t_0 rfl 1 (by decide) L63 rfl dX8_count_57 ?_
        exact w_iret hx hb hr hlocks hP hS (rt_inv hf) dX8_count_60
      · have hf := if_f b_9 hf
        by_cases b_10 : a1 = (3 : Int32)
        · have hf := if_t b_10 hf
          refine lv_tableIn (tgt := 61) hx hb dX8_count_1 (by rw [b_10]; decide) (by rw [b_10]; decide) (by rw [b_10]; rfl) (by decide) ?_
          refine lv_aload_n hx hb dX8_count_61 rfl (lv_at hl 0 rfl) ?_
          refine w_gI (C := RX8) (T := TX8) hx hb hts n8 hown hK hP t_0 rfl 9 (by decide) L106 rfl dX8_count_62 ?_
          exact w_iret hx hb hr hlocks hP hS (rt_inv hf) dX8_count_65
        · have hf := if_f b_10 hf
          by_cases b_11 : a1 = (4 : Int32)
          · have hf := if_t b_11 hf
            refine lv_tableIn (tgt := 66) hx hb dX8_count_1 (by rw [b_11]; decide) (by rw [b_11]; decide) (by rw [b_11]; rfl) (by decide) ?_
            refine lv_aload_n hx hb dX8_count_66 rfl (lv_at hl 0 rfl) ?_
            refine w_gI (C := RX8) (T := TX8) hx hb hts n8 hown hK hP t_0 rfl 10 (by decide) L123 rfl dX8_count_67 ?_
            exact w_iret hx hb hr hlocks hP hS (rt_inv hf) dX8_count_70
          · have hf := if_f b_11 hf
            by_cases b_12 : a1 = (5 : Int32)
            · have hf := if_t b_12 hf
              refine lv_tableIn (tgt := 71) hx hb dX8_count_1 (by rw [b_12]; decide) (by rw [b_12]; decide) (by rw [b_12]; rfl) (by decide) ?_
              refine lv_aload_n hx hb dX8_count_71 rfl (lv_at hl 0 rfl) ?_
              refine w_gI (C := RX8) (T := TX8) hx hb hts n8 hown hK hP t_0 rfl 11 (by decide) L214 rfl dX8_count_72 ?_
              exact w_iret hx hb hr hlocks hP hS (rt_inv hf) dX8_count_75
            · have hf := if_f b_12 hf
              refine lv_tableOut (tgt := 76) hx hb dX8_count_1 (by have i0 : (a1).toInt ≠ (0 : Int) := ne_toInt b_1; have i1 : (a1).toInt ≠ (1 : Int) := ne_toInt b_5; have i2 : (a1).toInt ≠ (2 : Int) := ne_toInt b_9; have i3 : (a1).toInt ≠ (3 : Int) := ne_toInt b_10; have i4 : (a1).toInt ≠ (4 : Int) := ne_toInt b_11; have i5 : (a1).toInt ≠ (5 : Int) := ne_toInt b_12; omega) (by decide) ?_
              refine lv_ldc (v := (-2000000003)) hx hb hown K62 dX8_count_76 ?_
              exact w_iret hx hb hr hlocks hP hS (rt_inv hf) dX8_count_78
