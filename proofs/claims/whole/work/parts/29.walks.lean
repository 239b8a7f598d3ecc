set_option maxHeartbeats 4000000 in
set_option maxRecDepth 100000 in
theorem c_X9_told (l : Launch) (D : va_G) (y : y4) (ad : Nat → Nat) (aL aU : Nat) (hI : Inj ad) (n : Nat) (S : St) (a0 : Int64) (r : Int32) (S2 : St) (hf : f_X9_told n S a0 = some (r, S2)) : KI l D y ad aL aU yX9_told wsX9_told ({ frames := 1, cells := 0, slots := 0, locals := 20 }) [.long a0] S r S2 := by
  refine Met.ofW (cc := cX9_told) (maxL := 2) (ret := (some .int)) (by decide) rfl ?_
  intro p e s m args below meth c s₁ B hml hv
  obtain ⟨rfl, hP, hK, hZ⟩ := hv
  have hx := B.exec
  have hb := B.bytes
  have hr := B.returns
  have hts := atoms_spec (ws := wsX9_told) B.pre
  have hown : s.vm.findClass RX9 = some m.cls := findClass_of_methodNamed B.named
  have hlocks := B.notSynchronized
  have hS : va_S (AA ad) s.heap s.heap [] := va_S.rf
  have K163 := hts (.constantLong RX9 163 (2000000000)) (by decide +kernel)
  have K165 := hts (.constantLong RX9 165 (-2000000000)) (by decide +kernel)
  have K167 := hts (.constant RX9 167 (-2000000006)) (by decide +kernel)
  have hl := lv_entry ([.long a0]) (n := 2) (Nat.le_of_ble_eq_true rfl)
  rw [lg_entry_eq]
  generalize (lg_sl ([.long a0]) ++ List.replicate (2 - (lg_sl ([.long a0])).length) Slot.unset).toArray = ls at hl ⊢
  have hl : lv_has ls 2 [(0, .long a0)] := hl
  have j16 : ∀ (S : St) (H : Heap) (locs : List Loc) (ls : Array Slot), f_X9_told_16 n S = some (r, S2) → PW D y ad S H → va_S (AA ad) s.heap H locs → lv_has ls 2 [] → W p l e (headSpec wsX9_told ({ frames := 1, cells := 0, slots := 0, locals := 20 })).room s m ([.long a0] : List Value).toArray below meth c H locs 0 0 (QI below r S2 D y ad ([.long a0] : List Value).toArray s) (F0 m 16 ls []) := by
    intro  S H locs ls hf hP hS hl
    unfold f_X9_told_16 at hf
    refine lv_ldc (v := (-2000000006)) hx hb hown K167 dX9_told_16 ?_
    refine lv_goto (tgt := 23) hx hb dX9_told_18 (by decide) ?_
    exact w_iret hx hb hr hlocks hP hS (rt_inv hf) dX9_told_23
  unfold f_X9_told at hf
  refine lv_lload_n hx hb dX9_told_0 rfl (lv_at hl 0 rfl) ?_
  refine lv_ldc2 (v := (2000000000)) hx hb hown K163 dX9_told_1 ?_
  refine W.lcmp hx hb dX9_told_4 ?_
  refine lv_if_gt (tgt := 16) hx hb dX9_told_5 (by decide) (fun b_1 => ?_) (fun b_1 => ?_)
  · have hf := if_t b_1 hf
    exact j16   S  _ _ _ hf hP hS (lv_sub hl [] rfl)
  · have hf := if_f b_1 hf
    refine lv_lload_n hx hb dX9_told_8 rfl (lv_at hl 0 rfl) ?_
    refine lv_ldc2 (v := (-2000000000)) hx hb hown K165 dX9_told_9 ?_
    refine W.lcmp hx hb dX9_told_12 ?_
    refine lv_if_ge (tgt := 21) hx hb dX9_told_13 (by decide) (fun b_2 => ?_) (fun b_2 => ?_)
    · have hf := if_t b_2 hf
      refine lv_lload_n hx hb dX9_told_21 rfl (lv_at hl 0 rfl) ?_
      refine lv_l2i hx hb dX9_told_22 rfl ?_
      exact w_iret hx hb hr hlocks hP hS (rt_inv hf) dX9_told_23
    · have hf := if_f b_2 hf
      exact j16   S  _ _ _ hf hP hS (lv_sub hl [] rfl)
set_option maxHeartbeats 4000000 in
set_option maxRecDepth 100000 in
theorem c_X9_far (l : Launch) (D : va_G) (y : y4) (ad : Nat → Nat) (aL aU : Nat) (hI : Inj ad) (n : Nat) (S : St) (a1 : Int32) (a2 : Int32) (r : Int32) (S2 : St) (hf : f_X9_far n S a1 a2 = some (r, S2)) : KI l D y ad aL aU yX9_far wsX9_far ({ frames := 4, cells := 0, slots := 0, locals := 91 }) [.ref (ad 28), .int a1, .int a2] S r S2 := by
  refine Met.ofW (cc := cX9_far) (maxL := 3) (ret := (some .int)) (by decide) rfl ?_
  intro p e s m args below meth c s₁ B hml hv
  obtain ⟨rfl, hP, hK, hZ⟩ := hv
  have hx := B.exec
  have hb := B.bytes
  have hr := B.returns
  have hts := atoms_spec (ws := wsX9_far) B.pre
  have hown : s.vm.findClass RX9 = some m.cls := findClass_of_methodNamed B.named
  have hlocks := B.notSynchronized
  have hS : va_S (AA ad) s.heap s.heap [] := va_S.rf
  have L49 := hts (.fieldLink RX9 49 "JoinedTheoriesModel" "ways" "[J") (by decide +kernel)
  have L188 := hts (.fieldLink RX9 188 "JoinedTheoriesModel" "isClash" "Z") (by decide +kernel)
  have K140 := hts (.constant RX9 140 (-2000000001)) (by decide +kernel)
  have K152 := hts (.constant RX9 152 (-2000000004)) (by decide +kernel)
  have K159 := hts (.constant RX9 159 (-2000000002)) (by decide +kernel)
  have K176 := hts (.constantLong RX9 176 (1152921504606846976)) (by decide +kernel)
  have n9 : ∀ w ∈ wsX90, w ∈ wsX9_far := by decide +kernel
  have hl := lv_entry ([.ref (ad 28), .int a1, .int a2]) (n := 3) (Nat.le_of_ble_eq_true rfl)
  rw [lg_entry_eq]
  generalize (lg_sl ([.ref (ad 28), .int a1, .int a2]) ++ List.replicate (3 - (lg_sl ([.ref (ad 28), .int a1, .int a2])).length) Slot.unset).toArray = ls at hl ⊢
  have hl : lv_has ls 3 [(0, .ref (ad 28)), (1, .int a1), (2, .int a2)] := hl
  unfold f_X9_far at hf
  refine lv_aload_n hx hb dX9_far_0 rfl (lv_at hl 0 rfl) ?_
  refine lv_iload_n hx hb dX9_far_1 rfl (lv_at hl 1 rfl) ?_
  refine lv_iload_n hx hb dX9_far_2 rfl (lv_at hl 2 rfl) ?_
  obtain ⟨r_1, S_2, hc_3, hf⟩ := bo_inv hf
  refine w_ci (va_runV (As := [.int a1, .int a2]) (rest := []) ⟨hx, hb, hml, hown, hts⟩ (c_X9_areTerms l D y ad aL aU hI n S a1 a2 _ _ hc_3) (cwV 2 hts gX9_far_X9_areTerms rfl rfl rfl (by decide +kernel) ⟨Nat.le_of_ble_eq_true rfl, Nat.le_of_ble_eq_true rfl⟩) (pwu_V t_28 rfl hP hK hZ hS) rfl rfl hl.1 rfl (lv_room (Nat.le_of_ble_eq_true rfl)) dX9_far_3 ⟨Nat.zero_le _, Nat.zero_le _⟩) hS (fun H locs hP hS => ?_)
  refine lv_if_ne (tgt := 12) hx hb dX9_far_6 (by decide) (fun b_4 => ?_) (fun b_4 => ?_)
  · have hf := if_f b_4 hf
    refine lv_aload_n hx hb dX9_far_12 rfl (lv_at hl 0 rfl) ?_
    obtain ⟨r_5, S_6, hc_7, hf⟩ := bo_inv hf
    refine w_cv (va_runV (As := []) (rest := []) ⟨hx, hb, hml, hown, hts⟩ (c_X9_layExchange l D y ad aL aU hI n S_2  _ _ hc_7) (cwV 0 hts gX9_far_X9_layExchange rfl rfl rfl (by decide +kernel) ⟨Nat.le_of_ble_eq_true rfl, Nat.le_of_ble_eq_true rfl⟩) (pwu_V t_28 rfl hP hK hZ hS) rfl rfl hl.1 rfl (lv_room (Nat.le_of_ble_eq_true rfl)) dX9_far_13 ⟨Nat.zero_le _, Nat.zero_le _⟩) hS (fun H locs hP hS => ?_)
    refine lv_aload_n hx hb dX9_far_16 rfl (lv_at hl 0 rfl) ?_
    refine w_gI (C := RX9) (T := TX9) hx hb hts n9 hown hK hP t_28 rfl 27 (by decide) L188 rfl dX9_far_17 ?_
    refine lv_if_eq (tgt := 26) hx hb dX9_far_20 (by decide) (fun b_8 => ?_) (fun b_8 => ?_)
    · have hf := if_t b_8 hf
      refine lv_aload_n hx hb dX9_far_26 rfl (lv_at hl 0 rfl) ?_
      refine w_gR (z := 42) (C := RX9) (T := TX9) hx hb hts n9 hown hK hP t_28 rfl 26 (by decide) L49 rfl rfl dX9_far_27 ?_
      refine lv_bipush (v := (10)) hx hb dX9_far_30 (by decide) ?_
      refine lv_iload_n hx hb dX9_far_32 rfl (lv_at hl 1 rfl) ?_
      refine lv_imul hx hb dX9_far_33 ?_
      refine lv_iload_n hx hb dX9_far_34 rfl (lv_at hl 2 rfl) ?_
      refine lv_iadd hx hb dX9_far_35 ?_
      obtain ⟨g_9, hf⟩ := gd_inv hf
      refine w_lald hx hb hK hP t_42 g_9 dX9_far_36 ?_
      refine lv_ldc2 (v := (1152921504606846976)) hx hb hown K176 dX9_far_37 ?_
      refine W.lcmp hx hb dX9_far_40 ?_
      refine lv_if_ne (tgt := 49) hx hb dX9_far_41 (by decide) (fun b_10 => ?_) (fun b_10 => ?_)
      · have hf := if_f b_10 hf
        refine lv_aload_n hx hb dX9_far_49 rfl (lv_at hl 0 rfl) ?_
        refine w_gR (z := 42) (C := RX9) (T := TX9) hx hb hts n9 hown hK hP t_28 rfl 26 (by decide) L49 rfl rfl dX9_far_50 ?_
        refine lv_bipush (v := (10)) hx hb dX9_far_53 (by decide) ?_
        refine lv_iload_n hx hb dX9_far_55 rfl (lv_at hl 1 rfl) ?_
        refine lv_imul hx hb dX9_far_56 ?_
        refine lv_iload_n hx hb dX9_far_57 rfl (lv_at hl 2 rfl) ?_
        refine lv_iadd hx hb dX9_far_58 ?_
        obtain ⟨g_11, hf⟩ := gd_inv hf
        refine w_lald hx hb hK hP t_42 g_11 dX9_far_59 ?_
        obtain ⟨r_12, S_13, hc_14, hf⟩ := bo_inv hf
        refine w_ci (va_runS (As := [.long (S_6.2 42 ((((10 : Int32) * a1) + a2)).toNatClampNeg)]) (rest := []) ⟨hx, hb, hml, hown, hts⟩ (c_X9_told l D y ad aL aU hI n S_6 ((S_6.2 42 ((((10 : Int32) * a1) + a2)).toNatClampNeg)) _ _ hc_14) (cwS 1 hts gX9_far_X9_told rfl rfl rfl (by decide +kernel) ⟨Nat.le_of_ble_eq_true rfl, Nat.le_of_ble_eq_true rfl⟩) (pwu_S hP hK hZ hS) rfl rfl hl.1 rfl (lv_room (Nat.le_of_ble_eq_true rfl)) dX9_far_60 ⟨Nat.zero_le _, Nat.zero_le _⟩) hS (fun H locs hP hS => ?_)
        exact w_iret hx hb hr hlocks hP hS (rt_inv hf) dX9_far_63
      · have hf := if_t b_10 hf
        refine lv_ldc (v := (-2000000001)) hx hb hown K140 dX9_far_44 ?_
        refine lv_goto (tgt := 63) hx hb dX9_far_46 (by decide) ?_
        exact w_iret hx hb hr hlocks hP hS (rt_inv hf) dX9_far_63
    · have hf := if_f b_8 hf
      refine lv_ldc (v := (-2000000004)) hx hb hown K152 dX9_far_23 ?_
      exact w_iret hx hb hr hlocks hP hS (rt_inv hf) dX9_far_25
  · have hf := if_t b_4 hf
    refine lv_ldc (v := (-2000000002)) hx hb hown K159 dX9_far_9 ?_
    exact w_iret hx hb hr hlocks hP hS (rt_inv hf) dX9_far_11
set_option maxHeartbeats 4000000 in
set_option maxRecDepth 100000 in
theorem c_X9_has (l : Launch) (D : va_G) (y : y4) (ad : Nat → Nat) (aL aU : Nat) (hI : Inj ad) (n : Nat) (S : St) (a0 : Int32) (a1 : Int32) (r : Int32) (S2 : St) (hf : f_X9_has n S a0 a1 = some (r, S2)) : KI l D y ad aL aU yX9_has wsX9_has ({ frames := 1, cells := 0, slots := 0, locals := 20 }) [.int a0, .int a1] S r S2 := by
  refine Met.ofW (cc := cX9_has) (maxL := 2) (ret := (some .boolean)) (by decide) rfl ?_
  intro p e s m args below meth c s₁ B hml hv
  obtain ⟨rfl, hP, hK, hZ⟩ := hv
  have hx := B.exec
  have hb := B.bytes
  have hr := B.returns
  have hts := atoms_spec (ws := wsX9_has) B.pre
  have hown : s.vm.findClass RX9 = some m.cls := findClass_of_methodNamed B.named
  have hlocks := B.notSynchronized
  have hS : va_S (AA ad) s.heap s.heap [] := va_S.rf
  have hl := lv_entry ([.int a0, .int a1]) (n := 2) (Nat.le_of_ble_eq_true rfl)
  rw [lg_entry_eq]
  generalize (lg_sl ([.int a0, .int a1]) ++ List.replicate (2 - (lg_sl ([.int a0, .int a1])).length) Slot.unset).toArray = ls at hl ⊢
  have hl : lv_has ls 2 [(0, .int a0), (1, .int a1)] := hl
  unfold f_X9_has at hf
  refine lv_iload_n hx hb dX9_has_0 rfl (lv_at hl 0 rfl) ?_
  refine lv_iload_n hx hb dX9_has_1 rfl (lv_at hl 1 rfl) ?_
  refine lv_ishr hx hb dX9_has_2 ?_
  refine lv_iconst (v := 1) hx hb dX9_has_3 (by decide) ?_
  refine lv_iand hx hb dX9_has_4 ?_
  refine lv_iconst (v := 1) hx hb dX9_has_5 (by decide) ?_
  refine lv_icmp_ne (tgt := 13) hx hb dX9_has_6 (by decide) (fun b_1 => ?_) (fun b_1 => ?_)
  · have hf := if_f b_1 hf
    refine lv_iconst (v := 0) hx hb dX9_has_13 (by decide) ?_
    exact w_zret hx hb hr hlocks (fun h => h (by decide)) hP hS (rt_inv hf) dX9_has_14
  · have hf := if_t b_1 hf
    refine lv_iconst (v := 1) hx hb dX9_has_9 (by decide) ?_
    refine lv_goto (tgt := 14) hx hb dX9_has_10 (by decide) ?_
    exact w_zret hx hb hr hlocks (fun h => h (by decide)) hP hS (rt_inv hf) dX9_has_14
set_option maxHeartbeats 4000000 in
set_option maxRecDepth 100000 in
theorem c_X9_bound (l : Launch) (D : va_G) (y : y4) (ad : Nat → Nat) (aL aU : Nat) (hI : Inj ad) (n : Nat) (S : St) (a1 : Int32) (a2 : Int32) (a3 : Int32) (a4 : Int64) (r : Int32) (S2 : St) (hf : f_X9_bound n S a1 a2 a3 a4 = some (r, S2)) : KI l D y ad aL aU yX9_bound wsX9_bound ({ frames := 2, cells := 0, slots := 0, locals := 43 }) [.ref (ad 28), .int a1, .int a2, .int a3, .long a4] S r S2 := by
  refine Met.ofW (cc := cX9_bound) (maxL := 15) (ret := (some .boolean)) (by decide) rfl ?_
  intro p e s m args below meth c s₁ B hml hv
  obtain ⟨rfl, hP, hK, hZ⟩ := hv
  have hx := B.exec
  have hb := B.bytes
  have hr := B.returns
  have hts := atoms_spec (ws := wsX9_bound) B.pre
  have hown : s.vm.findClass RX9 = some m.cls := findClass_of_methodNamed B.named
  have hlocks := B.notSynchronized
  have hS : va_S (AA ad) s.heap s.heap [] := va_S.rf
  have L53 := hts (.fieldLink RX9 53 "JoinedTheoriesModel" "bounds" "[J") (by decide +kernel)
  have L133 := hts (.fieldLink RX9 133 "JoinedTheoriesModel" "terms" "I") (by decide +kernel)
  have K176 := hts (.constantLong RX9 176 (1152921504606846976)) (by decide +kernel)
  have n9 : ∀ w ∈ wsX90, w ∈ wsX9_bound := by decide +kernel
  have hl := lv_entry ([.ref (ad 28), .int a1, .int a2, .int a3, .long a4]) (n := 15) (Nat.le_of_ble_eq_true rfl)
  rw [lg_entry_eq]
  generalize (lg_sl ([.ref (ad 28), .int a1, .int a2, .int a3, .long a4]) ++ List.replicate (15 - (lg_sl ([.ref (ad 28), .int a1, .int a2, .int a3, .long a4])).length) Slot.unset).toArray = ls at hl ⊢
  have hl : lv_has ls 15 [(0, .ref (ad 28)), (1, .int a1), (2, .int a2), (3, .int a3), (4, .long a4)] := hl
  have j162 : ∀ (x2 : Int32) (x3 : Int32) (x4 : Int64) (x6 : Int32) (x9 : Int32) (k46 : St → Int32 → Option (Int32 × St)) (hk46 : ∀ (S : St) (x9 : Int32) (H : Heap) (locs : List Loc) (ls : Array Slot), k46 S x9 = some (r, S2) → PW D y ad S H → va_S (AA ad) s.heap H locs → lv_has ls 15 [(0, .ref (ad 28)), (2, .int x2), (3, .int x3), (4, .long x4), (6, .int x6), (9, .int x9)] → W p l e (headSpec wsX9_bound ({ frames := 2, cells := 0, slots := 0, locals := 43 })).room s m ([.ref (ad 28), .int a1, .int a2, .int a3, .long a4] : List Value).toArray below meth c H locs 0 0 (QI below r S2 D y ad ([.ref (ad 28), .int a1, .int a2, .int a3, .long a4] : List Value).toArray s) (F0 m 46 ls [])) (k58 : St → Int32 → Option (Int32 × St)) (hk58 : ∀ (S : St) (x10 : Int32) (H : Heap) (locs : List Loc) (ls : Array Slot), k58 S x10 = some (r, S2) → PW D y ad S H → va_S (AA ad) s.heap H locs → lv_has ls 15 [(0, .ref (ad 28)), (2, .int x2), (3, .int x3), (4, .long x4), (6, .int x6), (9, .int x9), (10, .int x10)] → W p l e (headSpec wsX9_bound ({ frames := 2, cells := 0, slots := 0, locals := 43 })).room s m ([.ref (ad 28), .int a1, .int a2, .int a3, .long a4] : List Value).toArray below meth c H locs 0 0 (QI below r S2 D y ad ([.ref (ad 28), .int a1, .int a2, .int a3, .long a4] : List Value).toArray s) (F0 m 58 ls [])), ∀ (S : St) (x10 : Int32) (H : Heap) (locs : List Loc) (ls : Array Slot), f_X9_bound_162 n x2 x3 x4 x6 x9 k46 k58 S x10 = some (r, S2) → PW D y ad S H → va_S (AA ad) s.heap H locs → lv_has ls 15 [(0, .ref (ad 28)), (2, .int x2), (3, .int x3), (4, .long x4), (6, .int x6), (9, .int x9), (10, .int x10)] → W p l e (headSpec wsX9_bound ({ frames := 2, cells := 0, slots := 0, locals := 43 })).room s m ([.ref (ad 28), .int a1, .int a2, .int a3, .long a4] : List Value).toArray below meth c H locs 0 0 (QI below r S2 D y ad ([.ref (ad 28), .int a1, .int a2, .int a3, .long a4] : List Value).toArray s) (F0 m 162 ls []) := by
    intro x2 x3 x4 x6 x9 k46 hk46 k58 hk58 S x10 H locs ls hf hP hS hl
    unfold f_X9_bound_162 at hf
    obtain ⟨x10_1, ex10_1, hf⟩ := bd_inv hf
    refine lv_iinc (v := x10_1) (lv' := [(10, .int x10_1), (0, .ref (ad 28)), (2, .int x2), (3, .int x3), (4, .long x4), (6, .int x6), (9, .int x9)]) hx hb dX9_bound_162 hl (k := 6) rfl (by rw [ex10_1]; rfl) (by decide) rfl (fun ls hl => ?_)
    refine lv_goto (tgt := 58) hx hb dX9_bound_165 (by decide) ?_
    exact hk58 S x10_1 _ _ _ hf hP hS (lv_sub hl [1, 2, 3, 4, 5, 6, 0] rfl)
  have b58 : ∀ (x2 : Int32) (x3 : Int32) (x4 : Int64) (x6 : Int32) (x9 : Int32) (k46 : St → Int32 → Option (Int32 × St)) (hk46 : ∀ (S : St) (x9 : Int32) (H : Heap) (locs : List Loc) (ls : Array Slot), k46 S x9 = some (r, S2) → PW D y ad S H → va_S (AA ad) s.heap H locs → lv_has ls 15 [(0, .ref (ad 28)), (2, .int x2), (3, .int x3), (4, .long x4), (6, .int x6), (9, .int x9)] → W p l e (headSpec wsX9_bound ({ frames := 2, cells := 0, slots := 0, locals := 43 })).room s m ([.ref (ad 28), .int a1, .int a2, .int a3, .long a4] : List Value).toArray below meth c H locs 0 0 (QI below r S2 D y ad ([.ref (ad 28), .int a1, .int a2, .int a3, .long a4] : List Value).toArray s) (F0 m 46 ls [])) (k58 : St → Int32 → Option (Int32 × St)) (hk58 : ∀ (S : St) (x10 : Int32) (H : Heap) (locs : List Loc) (ls : Array Slot), k58 S x10 = some (r, S2) → PW D y ad S H → va_S (AA ad) s.heap H locs → lv_has ls 15 [(0, .ref (ad 28)), (2, .int x2), (3, .int x3), (4, .long x4), (6, .int x6), (9, .int x9), (10, .int x10)] → W p l e (headSpec wsX9_bound ({ frames := 2, cells := 0, slots := 0, locals := 43 })).room s m ([.ref (ad 28), .int a1, .int a2, .int a3, .long a4] : List Value).toArray below meth c H locs 0 0 (QI below r S2 D y ad ([.ref (ad 28), .int a1, .int a2, .int a3, .long a4] : List Value).toArray s) (F0 m 58 ls [])), ∀ (S : St) (x10 : Int32) (H : Heap) (locs : List Loc) (ls : Array Slot), f_X9_bound_58 n x2 x3 x4 x6 x9 k46 k58 S x10 = some (r, S2) → PW D y ad S H → va_S (AA ad) s.heap H locs → lv_has ls 15 [(0, .ref (ad 28)), (2, .int x2), (3, .int x3), (4, .long x4), (6, .int x6), (9, .int x9), (10, .int x10)] → W p l e (headSpec wsX9_bound ({ frames := 2, cells := 0, slots := 0, locals := 43 })).room s m ([.ref (ad 28), .int a1, .int a2, .int a3, .long a4] : List Value).toArray below meth c H locs 0 0 (QI below r S2 D y ad ([.ref (ad 28), .int a1, .int a2, .int a3, .long a4] : List Value).toArray s) (F0 m 58 ls []) := by
    intro x2 x3 x4 x6 x9 k46 hk46 k58 hk58 S x10 H locs ls hf hP hS hl
    unfold f_X9_bound_58 at hf
    refine lv_iload hx hb dX9_bound_58 (lv_at hl 6 rfl) ?_
    refine lv_aload_n hx hb dX9_bound_60 rfl (lv_at hl 0 rfl) ?_
    refine w_gI (C := RX9) (T := TX9) hx hb hts n9 hown hK hP t_28 rfl 18 (by decide) L133 rfl dX9_bound_61 ?_
    refine lv_icmp_ge (tgt := 168) hx hb dX9_bound_64 (by decide) (fun b_2 => ?_) (fun b_2 => ?_)
    · have hf := if_t b_2 hf
      obtain ⟨x9_3, ex9_3, hf⟩ := bd_inv hf
      refine lv_iinc (v := x9_3) (lv' := [(9, .int x9_3), (0, .ref (ad 28)), (2, .int x2), (3, .int x3), (4, .long x4), (6, .int x6), (10, .int x10)]) hx hb dX9_bound_168 hl (k := 5) rfl (by rw [ex9_3]; rfl) (by decide) rfl (fun ls hl => ?_)
      refine lv_goto (tgt := 46) hx hb dX9_bound_171 (by decide) ?_
      exact hk46 S x9_3 _ _ _ hf hP hS (lv_sub hl [1, 2, 3, 4, 5, 0] rfl)
    · have hf := if_f b_2 hf
      refine lv_aload_n hx hb dX9_bound_67 rfl (lv_at hl 0 rfl) ?_
      refine w_gR (z := 43) (C := RX9) (T := TX9) hx hb hts n9 hown hK hP t_28 rfl 29 (by decide) L53 rfl rfl dX9_bound_68 ?_
      refine lv_iload hx hb dX9_bound_71 (lv_at hl 4 rfl) ?_
      refine lv_bipush (v := (10)) hx hb dX9_bound_73 (by decide) ?_
      refine lv_iload hx hb dX9_bound_75 (lv_at hl 5 rfl) ?_
      refine lv_imul hx hb dX9_bound_77 ?_
      refine lv_iadd hx hb dX9_bound_78 ?_
      refine lv_iload_n hx hb dX9_bound_79 rfl (lv_at hl 1 rfl) ?_
      refine lv_iadd hx hb dX9_bound_80 ?_
      obtain ⟨g_4, hf⟩ := gd_inv hf
      refine w_lald hx hb hK hP t_43 g_4 dX9_bound_81 ?_
      obtain ⟨x11_5, ex11_5, hf⟩ := bd_inv hf
      refine w_topL ex11_5 ?_
      refine lv_lstore (lv' := [(11, .long x11_5), (0, .ref (ad 28)), (2, .int x2), (3, .int x3), (4, .long x4), (6, .int x6), (9, .int x9), (10, .int x10)]) hx hb dX9_bound_82 hl (by decide) rfl (fun ls hl => ?_)
      refine lv_aload_n hx hb dX9_bound_84 rfl (lv_at hl 1 rfl) ?_
      refine w_gR (z := 43) (C := RX9) (T := TX9) hx hb hts n9 hown hK hP t_28 rfl 29 (by decide) L53 rfl rfl dX9_bound_85 ?_
      refine lv_iload hx hb dX9_bound_88 (lv_at hl 5 rfl) ?_
      refine lv_bipush (v := (10)) hx hb dX9_bound_90 (by decide) ?_
      refine lv_iload_n hx hb dX9_bound_92 rfl (lv_at hl 3 rfl) ?_
      refine lv_imul hx hb dX9_bound_93 ?_
      refine lv_iadd hx hb dX9_bound_94 ?_
      refine lv_iload hx hb dX9_bound_95 (lv_at hl 7 rfl) ?_
      refine lv_iadd hx hb dX9_bound_97 ?_
      obtain ⟨g_6, hf⟩ := gd_inv hf
      refine w_lald hx hb hK hP t_43 g_6 dX9_bound_98 ?_
      obtain ⟨x13_7, ex13_7, hf⟩ := bd_inv hf
      refine w_topL ex13_7 ?_
      refine lv_lstore (lv' := [(13, .long x13_7), (11, .long x11_5), (0, .ref (ad 28)), (2, .int x2), (3, .int x3), (4, .long x4), (6, .int x6), (9, .int x9), (10, .int x10)]) hx hb dX9_bound_99 hl (by decide) rfl (fun ls hl => ?_)
      refine lv_lload hx hb dX9_bound_101 (lv_at hl 1 rfl) ?_
      refine lv_ldc2 (v := (1152921504606846976)) hx hb hown K176 dX9_bound_103 ?_
      refine W.lcmp hx hb dX9_bound_106 ?_
      refine lv_if_ge (tgt := 162) hx hb dX9_bound_107 (by decide) (fun b_8 => ?_) (fun b_8 => ?_)
      · have hf := if_t b_8 hf
        exact j162 x2 x3 x4 x6 x9 k46 hk46 k58 hk58 S x10 _ _ _ hf hP hS (lv_sub hl [2, 3, 4, 5, 6, 7, 8] rfl)
      · have hf := if_f b_8 hf
        refine lv_lload hx hb dX9_bound_110 (lv_at hl 0 rfl) ?_
        refine lv_ldc2 (v := (1152921504606846976)) hx hb hown K176 dX9_bound_112 ?_
        refine W.lcmp hx hb dX9_bound_115 ?_
        refine lv_if_ge (tgt := 162) hx hb dX9_bound_116 (by decide) (fun b_9 => ?_) (fun b_9 => ?_)
        · have hf := if_t b_9 hf
          exact j162 x2 x3 x4 x6 x9 k46 hk46 k58 hk58 S x10 _ _ _ hf hP hS (lv_sub hl [2, 3, 4, 5, 6, 7, 8] rfl)
        · have hf := if_f b_9 hf
          refine lv_aload_n hx hb dX9_bound_119 rfl (lv_at hl 2 rfl) ?_
          refine w_gR (z := 43) (C := RX9) (T := TX9) hx hb hts n9 hown hK hP t_28 rfl 29 (by decide) L53 rfl rfl dX9_bound_120 ?_
          refine lv_iload hx hb dX9_bound_123 (lv_at hl 6 rfl) ?_
          refine lv_bipush (v := (10)) hx hb dX9_bound_125 (by decide) ?_
          refine lv_iload hx hb dX9_bound_127 (lv_at hl 7 rfl) ?_
          refine lv_imul hx hb dX9_bound_129 ?_
          refine lv_iadd hx hb dX9_bound_130 ?_
          refine lv_iload hx hb dX9_bound_131 (lv_at hl 8 rfl) ?_
          refine lv_iadd hx hb dX9_bound_133 ?_
          refine lv_aload_n hx hb dX9_bound_134 rfl (lv_at hl 2 rfl) ?_
          refine w_gR (z := 43) (C := RX9) (T := TX9) hx hb hts n9 hown hK hP t_28 rfl 29 (by decide) L53 rfl rfl dX9_bound_135 ?_
          refine lv_iload hx hb dX9_bound_138 (lv_at hl 6 rfl) ?_
          refine lv_bipush (v := (10)) hx hb dX9_bound_140 (by decide) ?_
          refine lv_iload hx hb dX9_bound_142 (lv_at hl 7 rfl) ?_
          refine lv_imul hx hb dX9_bound_144 ?_
          refine lv_iadd hx hb dX9_bound_145 ?_
          refine lv_iload hx hb dX9_bound_146 (lv_at hl 8 rfl) ?_
          refine lv_iadd hx hb dX9_bound_148 ?_
          obtain ⟨g_10, hf⟩ := gd_inv hf
          refine w_lald hx hb hK hP t_43 g_10 dX9_bound_149 ?_
          refine lv_lload hx hb dX9_bound_150 (lv_at hl 1 rfl) ?_
          refine lv_lload hx hb dX9_bound_152 (lv_at hl 5 rfl) ?_
          refine lv_ladd hx hb dX9_bound_154 ?_
          refine lv_lload hx hb dX9_bound_155 (lv_at hl 0 rfl) ?_
          refine lv_ladd hx hb dX9_bound_157 ?_
          obtain ⟨r_11, S_12, hc_13, hf⟩ := bo_inv hf
          refine w_cl (va_runS (As := [.long (S.2 43 (((x6 + ((10 : Int32) * x9)) + x10)).toNatClampNeg), .long ((x11_5 + x4) + x13_7)]) (rest := [.int ((x6 + ((10 : Int32) * x9)) + x10), .ref (ad 43)]) ⟨hx, hb, hml, hown, hts⟩ (c_X9_least l D y ad aL aU hI n S ((S.2 43 (((x6 + ((10 : Int32) * x9)) + x10)).toNatClampNeg)) (((x11_5 + x4) + x13_7)) _ _ hc_13) (cwS 2 hts gX9_bound_X9_least rfl rfl rfl (by decide +kernel) ⟨Nat.le_of_ble_eq_true rfl, Nat.le_of_ble_eq_true rfl⟩) (pwu_S hP hK hZ hS) rfl rfl hl.1 rfl (lv_room (Nat.le_of_ble_eq_true rfl)) dX9_bound_158 ⟨Nat.zero_le _, Nat.zero_le _⟩) hS (fun H locs hP hS => ?_)
          obtain ⟨g_14, hf⟩ := gd_inv hf
          obtain ⟨S_15, eS_15, hf⟩ := bd_inv hf
          refine w_last hx hb hK hI hP hS t_43 g_14 dX9_bound_161 (fun H locs hP hS => ?_)
          rw [← eS_15] at hP
          exact j162 x2 x3 x4 x6 x9 k46 hk46 k58 hk58 S_15 x10 _ _ _ hf hP hS (lv_sub hl [2, 3, 4, 5, 6, 7, 8] rfl)
  have j58 : ∀ (x2 : Int32) (x3 : Int32) (x4 : Int64) (x6 : Int32) (x9 : Int32) (k46 : St → Int32 → Option (Int32 × St)) (hk46 : ∀ (S : St) (x9 : Int32) (H : Heap) (locs : List Loc) (ls : Array Slot), k46 S x9 = some (r, S2) → PW D y ad S H → va_S (AA ad) s.heap H locs → lv_has ls 15 [(0, .ref (ad 28)), (2, .int x2), (3, .int x3), (4, .long x4), (6, .int x6), (9, .int x9)] → W p l e (headSpec wsX9_bound ({ frames := 2, cells := 0, slots := 0, locals := 43 })).room s m ([.ref (ad 28), .int a1, .int a2, .int a3, .long a4] : List Value).toArray below meth c H locs 0 0 (QI below r S2 D y ad ([.ref (ad 28), .int a1, .int a2, .int a3, .long a4] : List Value).toArray s) (F0 m 46 ls [])) (fu : Nat), ∀ (S : St) (x10 : Int32) (H : Heap) (locs : List Loc) (ls : Array Slot), fixF (fun _ _ => none) (f_X9_bound_58 n x2 x3 x4 x6 x9 k46) fu S x10 = some (r, S2) → PW D y ad S H → va_S (AA ad) s.heap H locs → lv_has ls 15 [(0, .ref (ad 28)), (2, .int x2), (3, .int x3), (4, .long x4), (6, .int x6), (9, .int x9), (10, .int x10)] → W p l e (headSpec wsX9_bound ({ frames := 2, cells := 0, slots := 0, locals := 43 })).room s m ([.ref (ad 28), .int a1, .int a2, .int a3, .long a4] : List Value).toArray below meth c H locs 0 0 (QI below r S2 D y ad ([.ref (ad 28), .int a1, .int a2, .int a3, .long a4] : List Value).toArray s) (F0 m 58 ls []) := by
    intro x2 x3 x4 x6 x9 k46 hk46 fu
    induction fu with
    | zero => intro S x10 H locs ls hf hP hS hl; cases hf
    | succ fu ih => exact b58 x2 x3 x4 x6 x9 k46 hk46 (fixF (fun _ _ => none) (f_X9_bound_58 n x2 x3 x4 x6 x9 k46) fu) ih
  have b46 : ∀ (x2 : Int32) (x3 : Int32) (x4 : Int64) (x6 : Int32) (k46 : St → Int32 → Option (Int32 × St)) (hk46 : ∀ (S : St) (x9 : Int32) (H : Heap) (locs : List Loc) (ls : Array Slot), k46 S x9 = some (r, S2) → PW D y ad S H → va_S (AA ad) s.heap H locs → lv_has ls 15 [(0, .ref (ad 28)), (2, .int x2), (3, .int x3), (4, .long x4), (6, .int x6), (9, .int x9)] → W p l e (headSpec wsX9_bound ({ frames := 2, cells := 0, slots := 0, locals := 43 })).room s m ([.ref (ad 28), .int a1, .int a2, .int a3, .long a4] : List Value).toArray below meth c H locs 0 0 (QI below r S2 D y ad ([.ref (ad 28), .int a1, .int a2, .int a3, .long a4] : List Value).toArray s) (F0 m 46 ls [])), ∀ (S : St) (x9 : Int32) (H : Heap) (locs : List Loc) (ls : Array Slot), f_X9_bound_46 n x2 x3 x4 x6 k46 S x9 = some (r, S2) → PW D y ad S H → va_S (AA ad) s.heap H locs → lv_has ls 15 [(0, .ref (ad 28)), (2, .int x2), (3, .int x3), (4, .long x4), (6, .int x6), (9, .int x9)] → W p l e (headSpec wsX9_bound ({ frames := 2, cells := 0, slots := 0, locals := 43 })).room s m ([.ref (ad 28), .int a1, .int a2, .int a3, .long a4] : List Value).toArray below meth c H locs 0 0 (QI below r S2 D y ad ([.ref (ad 28), .int a1, .int a2, .int a3, .long a4] : List Value).toArray s) (F0 m 46 ls []) := by
    intro x2 x3 x4 x6 k46 hk46 S x9 H locs ls hf hP hS hl
    unfold f_X9_bound_46 at hf
    refine lv_iload hx hb dX9_bound_46 (lv_at hl 5 rfl) ?_
    refine lv_aload_n hx hb dX9_bound_48 rfl (lv_at hl 0 rfl) ?_
    refine w_gI (C := RX9) (T := TX9) hx hb hts n9 hown hK hP t_28 rfl 18 (by decide) L133 rfl dX9_bound_49 ?_
    refine lv_icmp_ge (tgt := 174) hx hb dX9_bound_52 (by decide) (fun b_16 => ?_) (fun b_16 => ?_)
    · have hf := if_t b_16 hf
      refine lv_iconst (v := 1) hx hb dX9_bound_174 (by decide) ?_
      exact w_zret hx hb hr hlocks (fun h => h (by decide)) hP hS (rt_inv hf) dX9_bound_175
    · have hf := if_f b_16 hf
      refine lv_iconst (v := 0) hx hb dX9_bound_55 (by decide) ?_
      obtain ⟨x10_17, ex10_17, hf⟩ := bd_inv hf
      refine w_topI ex10_17 ?_
      refine lv_istore (lv' := [(10, .int x10_17), (0, .ref (ad 28)), (2, .int x2), (3, .int x3), (4, .long x4), (6, .int x6), (9, .int x9)]) hx hb dX9_bound_56 hl (by decide) rfl (fun ls hl => ?_)
      exact j58 x2 x3 x4 x6 x9 k46 hk46 n S x10_17 _ _ _ hf hP hS (lv_sub hl [1, 2, 3, 4, 5, 6, 0] rfl)
  have j46 : ∀ (x2 : Int32) (x3 : Int32) (x4 : Int64) (x6 : Int32) (fu : Nat), ∀ (S : St) (x9 : Int32) (H : Heap) (locs : List Loc) (ls : Array Slot), fixF (fun _ _ => none) (f_X9_bound_46 n x2 x3 x4 x6) fu S x9 = some (r, S2) → PW D y ad S H → va_S (AA ad) s.heap H locs → lv_has ls 15 [(0, .ref (ad 28)), (2, .int x2), (3, .int x3), (4, .long x4), (6, .int x6), (9, .int x9)] → W p l e (headSpec wsX9_bound ({ frames := 2, cells := 0, slots := 0, locals := 43 })).room s m ([.ref (ad 28), .int a1, .int a2, .int a3, .long a4] : List Value).toArray below meth c H locs 0 0 (QI below r S2 D y ad ([.ref (ad 28), .int a1, .int a2, .int a3, .long a4] : List Value).toArray s) (F0 m 46 ls []) := by
    intro x2 x3 x4 x6  fu
    induction fu with
    | zero => intro S x9 H locs ls hf hP hS hl; cases hf
    | succ fu ih => exact b46 x2 x3 x4 x6  (fixF (fun _ _ => none) (f_X9_bound_46 n x2 x3 x4 x6) fu) ih
  have j43 : ∀ (S : St) (x2 : Int32) (x3 : Int32) (x4 : Int64) (x6 : Int32) (H : Heap) (locs : List Loc) (ls : Array Slot), f_X9_bound_43 n S x2 x3 x4 x6 = some (r, S2) → PW D y ad S H → va_S (AA ad) s.heap H locs → lv_has ls 15 [(0, .ref (ad 28)), (2, .int x2), (3, .int x3), (4, .long x4), (6, .int x6)] → W p l e (headSpec wsX9_bound ({ frames := 2, cells := 0, slots := 0, locals := 43 })).room s m ([.ref (ad 28), .int a1, .int a2, .int a3, .long a4] : List Value).toArray below meth c H locs 0 0 (QI below r S2 D y ad ([.ref (ad 28), .int a1, .int a2, .int a3, .long a4] : List Value).toArray s) (F0 m 43 ls []) := by
    intro  S x2 x3 x4 x6 H locs ls hf hP hS hl
    unfold f_X9_bound_43 at hf
    refine lv_iconst (v := 0) hx hb dX9_bound_43 (by decide) ?_
    obtain ⟨x9_18, ex9_18, hf⟩ := bd_inv hf
    refine w_topI ex9_18 ?_
    refine lv_istore (lv' := [(9, .int x9_18), (0, .ref (ad 28)), (2, .int x2), (3, .int x3), (4, .long x4), (6, .int x6)]) hx hb dX9_bound_44 hl (by decide) rfl (fun ls hl => ?_)
    exact j46 x2 x3 x4 x6  n S x9_18 _ _ _ hf hP hS (lv_sub hl [1, 2, 3, 4, 5, 0] rfl)
  unfold f_X9_bound at hf
  refine lv_bipush (v := (100)) hx hb dX9_bound_0 (by decide) ?_
  refine lv_iload_n hx hb dX9_bound_2 rfl (lv_at hl 1 rfl) ?_
  refine lv_imul hx hb dX9_bound_3 ?_
  obtain ⟨x6_19, ex6_19, hf⟩ := bd_inv hf
  refine w_topI ex6_19 ?_
  refine lv_istore (lv' := [(6, .int x6_19), (0, .ref (ad 28)), (1, .int a1), (2, .int a2), (3, .int a3), (4, .long a4)]) hx hb dX9_bound_4 hl (by decide) rfl (fun ls hl => ?_)
  refine lv_aload_n hx hb dX9_bound_6 rfl (lv_at hl 1 rfl) ?_
  refine w_gR (z := 43) (C := RX9) (T := TX9) hx hb hts n9 hown hK hP t_28 rfl 29 (by decide) L53 rfl rfl dX9_bound_7 ?_
  refine lv_iload hx hb dX9_bound_10 (lv_at hl 0 rfl) ?_
  refine lv_bipush (v := (10)) hx hb dX9_bound_12 (by decide) ?_
  refine lv_iload_n hx hb dX9_bound_14 rfl (lv_at hl 4 rfl) ?_
  refine lv_imul hx hb dX9_bound_15 ?_
  refine lv_iadd hx hb dX9_bound_16 ?_
  refine lv_iload_n hx hb dX9_bound_17 rfl (lv_at hl 3 rfl) ?_
  refine lv_iadd hx hb dX9_bound_18 ?_
  obtain ⟨g_20, hf⟩ := gd_inv hf
  refine w_lald hx hb hK hP t_43 g_20 dX9_bound_19 ?_
  obtain ⟨x7_21, ex7_21, hf⟩ := bd_inv hf
  refine w_topL ex7_21 ?_
  refine lv_lstore (lv' := [(7, .long x7_21), (6, .int x6_19), (0, .ref (ad 28)), (1, .int a1), (2, .int a2), (3, .int a3), (4, .long a4)]) hx hb dX9_bound_20 hl (by decide) rfl (fun ls hl => ?_)
  refine lv_lload hx hb dX9_bound_22 (lv_at hl 0 rfl) ?_
  refine lv_ldc2 (v := (1152921504606846976)) hx hb hown K176 dX9_bound_24 ?_
  refine W.lcmp hx hb dX9_bound_27 ?_
  refine lv_if_ge (tgt := 43) hx hb dX9_bound_28 (by decide) (fun b_22 => ?_) (fun b_22 => ?_)
  · have hf := if_t b_22 hf
    exact j43   S a2 a3 a4 x6_19 _ _ _ hf hP hS (lv_sub hl [2, 4, 5, 6, 1] rfl)
  · have hf := if_f b_22 hf
    refine lv_lload hx hb dX9_bound_31 (lv_at hl 0 rfl) ?_
    refine lv_lload hx hb dX9_bound_33 (lv_at hl 6 rfl) ?_
    refine lv_ladd hx hb dX9_bound_35 ?_
    refine lv_lconst (v := 0) hx hb dX9_bound_36 (by decide) ?_
    refine W.lcmp hx hb dX9_bound_37 ?_
    refine lv_if_ge (tgt := 43) hx hb dX9_bound_38 (by decide) (fun b_23 => ?_) (fun b_23 => ?_)
    · have hf := if_t b_23 hf
      exact j43   S a2 a3 a4 x6_19 _ _ _ hf hP hS (lv_sub hl [2, 4, 5, 6, 1] rfl)
    · have hf := if_f b_23 hf
      refine lv_iconst (v := 0) hx hb dX9_bound_41 (by decide) ?_
      exact w_zret hx hb hr hlocks (fun h => h (by decide)) hP hS (rt_inv hf) dX9_bound_42
set_option maxHeartbeats 4000000 in
set_option maxRecDepth 100000 in
theorem c_X9_boundBoth (l : Launch) (D : va_G) (y : y4) (ad : Nat → Nat) (aL aU : Nat) (hI : Inj ad) (n : Nat) (S : St) (a1 : Int32) (a2 : Int32) (a3 : Int32) (r : Int32) (S2 : St) (hf : f_X9_boundBoth n S a1 a2 a3 = some (r, S2)) : KI l D y ad aL aU yX9_boundBoth wsX9_boundBoth ({ frames := 3, cells := 0, slots := 0, locals := 77 }) [.ref (ad 28), .int a1, .int a2, .int a3] S r S2 := by
  refine Met.ofW (cc := cX9_boundBoth) (maxL := 4) (ret := (some .boolean)) (by decide) rfl ?_
  intro p e s m args below meth c s₁ B hml hv
  obtain ⟨rfl, hP, hK, hZ⟩ := hv
  have hx := B.exec
  have hb := B.bytes
  have hr := B.returns
  have hts := atoms_spec (ws := wsX9_boundBoth) B.pre
  have hown : s.vm.findClass RX9 = some m.cls := findClass_of_methodNamed B.named
  have hlocks := B.notSynchronized
  have hS : va_S (AA ad) s.heap s.heap [] := va_S.rf
  have hl := lv_entry ([.ref (ad 28), .int a1, .int a2, .int a3]) (n := 4) (Nat.le_of_ble_eq_true rfl)
  rw [lg_entry_eq]
  generalize (lg_sl ([.ref (ad 28), .int a1, .int a2, .int a3]) ++ List.replicate (4 - (lg_sl ([.ref (ad 28), .int a1, .int a2, .int a3])).length) Slot.unset).toArray = ls at hl ⊢
  have hl : lv_has ls 4 [(0, .ref (ad 28)), (1, .int a1), (2, .int a2), (3, .int a3)] := hl
  unfold f_X9_boundBoth at hf
  refine lv_aload_n hx hb dX9_boundBoth_0 rfl (lv_at hl 0 rfl) ?_
  refine lv_iload_n hx hb dX9_boundBoth_1 rfl (lv_at hl 1 rfl) ?_
  refine lv_iload_n hx hb dX9_boundBoth_2 rfl (lv_at hl 2 rfl) ?_
  refine lv_iload_n hx hb dX9_boundBoth_3 rfl (lv_at hl 3 rfl) ?_
  refine lv_lconst (v := 0) hx hb dX9_boundBoth_4 (by decide) ?_
  obtain ⟨r_1, S_2, hc_3, hf⟩ := bo_inv hf
  refine w_ci (va_runV (As := [.int a1, .int a2, .int a3, .long (0 : Int64)]) (rest := []) ⟨hx, hb, hml, hown, hts⟩ (c_X9_bound l D y ad aL aU hI n S a1 a2 a3 (0 : Int64) _ _ hc_3) (cwV 4 hts gX9_boundBoth_X9_bound rfl rfl rfl (by decide +kernel) ⟨Nat.le_of_ble_eq_true rfl, Nat.le_of_ble_eq_true rfl⟩) (pwu_V t_28 rfl hP hK hZ hS) rfl rfl hl.1 rfl (lv_room (Nat.le_of_ble_eq_true rfl)) dX9_boundBoth_5 ⟨Nat.zero_le _, Nat.zero_le _⟩) hS (fun H locs hP hS => ?_)
  refine lv_if_eq (tgt := 26) hx hb dX9_boundBoth_8 (by decide) (fun b_4 => ?_) (fun b_4 => ?_)
  · have hf := if_t b_4 hf
    refine lv_iconst (v := 0) hx hb dX9_boundBoth_26 (by decide) ?_
    exact w_zret hx hb hr hlocks (fun h => h (by decide)) hP hS (rt_inv hf) dX9_boundBoth_27
  · have hf := if_f b_4 hf
    refine lv_aload_n hx hb dX9_boundBoth_11 rfl (lv_at hl 0 rfl) ?_
    refine lv_iload_n hx hb dX9_boundBoth_12 rfl (lv_at hl 1 rfl) ?_
    refine lv_iload_n hx hb dX9_boundBoth_13 rfl (lv_at hl 3 rfl) ?_
    refine lv_iload_n hx hb dX9_boundBoth_14 rfl (lv_at hl 2 rfl) ?_
    refine lv_lconst (v := 0) hx hb dX9_boundBoth_15 (by decide) ?_
    obtain ⟨r_5, S_6, hc_7, hf⟩ := bo_inv hf
    refine w_ci (va_runV (As := [.int a1, .int a3, .int a2, .long (0 : Int64)]) (rest := []) ⟨hx, hb, hml, hown, hts⟩ (c_X9_bound l D y ad aL aU hI n S_2 a1 a3 a2 (0 : Int64) _ _ hc_7) (cwV 4 hts gX9_boundBoth_X9_bound rfl rfl rfl (by decide +kernel) ⟨Nat.le_of_ble_eq_true rfl, Nat.le_of_ble_eq_true rfl⟩) (pwu_V t_28 rfl hP hK hZ hS) rfl rfl hl.1 rfl (lv_room (Nat.le_of_ble_eq_true rfl)) dX9_boundBoth_16 ⟨Nat.zero_le _, Nat.zero_le _⟩) hS (fun H locs hP hS => ?_)
    refine lv_if_eq (tgt := 26) hx hb dX9_boundBoth_19 (by decide) (fun b_8 => ?_) (fun b_8 => ?_)
    · have hf := if_t b_8 hf
      refine lv_iconst (v := 0) hx hb dX9_boundBoth_26 (by decide) ?_
      exact w_zret hx hb hr hlocks (fun h => h (by decide)) hP hS (rt_inv hf) dX9_boundBoth_27
    · have hf := if_f b_8 hf
      refine lv_iconst (v := 1) hx hb dX9_boundBoth_22 (by decide) ?_
      refine lv_goto (tgt := 27) hx hb dX9_boundBoth_23 (by decide) ?_
      exact w_zret hx hb hr hlocks (fun h => h (by decide)) hP hS (rt_inv hf) dX9_boundBoth_27
set_option maxHeartbeats 4000000 in
set_option maxRecDepth 100000 in
theorem c_X9_boundLiteral (l : Launch) (D : va_G) (y : y4) (ad : Nat → Nat) (aL aU : Nat) (hI : Inj ad) (n : Nat) (S : St) (a1 : Int32) (r : Int32) (S2 : St) (hf : f_X9_boundLiteral n S a1 = some (r, S2)) : KI l D y ad aL aU yX9_boundLiteral wsX9_boundLiteral ({ frames := 4, cells := 0, slots := 0, locals := 100 }) [.ref (ad 28), .int a1] S r S2 := by
  refine Met.ofW (cc := cX9_boundLiteral) (maxL := 2) (ret := (some .boolean)) (by decide) rfl ?_
  intro p e s m args below meth c s₁ B hml hv
  obtain ⟨rfl, hP, hK, hZ⟩ := hv
  have hx := B.exec
  have hb := B.bytes
  have hr := B.returns
  have hts := atoms_spec (ws := wsX9_boundLiteral) B.pre
  have hown : s.vm.findClass RX9 = some m.cls := findClass_of_methodNamed B.named
  have hlocks := B.notSynchronized
  have hS : va_S (AA ad) s.heap s.heap [] := va_S.rf
  have L19 := hts (.fieldLink RX9 19 "JoinedTheoriesModel" "sortOf" "[I") (by decide +kernel)
  have L22 := hts (.fieldLink RX9 22 "JoinedTheoriesModel" "boundOf" "[I") (by decide +kernel)
  have L37 := hts (.fieldLink RX9 37 "JoinedTheoriesModel" "leftOf" "[I") (by decide +kernel)
  have L40 := hts (.fieldLink RX9 40 "JoinedTheoriesModel" "rightOf" "[I") (by decide +kernel)
  have L221 := hts (.fieldLink RX9 221 "JoinedTheoriesModel" "some" "I") (by decide +kernel)
  have n9 : ∀ w ∈ wsX90, w ∈ wsX9_boundLiteral := by decide +kernel
  have hl := lv_entry ([.ref (ad 28), .int a1]) (n := 2) (Nat.le_of_ble_eq_true rfl)
  rw [lg_entry_eq]
  generalize (lg_sl ([.ref (ad 28), .int a1]) ++ List.replicate (2 - (lg_sl ([.ref (ad 28), .int a1])).length) Slot.unset).toArray = ls at hl ⊢
  have hl : lv_has ls 2 [(0, .ref (ad 28)), (1, .int a1)] := hl
  unfold f_X9_boundLiteral at hf
  refine lv_aload_n hx hb dX9_boundLiteral_0 rfl (lv_at hl 0 rfl) ?_
  refine w_gI (C := RX9) (T := TX9) hx hb hts n9 hown hK hP t_28 rfl 31 (by decide) L221 rfl dX9_boundLiteral_1 ?_
  refine lv_iload_n hx hb dX9_boundLiteral_4 rfl (lv_at hl 1 rfl) ?_
  obtain ⟨r_1, S_2, hc_3, hf⟩ := bo_inv hf
  refine w_ci (va_runS (As := [.int (S.1 28 31), .int a1]) (rest := []) ⟨hx, hb, hml, hown, hts⟩ (c_X9_has l D y ad aL aU hI n S (S.1 28 31) a1 _ _ hc_3) (cwS 2 hts gX9_boundLiteral_X9_has rfl rfl rfl (by decide +kernel) ⟨Nat.le_of_ble_eq_true rfl, Nat.le_of_ble_eq_true rfl⟩) (pwu_S hP hK hZ hS) rfl rfl hl.1 rfl (lv_room (Nat.le_of_ble_eq_true rfl)) dX9_boundLiteral_5 ⟨Nat.zero_le _, Nat.zero_le _⟩) hS (fun H locs hP hS => ?_)
  refine lv_if_eq (tgt := 21) hx hb dX9_boundLiteral_8 (by decide) (fun b_4 => ?_) (fun b_4 => ?_)
  · have hf := if_t b_4 hf
    refine lv_iconst (v := 1) hx hb dX9_boundLiteral_21 (by decide) ?_
    exact w_zret hx hb hr hlocks (fun h => h (by decide)) hP hS (rt_inv hf) dX9_boundLiteral_22
  · have hf := if_f b_4 hf
    refine lv_aload_n hx hb dX9_boundLiteral_11 rfl (lv_at hl 0 rfl) ?_
    refine w_gR (z := 32) (C := RX9) (T := TX9) hx hb hts n9 hown hK hP t_28 rfl 5 (by decide) L19 rfl rfl dX9_boundLiteral_12 ?_
    refine lv_iload_n hx hb dX9_boundLiteral_15 rfl (lv_at hl 1 rfl) ?_
    obtain ⟨g_5, hf⟩ := gd_inv hf
    refine w_iald hx hb hK hP t_32 g_5 dX9_boundLiteral_16 ?_
    refine lv_iconst (v := 1) hx hb dX9_boundLiteral_17 (by decide) ?_
    refine lv_icmp_ne (tgt := 23) hx hb dX9_boundLiteral_18 (by decide) (fun b_6 => ?_) (fun b_6 => ?_)
    · have hf := if_f b_6 hf
      refine lv_aload_n hx hb dX9_boundLiteral_23 rfl (lv_at hl 0 rfl) ?_
      refine w_gR (z := 32) (C := RX9) (T := TX9) hx hb hts n9 hown hK hP t_28 rfl 5 (by decide) L19 rfl rfl dX9_boundLiteral_24 ?_
      refine lv_iload_n hx hb dX9_boundLiteral_27 rfl (lv_at hl 1 rfl) ?_
      obtain ⟨g_7, hf⟩ := gd_inv hf
      refine w_iald hx hb hK hP t_32 g_7 dX9_boundLiteral_28 ?_
      refine lv_if_ne (tgt := 52) hx hb dX9_boundLiteral_29 (by decide) (fun b_8 => ?_) (fun b_8 => ?_)
      · have hf := if_f b_8 hf
        refine lv_aload_n hx hb dX9_boundLiteral_52 rfl (lv_at hl 0 rfl) ?_
        refine lv_iconst (v := 0) hx hb dX9_boundLiteral_53 (by decide) ?_
        refine lv_aload_n hx hb dX9_boundLiteral_54 rfl (lv_at hl 0 rfl) ?_
        refine w_gR (z := 38) (C := RX9) (T := TX9) hx hb hts n9 hown hK hP t_28 rfl 22 (by decide) L37 rfl rfl dX9_boundLiteral_55 ?_
        refine lv_iload_n hx hb dX9_boundLiteral_58 rfl (lv_at hl 1 rfl) ?_
        obtain ⟨g_9, hf⟩ := gd_inv hf
        refine w_iald hx hb hK hP t_38 g_9 dX9_boundLiteral_59 ?_
        refine lv_aload_n hx hb dX9_boundLiteral_60 rfl (lv_at hl 0 rfl) ?_
        refine w_gR (z := 39) (C := RX9) (T := TX9) hx hb hts n9 hown hK hP t_28 rfl 23 (by decide) L40 rfl rfl dX9_boundLiteral_61 ?_
        refine lv_iload_n hx hb dX9_boundLiteral_64 rfl (lv_at hl 1 rfl) ?_
        obtain ⟨g_10, hf⟩ := gd_inv hf
        refine w_iald hx hb hK hP t_39 g_10 dX9_boundLiteral_65 ?_
        refine lv_aload_n hx hb dX9_boundLiteral_66 rfl (lv_at hl 0 rfl) ?_
        refine w_gR (z := 33) (C := RX9) (T := TX9) hx hb hts n9 hown hK hP t_28 rfl 6 (by decide) L22 rfl rfl dX9_boundLiteral_67 ?_
        refine lv_iload_n hx hb dX9_boundLiteral_70 rfl (lv_at hl 1 rfl) ?_
        obtain ⟨g_11, hf⟩ := gd_inv hf
        refine w_iald hx hb hK hP t_33 g_11 dX9_boundLiteral_71 ?_
        refine lv_i2l hx hb dX9_boundLiteral_72 rfl ?_
        obtain ⟨r_12, S_13, hc_14, hf⟩ := bo_inv hf
        refine w_ci (va_runV (As := [.int (0 : Int32), .int (S_2.1 38 (a1).toNatClampNeg), .int (S_2.1 39 (a1).toNatClampNeg), .long ((S_2.1 33 (a1).toNatClampNeg)).toInt64]) (rest := []) ⟨hx, hb, hml, hown, hts⟩ (c_X9_bound l D y ad aL aU hI n S_2 (0 : Int32) ((S_2.1 38 (a1).toNatClampNeg)) ((S_2.1 39 (a1).toNatClampNeg)) (((S_2.1 33 (a1).toNatClampNeg)).toInt64) _ _ hc_14) (cwV 4 hts gX9_boundLiteral_X9_bound rfl rfl rfl (by decide +kernel) ⟨Nat.le_of_ble_eq_true rfl, Nat.le_of_ble_eq_true rfl⟩) (pwu_V t_28 rfl hP hK hZ hS) rfl rfl hl.1 rfl (lv_room (Nat.le_of_ble_eq_true rfl)) dX9_boundLiteral_73 ⟨Nat.zero_le _, Nat.zero_le _⟩) hS (fun H locs hP hS => ?_)
        obtain ⟨g_15, hf⟩ := gd_inv hf
        exact w_zret hx hb hr hlocks g_15 hP hS (rt_inv hf) dX9_boundLiteral_76
      · have hf := if_t b_8 hf
        refine lv_aload_n hx hb dX9_boundLiteral_32 rfl (lv_at hl 0 rfl) ?_
        refine lv_iconst (v := 0) hx hb dX9_boundLiteral_33 (by decide) ?_
        refine lv_aload_n hx hb dX9_boundLiteral_34 rfl (lv_at hl 0 rfl) ?_
        refine w_gR (z := 38) (C := RX9) (T := TX9) hx hb hts n9 hown hK hP t_28 rfl 22 (by decide) L37 rfl rfl dX9_boundLiteral_35 ?_
        refine lv_iload_n hx hb dX9_boundLiteral_38 rfl (lv_at hl 1 rfl) ?_
        obtain ⟨g_16, hf⟩ := gd_inv hf
        refine w_iald hx hb hK hP t_38 g_16 dX9_boundLiteral_39 ?_
        refine lv_aload_n hx hb dX9_boundLiteral_40 rfl (lv_at hl 0 rfl) ?_
        refine w_gR (z := 39) (C := RX9) (T := TX9) hx hb hts n9 hown hK hP t_28 rfl 23 (by decide) L40 rfl rfl dX9_boundLiteral_41 ?_
        refine lv_iload_n hx hb dX9_boundLiteral_44 rfl (lv_at hl 1 rfl) ?_
        obtain ⟨g_17, hf⟩ := gd_inv hf
        refine w_iald hx hb hK hP t_39 g_17 dX9_boundLiteral_45 ?_
        obtain ⟨r_18, S_19, hc_20, hf⟩ := bo_inv hf
        refine w_ci (va_runV (As := [.int (0 : Int32), .int (S_2.1 38 (a1).toNatClampNeg), .int (S_2.1 39 (a1).toNatClampNeg)]) (rest := []) ⟨hx, hb, hml, hown, hts⟩ (c_X9_boundBoth l D y ad aL aU hI n S_2 (0 : Int32) ((S_2.1 38 (a1).toNatClampNeg)) ((S_2.1 39 (a1).toNatClampNeg)) _ _ hc_20) (cwV 3 hts gX9_boundLiteral_X9_boundBoth rfl rfl rfl (by decide +kernel) ⟨Nat.le_of_ble_eq_true rfl, Nat.le_of_ble_eq_true rfl⟩) (pwu_V t_28 rfl hP hK hZ hS) rfl rfl hl.1 rfl (lv_room (Nat.le_of_ble_eq_true rfl)) dX9_boundLiteral_46 ⟨Nat.zero_le _, Nat.zero_le _⟩) hS (fun H locs hP hS => ?_)
        refine lv_goto (tgt := 76) hx hb dX9_boundLiteral_49 (by decide) ?_
        obtain ⟨g_21, hf⟩ := gd_inv hf
        exact w_zret hx hb hr hlocks g_21 hP hS (rt_inv hf) dX9_boundLiteral_76
    · have hf := if_t b_6 hf
      refine lv_iconst (v := 1) hx hb dX9_boundLiteral_21 (by decide) ?_
      exact w_zret hx hb hr hlocks (fun h => h (by decide)) hP hS (rt_inv hf) dX9_boundLiteral_22
set_option maxHeartbeats 4000000 in
set_option maxRecDepth 100000 in
theorem c_X9_layFirst (l : Launch) (D : va_G) (y : y4) (ad : Nat → Nat) (aL aU : Nat) (hI : Inj ad) (n : Nat) (S : St) (r : Int32) (S2 : St) (hf : f_X9_layFirst n S = some (r, S2)) : KI l D y ad aL aU yX9_layFirst wsX9_layFirst ({ frames := 5, cells := 0, slots := 0, locals := 121 }) [.ref (ad 28)] S r S2 := by
  refine Met.ofW (cc := cX9_layFirst) (maxL := 3) (ret := (some .boolean)) (by decide) rfl ?_
  intro p e s m args below meth c s₁ B hml hv
  obtain ⟨rfl, hP, hK, hZ⟩ := hv
  have hx := B.exec
  have hb := B.bytes
  have hr := B.returns
  have hts := atoms_spec (ws := wsX9_layFirst) B.pre
  have hown : s.vm.findClass RX9 = some m.cls := findClass_of_methodNamed B.named
  have hlocks := B.notSynchronized
  have hS : va_S (AA ad) s.heap s.heap [] := va_S.rf
  have L53 := hts (.fieldLink RX9 53 "JoinedTheoriesModel" "bounds" "[J") (by decide +kernel)
  have L133 := hts (.fieldLink RX9 133 "JoinedTheoriesModel" "terms" "I") (by decide +kernel)
  have L141 := hts (.fieldLink RX9 141 "JoinedTheoriesModel" "literals" "I") (by decide +kernel)
  have L233 := hts (.fieldLink RX9 233 "JoinedTheoriesModel" "moreSort" "I") (by decide +kernel)
  have L236 := hts (.fieldLink RX9 236 "JoinedTheoriesModel" "moreLeft" "I") (by decide +kernel)
  have L239 := hts (.fieldLink RX9 239 "JoinedTheoriesModel" "moreRight" "I") (by decide +kernel)
  have K176 := hts (.constantLong RX9 176 (1152921504606846976)) (by decide +kernel)
  have K242 := hts (.constantLong RX9 242 (-1)) (by decide +kernel)
  have n9 : ∀ w ∈ wsX90, w ∈ wsX9_layFirst := by decide +kernel
  have hl := lv_entry ([.ref (ad 28)]) (n := 3) (Nat.le_of_ble_eq_true rfl)
  rw [lg_entry_eq]
  generalize (lg_sl ([.ref (ad 28)]) ++ List.replicate (3 - (lg_sl ([.ref (ad 28)])).length) Slot.unset).toArray = ls at hl ⊢
  have hl : lv_has ls 3 [(0, .ref (ad 28))] := hl
  have j155 : ∀ (S : St) (H : Heap) (locs : List Loc) (ls : Array Slot), f_X9_layFirst_155 n S = some (r, S2) → PW D y ad S H → va_S (AA ad) s.heap H locs → lv_has ls 3 [(0, .ref (ad 28))] → W p l e (headSpec wsX9_layFirst ({ frames := 5, cells := 0, slots := 0, locals := 121 })).room s m ([.ref (ad 28)] : List Value).toArray below meth c H locs 0 0 (QI below r S2 D y ad ([.ref (ad 28)] : List Value).toArray s) (F0 m 155 ls []) := by
    intro  S H locs ls hf hP hS hl
    unfold f_X9_layFirst_155 at hf
    refine lv_iconst (v := 1) hx hb dX9_layFirst_155 (by decide) ?_
    refine lv_goto (tgt := 160) hx hb dX9_layFirst_156 (by decide) ?_
    exact w_zret hx hb hr hlocks (fun h => h (by decide)) hP hS (rt_inv hf) dX9_layFirst_160
  have j123 : ∀ (S : St) (t0 : Int32) (H : Heap) (locs : List Loc) (ls : Array Slot), f_X9_layFirst_123 n S t0 = some (r, S2) → PW D y ad S H → va_S (AA ad) s.heap H locs → lv_has ls 3 [(0, .ref (ad 28))] → W p l e (headSpec wsX9_layFirst ({ frames := 5, cells := 0, slots := 0, locals := 121 })).room s m ([.ref (ad 28)] : List Value).toArray below meth c H locs 0 0 (QI below r S2 D y ad ([.ref (ad 28)] : List Value).toArray s) (F0 m 123 ls [.int t0]) := by
    intro  S t0 H locs ls hf hP hS hl
    unfold f_X9_layFirst_123 at hf
    obtain ⟨x1_1, ex1_1, hf⟩ := bd_inv hf
    refine w_topI ex1_1 ?_
    refine lv_istore_n (lv' := [(1, .int x1_1), (0, .ref (ad 28))]) hx hb dX9_layFirst_123 rfl hl (by decide) rfl (fun ls hl => ?_)
    refine lv_iload_n hx hb dX9_layFirst_124 rfl (lv_at hl 0 rfl) ?_
    refine lv_if_eq (tgt := 159) hx hb dX9_layFirst_125 (by decide) (fun b_2 => ?_) (fun b_2 => ?_)
    · have hf := if_t b_2 hf
      refine lv_iconst (v := 0) hx hb dX9_layFirst_159 (by decide) ?_
      exact w_zret hx hb hr hlocks (fun h => h (by decide)) hP hS (rt_inv hf) dX9_layFirst_160
    · have hf := if_f b_2 hf
      refine lv_aload_n hx hb dX9_layFirst_128 rfl (lv_at hl 1 rfl) ?_
      refine w_gI (C := RX9) (T := TX9) hx hb hts n9 hown hK hP t_28 rfl 32 (by decide) L233 rfl dX9_layFirst_129 ?_
      refine lv_iconst (v := 2) hx hb dX9_layFirst_132 (by decide) ?_
      refine lv_icmp_ne (tgt := 155) hx hb dX9_layFirst_133 (by decide) (fun b_3 => ?_) (fun b_3 => ?_)
      · have hf := if_f b_3 hf
        exact j155   S  _ _ _ hf hP hS (lv_sub hl [1] rfl)
      · have hf := if_t b_3 hf
        refine lv_aload_n hx hb dX9_layFirst_136 rfl (lv_at hl 1 rfl) ?_
        refine lv_iconst (v := 0) hx hb dX9_layFirst_137 (by decide) ?_
        refine lv_aload_n hx hb dX9_layFirst_138 rfl (lv_at hl 1 rfl) ?_
        refine w_gI (C := RX9) (T := TX9) hx hb hts n9 hown hK hP t_28 rfl 33 (by decide) L236 rfl dX9_layFirst_139 ?_
        refine lv_aload_n hx hb dX9_layFirst_142 rfl (lv_at hl 1 rfl) ?_
        refine w_gI (C := RX9) (T := TX9) hx hb hts n9 hown hK hP t_28 rfl 34 (by decide) L239 rfl dX9_layFirst_143 ?_
        refine lv_ldc2 (v := (-1)) hx hb hown K242 dX9_layFirst_146 ?_
        obtain ⟨r_4, S_5, hc_6, hf⟩ := bo_inv hf
        refine w_ci (va_runV (As := [.int (0 : Int32), .int (S.1 28 33), .int (S.1 28 34), .long (-1 : Int64)]) (rest := []) ⟨hx, hb, hml, hown, hts⟩ (c_X9_bound l D y ad aL aU hI n S (0 : Int32) (S.1 28 33) (S.1 28 34) (-1 : Int64) _ _ hc_6) (cwV 4 hts gX9_layFirst_X9_bound rfl rfl rfl (by decide +kernel) ⟨Nat.le_of_ble_eq_true rfl, Nat.le_of_ble_eq_true rfl⟩) (pwu_V t_28 rfl hP hK hZ hS) rfl rfl hl.1 rfl (lv_room (Nat.le_of_ble_eq_true rfl)) dX9_layFirst_149 ⟨Nat.zero_le _, Nat.zero_le _⟩) hS (fun H locs hP hS => ?_)
        refine lv_if_eq (tgt := 159) hx hb dX9_layFirst_152 (by decide) (fun b_7 => ?_) (fun b_7 => ?_)
        · have hf := if_t b_7 hf
          refine lv_iconst (v := 0) hx hb dX9_layFirst_159 (by decide) ?_
          exact w_zret hx hb hr hlocks (fun h => h (by decide)) hP hS (rt_inv hf) dX9_layFirst_160
        · have hf := if_f b_7 hf
          exact j155   S_5  _ _ _ hf hP hS (lv_sub hl [1] rfl)
  have j122 : ∀ (S : St) (H : Heap) (locs : List Loc) (ls : Array Slot), f_X9_layFirst_122 n S = some (r, S2) → PW D y ad S H → va_S (AA ad) s.heap H locs → lv_has ls 3 [(0, .ref (ad 28))] → W p l e (headSpec wsX9_layFirst ({ frames := 5, cells := 0, slots := 0, locals := 121 })).room s m ([.ref (ad 28)] : List Value).toArray below meth c H locs 0 0 (QI below r S2 D y ad ([.ref (ad 28)] : List Value).toArray s) (F0 m 122 ls []) := by
    intro  S H locs ls hf hP hS hl
    unfold f_X9_layFirst_122 at hf
    refine lv_iconst (v := 0) hx hb dX9_layFirst_122 (by decide) ?_
    exact j123   S ((0 : Int32)) _ _ _ hf hP hS (lv_sub hl [0] rfl)
  have j118 : ∀ (S : St) (H : Heap) (locs : List Loc) (ls : Array Slot), f_X9_layFirst_118 n S = some (r, S2) → PW D y ad S H → va_S (AA ad) s.heap H locs → lv_has ls 3 [(0, .ref (ad 28))] → W p l e (headSpec wsX9_layFirst ({ frames := 5, cells := 0, slots := 0, locals := 121 })).room s m ([.ref (ad 28)] : List Value).toArray below meth c H locs 0 0 (QI below r S2 D y ad ([.ref (ad 28)] : List Value).toArray s) (F0 m 118 ls []) := by
    intro  S H locs ls hf hP hS hl
    unfold f_X9_layFirst_118 at hf
    refine lv_iconst (v := 1) hx hb dX9_layFirst_118 (by decide) ?_
    refine lv_goto (tgt := 123) hx hb dX9_layFirst_119 (by decide) ?_
    exact j123   S ((1 : Int32)) _ _ _ hf hP hS (lv_sub hl [0] rfl)
  have j84 : ∀ (k59 : St → Int32 → Int32 → Option (Int32 × St)) (hk59 : ∀ (S : St) (x1 : Int32) (x2 : Int32) (H : Heap) (locs : List Loc) (ls : Array Slot), k59 S x1 x2 = some (r, S2) → PW D y ad S H → va_S (AA ad) s.heap H locs → lv_has ls 3 [(0, .ref (ad 28)), (1, .int x1), (2, .int x2)] → W p l e (headSpec wsX9_layFirst ({ frames := 5, cells := 0, slots := 0, locals := 121 })).room s m ([.ref (ad 28)] : List Value).toArray below meth c H locs 0 0 (QI below r S2 D y ad ([.ref (ad 28)] : List Value).toArray s) (F0 m 59 ls [])), ∀ (S : St) (x2 : Int32) (t0 : Int32) (H : Heap) (locs : List Loc) (ls : Array Slot), f_X9_layFirst_84 n k59 S x2 t0 = some (r, S2) → PW D y ad S H → va_S (AA ad) s.heap H locs → lv_has ls 3 [(0, .ref (ad 28)), (2, .int x2)] → W p l e (headSpec wsX9_layFirst ({ frames := 5, cells := 0, slots := 0, locals := 121 })).room s m ([.ref (ad 28)] : List Value).toArray below meth c H locs 0 0 (QI below r S2 D y ad ([.ref (ad 28)] : List Value).toArray s) (F0 m 84 ls [.int t0]) := by
    intro  k59 hk59 S x2 t0 H locs ls hf hP hS hl
    unfold f_X9_layFirst_84 at hf
    obtain ⟨x1_8, ex1_8, hf⟩ := bd_inv hf
    refine w_topI ex1_8 ?_
    refine lv_istore_n (lv' := [(1, .int x1_8), (0, .ref (ad 28)), (2, .int x2)]) hx hb dX9_layFirst_84 rfl hl (by decide) rfl (fun ls hl => ?_)
    obtain ⟨x2_9, ex2_9, hf⟩ := bd_inv hf
    refine lv_iinc (v := x2_9) (lv' := [(2, .int x2_9), (1, .int x1_8), (0, .ref (ad 28))]) hx hb dX9_layFirst_85 hl (k := 2) rfl (by rw [ex2_9]; rfl) (by decide) rfl (fun ls hl => ?_)
    refine lv_goto (tgt := 59) hx hb dX9_layFirst_88 (by decide) ?_
    exact hk59 S x1_8 x2_9 _ _ _ hf hP hS (lv_sub hl [2, 1, 0] rfl)
  have j83 : ∀ (k59 : St → Int32 → Int32 → Option (Int32 × St)) (hk59 : ∀ (S : St) (x1 : Int32) (x2 : Int32) (H : Heap) (locs : List Loc) (ls : Array Slot), k59 S x1 x2 = some (r, S2) → PW D y ad S H → va_S (AA ad) s.heap H locs → lv_has ls 3 [(0, .ref (ad 28)), (1, .int x1), (2, .int x2)] → W p l e (headSpec wsX9_layFirst ({ frames := 5, cells := 0, slots := 0, locals := 121 })).room s m ([.ref (ad 28)] : List Value).toArray below meth c H locs 0 0 (QI below r S2 D y ad ([.ref (ad 28)] : List Value).toArray s) (F0 m 59 ls [])), ∀ (S : St) (x2 : Int32) (H : Heap) (locs : List Loc) (ls : Array Slot), f_X9_layFirst_83 n k59 S x2 = some (r, S2) → PW D y ad S H → va_S (AA ad) s.heap H locs → lv_has ls 3 [(0, .ref (ad 28)), (2, .int x2)] → W p l e (headSpec wsX9_layFirst ({ frames := 5, cells := 0, slots := 0, locals := 121 })).room s m ([.ref (ad 28)] : List Value).toArray below meth c H locs 0 0 (QI below r S2 D y ad ([.ref (ad 28)] : List Value).toArray s) (F0 m 83 ls []) := by
    intro  k59 hk59 S x2 H locs ls hf hP hS hl
    unfold f_X9_layFirst_83 at hf
    refine lv_iconst (v := 0) hx hb dX9_layFirst_83 (by decide) ?_
    exact j84  k59 hk59 S x2 ((0 : Int32)) _ _ _ hf hP hS (lv_sub hl [0, 1] rfl)
  have b59 : ∀ (k59 : St → Int32 → Int32 → Option (Int32 × St)) (hk59 : ∀ (S : St) (x1 : Int32) (x2 : Int32) (H : Heap) (locs : List Loc) (ls : Array Slot), k59 S x1 x2 = some (r, S2) → PW D y ad S H → va_S (AA ad) s.heap H locs → lv_has ls 3 [(0, .ref (ad 28)), (1, .int x1), (2, .int x2)] → W p l e (headSpec wsX9_layFirst ({ frames := 5, cells := 0, slots := 0, locals := 121 })).room s m ([.ref (ad 28)] : List Value).toArray below meth c H locs 0 0 (QI below r S2 D y ad ([.ref (ad 28)] : List Value).toArray s) (F0 m 59 ls [])), ∀ (S : St) (x1 : Int32) (x2 : Int32) (H : Heap) (locs : List Loc) (ls : Array Slot), f_X9_layFirst_59 n k59 S x1 x2 = some (r, S2) → PW D y ad S H → va_S (AA ad) s.heap H locs → lv_has ls 3 [(0, .ref (ad 28)), (1, .int x1), (2, .int x2)] → W p l e (headSpec wsX9_layFirst ({ frames := 5, cells := 0, slots := 0, locals := 121 })).room s m ([.ref (ad 28)] : List Value).toArray below meth c H locs 0 0 (QI below r S2 D y ad ([.ref (ad 28)] : List Value).toArray s) (F0 m 59 ls []) := by
    intro  k59 hk59 S x1 x2 H locs ls hf hP hS hl
    unfold f_X9_layFirst_59 at hf
    refine lv_iload_n hx hb dX9_layFirst_59 rfl (lv_at hl 2 rfl) ?_
    refine lv_aload_n hx hb dX9_layFirst_60 rfl (lv_at hl 0 rfl) ?_
    refine w_gI (C := RX9) (T := TX9) hx hb hts n9 hown hK hP t_28 rfl 2 (by decide) L141 rfl dX9_layFirst_61 ?_
    refine lv_icmp_ge (tgt := 91) hx hb dX9_layFirst_64 (by decide) (fun b_10 => ?_) (fun b_10 => ?_)
    · have hf := if_t b_10 hf
      refine lv_iload_n hx hb dX9_layFirst_91 rfl (lv_at hl 1 rfl) ?_
      refine lv_if_eq (tgt := 122) hx hb dX9_layFirst_92 (by decide) (fun b_11 => ?_) (fun b_11 => ?_)
      · have hf := if_t b_11 hf
        exact j122   S  _ _ _ hf hP hS (lv_sub hl [0] rfl)
      · have hf := if_f b_11 hf
        refine lv_aload_n hx hb dX9_layFirst_95 rfl (lv_at hl 0 rfl) ?_
        refine w_gI (C := RX9) (T := TX9) hx hb hts n9 hown hK hP t_28 rfl 32 (by decide) L233 rfl dX9_layFirst_96 ?_
        refine lv_if_ne (tgt := 118) hx hb dX9_layFirst_99 (by decide) (fun b_12 => ?_) (fun b_12 => ?_)
        · have hf := if_f b_12 hf
          exact j118   S  _ _ _ hf hP hS (lv_sub hl [0] rfl)
        · have hf := if_t b_12 hf
          refine lv_aload_n hx hb dX9_layFirst_102 rfl (lv_at hl 0 rfl) ?_
          refine lv_iconst (v := 0) hx hb dX9_layFirst_103 (by decide) ?_
          refine lv_aload_n hx hb dX9_layFirst_104 rfl (lv_at hl 0 rfl) ?_
          refine w_gI (C := RX9) (T := TX9) hx hb hts n9 hown hK hP t_28 rfl 33 (by decide) L236 rfl dX9_layFirst_105 ?_
          refine lv_aload_n hx hb dX9_layFirst_108 rfl (lv_at hl 0 rfl) ?_
          refine w_gI (C := RX9) (T := TX9) hx hb hts n9 hown hK hP t_28 rfl 34 (by decide) L239 rfl dX9_layFirst_109 ?_
          obtain ⟨r_13, S_14, hc_15, hf⟩ := bo_inv hf
          refine w_ci (va_runV (As := [.int (0 : Int32), .int (S.1 28 33), .int (S.1 28 34)]) (rest := []) ⟨hx, hb, hml, hown, hts⟩ (c_X9_boundBoth l D y ad aL aU hI n S (0 : Int32) (S.1 28 33) (S.1 28 34) _ _ hc_15) (cwV 3 hts gX9_layFirst_X9_boundBoth rfl rfl rfl (by decide +kernel) ⟨Nat.le_of_ble_eq_true rfl, Nat.le_of_ble_eq_true rfl⟩) (pwu_V t_28 rfl hP hK hZ hS) rfl rfl hl.1 rfl (lv_room (Nat.le_of_ble_eq_true rfl)) dX9_layFirst_112 ⟨Nat.zero_le _, Nat.zero_le _⟩) hS (fun H locs hP hS => ?_)
          refine lv_if_eq (tgt := 122) hx hb dX9_layFirst_115 (by decide) (fun b_16 => ?_) (fun b_16 => ?_)
          · have hf := if_t b_16 hf
            exact j122   S_14  _ _ _ hf hP hS (lv_sub hl [0] rfl)
          · have hf := if_f b_16 hf
            exact j118   S_14  _ _ _ hf hP hS (lv_sub hl [0] rfl)
    · have hf := if_f b_10 hf
      refine lv_iload_n hx hb dX9_layFirst_67 rfl (lv_at hl 1 rfl) ?_
      refine lv_if_eq (tgt := 83) hx hb dX9_layFirst_68 (by decide) (fun b_17 => ?_) (fun b_17 => ?_)
      · have hf := if_t b_17 hf
        exact j83  k59 hk59 S x2 _ _ _ hf hP hS (lv_sub hl [0, 2] rfl)
      · have hf := if_f b_17 hf
        refine lv_aload_n hx hb dX9_layFirst_71 rfl (lv_at hl 0 rfl) ?_
        refine lv_iload_n hx hb dX9_layFirst_72 rfl (lv_at hl 2 rfl) ?_
        obtain ⟨r_18, S_19, hc_20, hf⟩ := bo_inv hf
        refine w_ci (va_runV (As := [.int x2]) (rest := []) ⟨hx, hb, hml, hown, hts⟩ (c_X9_boundLiteral l D y ad aL aU hI n S x2 _ _ hc_20) (cwV 1 hts gX9_layFirst_X9_boundLiteral rfl rfl rfl (by decide +kernel) ⟨Nat.le_of_ble_eq_true rfl, Nat.le_of_ble_eq_true rfl⟩) (pwu_V t_28 rfl hP hK hZ hS) rfl rfl hl.1 rfl (lv_room (Nat.le_of_ble_eq_true rfl)) dX9_layFirst_73 ⟨Nat.zero_le _, Nat.zero_le _⟩) hS (fun H locs hP hS => ?_)
        refine lv_if_eq (tgt := 83) hx hb dX9_layFirst_76 (by decide) (fun b_21 => ?_) (fun b_21 => ?_)
        · have hf := if_t b_21 hf
          exact j83  k59 hk59 S_19 x2 _ _ _ hf hP hS (lv_sub hl [0, 2] rfl)
        · have hf := if_f b_21 hf
          refine lv_iconst (v := 1) hx hb dX9_layFirst_79 (by decide) ?_
          refine lv_goto (tgt := 84) hx hb dX9_layFirst_80 (by decide) ?_
          exact j84  k59 hk59 S_19 x2 ((1 : Int32)) _ _ _ hf hP hS (lv_sub hl [0, 2] rfl)
  have j59 : ∀ (fu : Nat), ∀ (S : St) (x1 : Int32) (x2 : Int32) (H : Heap) (locs : List Loc) (ls : Array Slot), fixF (fun _ _ _ => none) (f_X9_layFirst_59 n) fu S x1 x2 = some (r, S2) → PW D y ad S H → va_S (AA ad) s.heap H locs → lv_has ls 3 [(0, .ref (ad 28)), (1, .int x1), (2, .int x2)] → W p l e (headSpec wsX9_layFirst ({ frames := 5, cells := 0, slots := 0, locals := 121 })).room s m ([.ref (ad 28)] : List Value).toArray below meth c H locs 0 0 (QI below r S2 D y ad ([.ref (ad 28)] : List Value).toArray s) (F0 m 59 ls []) := by
    intro   fu
    induction fu with
    | zero => intro S x1 x2 H locs ls hf hP hS hl; cases hf
    | succ fu ih => exact b59   (fixF (fun _ _ _ => none) (f_X9_layFirst_59 n) fu) ih
  have j42 : ∀ (x1 : Int32) (k2 : St → Int32 → Option (Int32 × St)) (hk2 : ∀ (S : St) (x1 : Int32) (H : Heap) (locs : List Loc) (ls : Array Slot), k2 S x1 = some (r, S2) → PW D y ad S H → va_S (AA ad) s.heap H locs → lv_has ls 3 [(0, .ref (ad 28)), (1, .int x1)] → W p l e (headSpec wsX9_layFirst ({ frames := 5, cells := 0, slots := 0, locals := 121 })).room s m ([.ref (ad 28)] : List Value).toArray below meth c H locs 0 0 (QI below r S2 D y ad ([.ref (ad 28)] : List Value).toArray s) (F0 m 2 ls [])) (k12 : St → Int32 → Option (Int32 × St)) (hk12 : ∀ (S : St) (x2 : Int32) (H : Heap) (locs : List Loc) (ls : Array Slot), k12 S x2 = some (r, S2) → PW D y ad S H → va_S (AA ad) s.heap H locs → lv_has ls 3 [(0, .ref (ad 28)), (1, .int x1), (2, .int x2)] → W p l e (headSpec wsX9_layFirst ({ frames := 5, cells := 0, slots := 0, locals := 121 })).room s m ([.ref (ad 28)] : List Value).toArray below meth c H locs 0 0 (QI below r S2 D y ad ([.ref (ad 28)] : List Value).toArray s) (F0 m 12 ls [])), ∀ (S : St) (x2 : Int32) (t1 : Int32) (t2 : Int64) (H : Heap) (locs : List Loc) (ls : Array Slot), f_X9_layFirst_42 n x1 k2 k12 S x2 t1 t2 = some (r, S2) → PW D y ad S H → va_S (AA ad) s.heap H locs → lv_has ls 3 [(0, .ref (ad 28)), (1, .int x1), (2, .int x2)] → W p l e (headSpec wsX9_layFirst ({ frames := 5, cells := 0, slots := 0, locals := 121 })).room s m ([.ref (ad 28)] : List Value).toArray below meth c H locs 0 0 (QI below r S2 D y ad ([.ref (ad 28)] : List Value).toArray s) (F0 m 42 ls [.long t2, .int t1, .ref (ad 43)]) := by
    intro x1 k2 hk2 k12 hk12 S x2 t1 t2 H locs ls hf hP hS hl
    unfold f_X9_layFirst_42 at hf
    obtain ⟨g_22, hf⟩ := gd_inv hf
    obtain ⟨S_23, eS_23, hf⟩ := bd_inv hf
    refine w_last hx hb hK hI hP hS t_43 g_22 dX9_layFirst_42 (fun H locs hP hS => ?_)
    rw [← eS_23] at hP
    obtain ⟨x2_24, ex2_24, hf⟩ := bd_inv hf
    refine lv_iinc (v := x2_24) (lv' := [(2, .int x2_24), (0, .ref (ad 28)), (1, .int x1)]) hx hb dX9_layFirst_43 hl (k := 2) rfl (by rw [ex2_24]; rfl) (by decide) rfl (fun ls hl => ?_)
    refine lv_goto (tgt := 12) hx hb dX9_layFirst_46 (by decide) ?_
    exact hk12 S_23 x2_24 _ _ _ hf hP hS (lv_sub hl [1, 2, 0] rfl)
  have b12 : ∀ (x1 : Int32) (k2 : St → Int32 → Option (Int32 × St)) (hk2 : ∀ (S : St) (x1 : Int32) (H : Heap) (locs : List Loc) (ls : Array Slot), k2 S x1 = some (r, S2) → PW D y ad S H → va_S (AA ad) s.heap H locs → lv_has ls 3 [(0, .ref (ad 28)), (1, .int x1)] → W p l e (headSpec wsX9_layFirst ({ frames := 5, cells := 0, slots := 0, locals := 121 })).room s m ([.ref (ad 28)] : List Value).toArray below meth c H locs 0 0 (QI below r S2 D y ad ([.ref (ad 28)] : List Value).toArray s) (F0 m 2 ls [])) (k12 : St → Int32 → Option (Int32 × St)) (hk12 : ∀ (S : St) (x2 : Int32) (H : Heap) (locs : List Loc) (ls : Array Slot), k12 S x2 = some (r, S2) → PW D y ad S H → va_S (AA ad) s.heap H locs → lv_has ls 3 [(0, .ref (ad 28)), (1, .int x1), (2, .int x2)] → W p l e (headSpec wsX9_layFirst ({ frames := 5, cells := 0, slots := 0, locals := 121 })).room s m ([.ref (ad 28)] : List Value).toArray below meth c H locs 0 0 (QI below r S2 D y ad ([.ref (ad 28)] : List Value).toArray s) (F0 m 12 ls [])), ∀ (S : St) (x2 : Int32) (H : Heap) (locs : List Loc) (ls : Array Slot), f_X9_layFirst_12 n x1 k2 k12 S x2 = some (r, S2) → PW D y ad S H → va_S (AA ad) s.heap H locs → lv_has ls 3 [(0, .ref (ad 28)), (1, .int x1), (2, .int x2)] → W p l e (headSpec wsX9_layFirst ({ frames := 5, cells := 0, slots := 0, locals := 121 })).room s m ([.ref (ad 28)] : List Value).toArray below meth c H locs 0 0 (QI below r S2 D y ad ([.ref (ad 28)] : List Value).toArray s) (F0 m 12 ls []) := by
    intro x1 k2 hk2 k12 hk12 S x2 H locs ls hf hP hS hl
    unfold f_X9_layFirst_12 at hf
    refine lv_iload_n hx hb dX9_layFirst_12 rfl (lv_at hl 2 rfl) ?_
    refine lv_aload_n hx hb dX9_layFirst_13 rfl (lv_at hl 0 rfl) ?_
    refine w_gI (C := RX9) (T := TX9) hx hb hts n9 hown hK hP t_28 rfl 18 (by decide) L133 rfl dX9_layFirst_14 ?_
    refine lv_icmp_ge (tgt := 49) hx hb dX9_layFirst_17 (by decide) (fun b_25 => ?_) (fun b_25 => ?_)
    · have hf := if_t b_25 hf
      obtain ⟨x1_26, ex1_26, hf⟩ := bd_inv hf
      refine lv_iinc (v := x1_26) (lv' := [(1, .int x1_26), (0, .ref (ad 28)), (2, .int x2)]) hx hb dX9_layFirst_49 hl (k := 1) rfl (by rw [ex1_26]; rfl) (by decide) rfl (fun ls hl => ?_)
      refine lv_goto (tgt := 2) hx hb dX9_layFirst_52 (by decide) ?_
      exact hk2 S x1_26 _ _ _ hf hP hS (lv_sub hl [1, 0] rfl)
    · have hf := if_f b_25 hf
      refine lv_aload_n hx hb dX9_layFirst_20 rfl (lv_at hl 0 rfl) ?_
      refine w_gR (z := 43) (C := RX9) (T := TX9) hx hb hts n9 hown hK hP t_28 rfl 29 (by decide) L53 rfl rfl dX9_layFirst_21 ?_
      refine lv_bipush (v := (10)) hx hb dX9_layFirst_24 (by decide) ?_
      refine lv_iload_n hx hb dX9_layFirst_26 rfl (lv_at hl 1 rfl) ?_
      refine lv_imul hx hb dX9_layFirst_27 ?_
      refine lv_iload_n hx hb dX9_layFirst_28 rfl (lv_at hl 2 rfl) ?_
      refine lv_iadd hx hb dX9_layFirst_29 ?_
      refine lv_iload_n hx hb dX9_layFirst_30 rfl (lv_at hl 1 rfl) ?_
      refine lv_iload_n hx hb dX9_layFirst_31 rfl (lv_at hl 2 rfl) ?_
      refine lv_icmp_ne (tgt := 39) hx hb dX9_layFirst_32 (by decide) (fun b_27 => ?_) (fun b_27 => ?_)
      · have hf := if_f b_27 hf
        refine lv_ldc2 (v := (1152921504606846976)) hx hb hown K176 dX9_layFirst_39 ?_
        exact j42 x1 k2 hk2 k12 hk12 S x2 ((((10 : Int32) * x1) + x2)) ((1152921504606846976 : Int64)) _ _ _ hf hP hS (lv_sub hl [0, 1, 2] rfl)
      · have hf := if_t b_27 hf
        refine lv_lconst (v := 0) hx hb dX9_layFirst_35 (by decide) ?_
        refine lv_goto (tgt := 42) hx hb dX9_layFirst_36 (by decide) ?_
        exact j42 x1 k2 hk2 k12 hk12 S x2 ((((10 : Int32) * x1) + x2)) ((0 : Int64)) _ _ _ hf hP hS (lv_sub hl [0, 1, 2] rfl)
  have j12 : ∀ (x1 : Int32) (k2 : St → Int32 → Option (Int32 × St)) (hk2 : ∀ (S : St) (x1 : Int32) (H : Heap) (locs : List Loc) (ls : Array Slot), k2 S x1 = some (r, S2) → PW D y ad S H → va_S (AA ad) s.heap H locs → lv_has ls 3 [(0, .ref (ad 28)), (1, .int x1)] → W p l e (headSpec wsX9_layFirst ({ frames := 5, cells := 0, slots := 0, locals := 121 })).room s m ([.ref (ad 28)] : List Value).toArray below meth c H locs 0 0 (QI below r S2 D y ad ([.ref (ad 28)] : List Value).toArray s) (F0 m 2 ls [])) (fu : Nat), ∀ (S : St) (x2 : Int32) (H : Heap) (locs : List Loc) (ls : Array Slot), fixF (fun _ _ => none) (f_X9_layFirst_12 n x1 k2) fu S x2 = some (r, S2) → PW D y ad S H → va_S (AA ad) s.heap H locs → lv_has ls 3 [(0, .ref (ad 28)), (1, .int x1), (2, .int x2)] → W p l e (headSpec wsX9_layFirst ({ frames := 5, cells := 0, slots := 0, locals := 121 })).room s m ([.ref (ad 28)] : List Value).toArray below meth c H locs 0 0 (QI below r S2 D y ad ([.ref (ad 28)] : List Value).toArray s) (F0 m 12 ls []) := by
    intro x1 k2 hk2 fu
    induction fu with
    | zero => intro S x2 H locs ls hf hP hS hl; cases hf
    | succ fu ih => exact b12 x1 k2 hk2 (fixF (fun _ _ => none) (f_X9_layFirst_12 n x1 k2) fu) ih
  have b2 : ∀ (k2 : St → Int32 → Option (Int32 × St)) (hk2 : ∀ (S : St) (x1 : Int32) (H : Heap) (locs : List Loc) (ls : Array Slot), k2 S x1 = some (r, S2) → PW D y ad S H → va_S (AA ad) s.heap H locs → lv_has ls 3 [(0, .ref (ad 28)), (1, .int x1)] → W p l e (headSpec wsX9_layFirst ({ frames := 5, cells := 0, slots := 0, locals := 121 })).room s m ([.ref (ad 28)] : List Value).toArray below meth c H locs 0 0 (QI below r S2 D y ad ([.ref (ad 28)] : List Value).toArray s) (F0 m 2 ls [])), ∀ (S : St) (x1 : Int32) (H : Heap) (locs : List Loc) (ls : Array Slot), f_X9_layFirst_2 n k2 S x1 = some (r, S2) → PW D y ad S H → va_S (AA ad) s.heap H locs → lv_has ls 3 [(0, .ref (ad 28)), (1, .int x1)] → W p l e (headSpec wsX9_layFirst ({ frames := 5, cells := 0, slots := 0, locals := 121 })).room s m ([.ref (ad 28)] : List Value).toArray below meth c H locs 0 0 (QI below r S2 D y ad ([.ref (ad 28)] : List Value).toArray s) (F0 m 2 ls []) := by
    intro  k2 hk2 S x1 H locs ls hf hP hS hl
    unfold f_X9_layFirst_2 at hf
    refine lv_iload_n hx hb dX9_layFirst_2 rfl (lv_at hl 1 rfl) ?_
    refine lv_aload_n hx hb dX9_layFirst_3 rfl (lv_at hl 0 rfl) ?_
    refine w_gI (C := RX9) (T := TX9) hx hb hts n9 hown hK hP t_28 rfl 18 (by decide) L133 rfl dX9_layFirst_4 ?_
    refine lv_icmp_ge (tgt := 55) hx hb dX9_layFirst_7 (by decide) (fun b_28 => ?_) (fun b_28 => ?_)
    · have hf := if_t b_28 hf
      refine lv_iconst (v := 1) hx hb dX9_layFirst_55 (by decide) ?_
      obtain ⟨x1_29, ex1_29, hf⟩ := bd_inv hf
      refine w_topI ex1_29 ?_
      refine lv_istore_n (lv' := [(1, .int x1_29), (0, .ref (ad 28))]) hx hb dX9_layFirst_56 rfl hl (by decide) rfl (fun ls hl => ?_)
      refine lv_iconst (v := 0) hx hb dX9_layFirst_57 (by decide) ?_
      obtain ⟨x2_30, ex2_30, hf⟩ := bd_inv hf
      refine w_topI ex2_30 ?_
      refine lv_istore_n (lv' := [(2, .int x2_30), (1, .int x1_29), (0, .ref (ad 28))]) hx hb dX9_layFirst_58 rfl hl (by decide) rfl (fun ls hl => ?_)
      exact j59   n S x1_29 x2_30 _ _ _ hf hP hS (lv_sub hl [2, 1, 0] rfl)
    · have hf := if_f b_28 hf
      refine lv_iconst (v := 0) hx hb dX9_layFirst_10 (by decide) ?_
      obtain ⟨x2_31, ex2_31, hf⟩ := bd_inv hf
      refine w_topI ex2_31 ?_
      refine lv_istore_n (lv' := [(2, .int x2_31), (0, .ref (ad 28)), (1, .int x1)]) hx hb dX9_layFirst_11 rfl hl (by decide) rfl (fun ls hl => ?_)
      exact j12 x1 k2 hk2 n S x2_31 _ _ _ hf hP hS (lv_sub hl [1, 2, 0] rfl)
  have j2 : ∀ (fu : Nat), ∀ (S : St) (x1 : Int32) (H : Heap) (locs : List Loc) (ls : Array Slot), fixF (fun _ _ => none) (f_X9_layFirst_2 n) fu S x1 = some (r, S2) → PW D y ad S H → va_S (AA ad) s.heap H locs → lv_has ls 3 [(0, .ref (ad 28)), (1, .int x1)] → W p l e (headSpec wsX9_layFirst ({ frames := 5, cells := 0, slots := 0, locals := 121 })).room s m ([.ref (ad 28)] : List Value).toArray below meth c H locs 0 0 (QI below r S2 D y ad ([.ref (ad 28)] : List Value).toArray s) (F0 m 2 ls []) := by
    intro   fu
    induction fu with
    | zero => intro S x1 H locs ls hf hP hS hl; cases hf
    | succ fu ih => exact b2   (fixF (fun _ _ => none) (f_X9_layFirst_2 n) fu) ih
  unfold f_X9_layFirst at hf
  refine lv_iconst (v := 0) hx hb dX9_layFirst_0 (by decide) ?_
  obtain ⟨x1_32, ex1_32, hf⟩ := bd_inv hf
  refine w_topI ex1_32 ?_
  refine lv_istore_n (lv' := [(1, .int x1_32), (0, .ref (ad 28))]) hx hb dX9_layFirst_1 rfl hl (by decide) rfl (fun ls hl => ?_)
  exact j2   n S x1_32 _ _ _ hf hP hS (lv_sub hl [1, 0] rfl)
set_option maxHeartbeats 4000000 in
set_option maxRecDepth 100000 in
theorem c_X9_fill (l : Launch) (D : va_G) (y : y4) (ad : Nat → Nat) (aL aU : Nat) (hI : Inj ad) (n : Nat) (S : St) (a1 : Int32) (r : Unit) (S2 : St) (hf : f_X9_fill n S a1 = some (r, S2)) : KV l D y ad aL aU yX9_fill wsX9_fill ({ frames := 2, cells := 0, slots := 0, locals := 43 }) [.ref (ad 28), .int a1] S r S2 := by
  refine Met.ofW (cc := cX9_fill) (maxL := 7) (ret := none) (by decide) rfl ?_
  intro p e s m args below meth c s₁ B hml hv
  obtain ⟨rfl, hP, hK, hZ⟩ := hv
  have hx := B.exec
  have hb := B.bytes
  have hr := B.returns
  have hts := atoms_spec (ws := wsX9_fill) B.pre
  have hown : s.vm.findClass RX9 = some m.cls := findClass_of_methodNamed B.named
  have hlocks := B.notSynchronized
  have hS : va_S (AA ad) s.heap s.heap [] := va_S.rf
  have L53 := hts (.fieldLink RX9 53 "JoinedTheoriesModel" "bounds" "[J") (by decide +kernel)
  have L56 := hts (.fieldLink RX9 56 "JoinedTheoriesModel" "values" "[J") (by decide +kernel)
  have L133 := hts (.fieldLink RX9 133 "JoinedTheoriesModel" "terms" "I") (by decide +kernel)
  have L244 := hts (.fieldLink RX9 244 "JoinedTheoriesModel" "wantTo" "I") (by decide +kernel)
  have K140 := hts (.constant RX9 140 (-2000000001)) (by decide +kernel)
  have K176 := hts (.constantLong RX9 176 (1152921504606846976)) (by decide +kernel)
  have K247 := hts (.constantLong RX9 247 (1125899906842624)) (by decide +kernel)
  have n9 : ∀ w ∈ wsX90, w ∈ wsX9_fill := by decide +kernel
  have hl := lv_entry ([.ref (ad 28), .int a1]) (n := 7) (Nat.le_of_ble_eq_true rfl)
  rw [lg_entry_eq]
  generalize (lg_sl ([.ref (ad 28), .int a1]) ++ List.replicate (7 - (lg_sl ([.ref (ad 28), .int a1])).length) Slot.unset).toArray = ls at hl ⊢
  have hl : lv_has ls 7 [(0, .ref (ad 28)), (1, .int a1)] := hl
  have j123 : ∀ (x1 : Int32) (k2 : St → Int32 → Option (Unit × St)) (hk2 : ∀ (S : St) (x2 : Int32) (H : Heap) (locs : List Loc) (ls : Array Slot), k2 S x2 = some (r, S2) → PW D y ad S H → va_S (AA ad) s.heap H locs → lv_has ls 7 [(0, .ref (ad 28)), (1, .int x1), (2, .int x2)] → W p l e (headSpec wsX9_fill ({ frames := 2, cells := 0, slots := 0, locals := 43 })).room s m ([.ref (ad 28), .int a1] : List Value).toArray below meth c H locs 0 0 (QV below r S2 D y ad ([.ref (ad 28), .int a1] : List Value).toArray s) (F0 m 2 ls [])), ∀ (S : St) (x2 : Int32) (t1 : Int32) (t2 : Int64) (H : Heap) (locs : List Loc) (ls : Array Slot), f_X9_fill_123 n x1 k2 S x2 t1 t2 = some (r, S2) → PW D y ad S H → va_S (AA ad) s.heap H locs → lv_has ls 7 [(0, .ref (ad 28)), (1, .int x1), (2, .int x2)] → W p l e (headSpec wsX9_fill ({ frames := 2, cells := 0, slots := 0, locals := 43 })).room s m ([.ref (ad 28), .int a1] : List Value).toArray below meth c H locs 0 0 (QV below r S2 D y ad ([.ref (ad 28), .int a1] : List Value).toArray s) (F0 m 123 ls [.long t2, .int t1, .ref (ad 44)]) := by
    intro x1 k2 hk2 S x2 t1 t2 H locs ls hf hP hS hl
    unfold f_X9_fill_123 at hf
    obtain ⟨g_1, hf⟩ := gd_inv hf
    obtain ⟨S_2, eS_2, hf⟩ := bd_inv hf
    refine w_last hx hb hK hI hP hS t_44 g_1 dX9_fill_123 (fun H locs hP hS => ?_)
    rw [← eS_2] at hP
    obtain ⟨x2_3, ex2_3, hf⟩ := bd_inv hf
    refine lv_iinc (v := x2_3) (lv' := [(2, .int x2_3), (0, .ref (ad 28)), (1, .int x1)]) hx hb dX9_fill_124 hl (k := 2) rfl (by rw [ex2_3]; rfl) (by decide) rfl (fun ls hl => ?_)
    refine lv_goto (tgt := 2) hx hb dX9_fill_127 (by decide) ?_
    exact hk2 S_2 x2_3 _ _ _ hf hP hS (lv_sub hl [1, 2, 0] rfl)
  have j88 : ∀ (x1 : Int32) (k2 : St → Int32 → Option (Unit × St)) (hk2 : ∀ (S : St) (x2 : Int32) (H : Heap) (locs : List Loc) (ls : Array Slot), k2 S x2 = some (r, S2) → PW D y ad S H → va_S (AA ad) s.heap H locs → lv_has ls 7 [(0, .ref (ad 28)), (1, .int x1), (2, .int x2)] → W p l e (headSpec wsX9_fill ({ frames := 2, cells := 0, slots := 0, locals := 43 })).room s m ([.ref (ad 28), .int a1] : List Value).toArray below meth c H locs 0 0 (QV below r S2 D y ad ([.ref (ad 28), .int a1] : List Value).toArray s) (F0 m 2 ls [])), ∀ (S : St) (x2 : Int32) (x3 : Int64) (t0 : Int64) (H : Heap) (locs : List Loc) (ls : Array Slot), f_X9_fill_88 n x1 k2 S x2 x3 t0 = some (r, S2) → PW D y ad S H → va_S (AA ad) s.heap H locs → lv_has ls 7 [(0, .ref (ad 28)), (1, .int x1), (2, .int x2), (3, .long x3)] → W p l e (headSpec wsX9_fill ({ frames := 2, cells := 0, slots := 0, locals := 43 })).room s m ([.ref (ad 28), .int a1] : List Value).toArray below meth c H locs 0 0 (QV below r S2 D y ad ([.ref (ad 28), .int a1] : List Value).toArray s) (F0 m 88 ls [.long t0]) := by
    intro x1 k2 hk2 S x2 x3 t0 H locs ls hf hP hS hl
    unfold f_X9_fill_88 at hf
    obtain ⟨x5_4, ex5_4, hf⟩ := bd_inv hf
    refine w_topL ex5_4 ?_
    refine lv_lstore (lv' := [(5, .long x5_4), (0, .ref (ad 28)), (1, .int x1), (2, .int x2), (3, .long x3)]) hx hb dX9_fill_88 hl (by decide) rfl (fun ls hl => ?_)
    refine lv_aload_n hx hb dX9_fill_90 rfl (lv_at hl 1 rfl) ?_
    refine w_gR (z := 44) (C := RX9) (T := TX9) hx hb hts n9 hown hK hP t_28 rfl 30 (by decide) L56 rfl rfl dX9_fill_91 ?_
    refine lv_bipush (v := (10)) hx hb dX9_fill_94 (by decide) ?_
    refine lv_iload_n hx hb dX9_fill_96 rfl (lv_at hl 2 rfl) ?_
    refine lv_imul hx hb dX9_fill_97 ?_
    refine lv_iload_n hx hb dX9_fill_98 rfl (lv_at hl 3 rfl) ?_
    refine lv_iadd hx hb dX9_fill_99 ?_
    refine lv_aload_n hx hb dX9_fill_100 rfl (lv_at hl 1 rfl) ?_
    refine w_gI (C := RX9) (T := TX9) hx hb hts n9 hown hK hP t_28 rfl 38 (by decide) L244 rfl dX9_fill_101 ?_
    refine lv_ldc (v := (-2000000001)) hx hb hown K140 dX9_fill_104 ?_
    refine lv_icmp_ne (tgt := 113) hx hb dX9_fill_106 (by decide) (fun b_5 => ?_) (fun b_5 => ?_)
    · have hf := if_f b_5 hf
      refine lv_lload hx hb dX9_fill_113 (lv_at hl 0 rfl) ?_
      refine lv_lload_n hx hb dX9_fill_115 rfl (lv_at hl 4 rfl) ?_
      refine lv_ldc2 (v := (1125899906842624)) hx hb hown K247 dX9_fill_116 ?_
      refine lv_ladd hx hb dX9_fill_119 ?_
      obtain ⟨r_6, S_7, hc_8, hf⟩ := bo_inv hf
      refine w_cl (va_runS (As := [.long x5_4, .long (x3 + (1125899906842624 : Int64))]) (rest := [.int (((10 : Int32) * x1) + x2), .ref (ad 44)]) ⟨hx, hb, hml, hown, hts⟩ (c_X9_least l D y ad aL aU hI n S x5_4 ((x3 + (1125899906842624 : Int64))) _ _ hc_8) (cwS 2 hts gX9_fill_X9_least rfl rfl rfl (by decide +kernel) ⟨Nat.le_of_ble_eq_true rfl, Nat.le_of_ble_eq_true rfl⟩) (pwu_S hP hK hZ hS) rfl rfl hl.1 rfl (lv_room (Nat.le_of_ble_eq_true rfl)) dX9_fill_120 ⟨Nat.zero_le _, Nat.zero_le _⟩) hS (fun H locs hP hS => ?_)
      exact j123 x1 k2 hk2 S_7 x2 ((((10 : Int32) * x1) + x2)) r_6 _ _ _ hf hP hS (lv_sub hl [1, 2, 3] rfl)
    · have hf := if_t b_5 hf
      refine lv_lload_n hx hb dX9_fill_109 rfl (lv_at hl 4 rfl) ?_
      refine lv_goto (tgt := 123) hx hb dX9_fill_110 (by decide) ?_
      exact j123 x1 k2 hk2 S x2 ((((10 : Int32) * x1) + x2)) x3 _ _ _ hf hP hS (lv_sub hl [1, 2, 3] rfl)
  have b17 : ∀ (x1 : Int32) (x2 : Int32) (k2 : St → Int32 → Option (Unit × St)) (hk2 : ∀ (S : St) (x2 : Int32) (H : Heap) (locs : List Loc) (ls : Array Slot), k2 S x2 = some (r, S2) → PW D y ad S H → va_S (AA ad) s.heap H locs → lv_has ls 7 [(0, .ref (ad 28)), (1, .int x1), (2, .int x2)] → W p l e (headSpec wsX9_fill ({ frames := 2, cells := 0, slots := 0, locals := 43 })).room s m ([.ref (ad 28), .int a1] : List Value).toArray below meth c H locs 0 0 (QV below r S2 D y ad ([.ref (ad 28), .int a1] : List Value).toArray s) (F0 m 2 ls [])) (k17 : St → Int64 → Int32 → Option (Unit × St)) (hk17 : ∀ (S : St) (x3 : Int64) (x5 : Int32) (H : Heap) (locs : List Loc) (ls : Array Slot), k17 S x3 x5 = some (r, S2) → PW D y ad S H → va_S (AA ad) s.heap H locs → lv_has ls 7 [(0, .ref (ad 28)), (1, .int x1), (2, .int x2), (3, .long x3), (5, .int x5)] → W p l e (headSpec wsX9_fill ({ frames := 2, cells := 0, slots := 0, locals := 43 })).room s m ([.ref (ad 28), .int a1] : List Value).toArray below meth c H locs 0 0 (QV below r S2 D y ad ([.ref (ad 28), .int a1] : List Value).toArray s) (F0 m 17 ls [])), ∀ (S : St) (x3 : Int64) (x5 : Int32) (H : Heap) (locs : List Loc) (ls : Array Slot), f_X9_fill_17 n x1 x2 k2 k17 S x3 x5 = some (r, S2) → PW D y ad S H → va_S (AA ad) s.heap H locs → lv_has ls 7 [(0, .ref (ad 28)), (1, .int x1), (2, .int x2), (3, .long x3), (5, .int x5)] → W p l e (headSpec wsX9_fill ({ frames := 2, cells := 0, slots := 0, locals := 43 })).room s m ([.ref (ad 28), .int a1] : List Value).toArray below meth c H locs 0 0 (QV below r S2 D y ad ([.ref (ad 28), .int a1] : List Value).toArray s) (F0 m 17 ls []) := by
    intro x1 x2 k2 hk2 k17 hk17 S x3 x5 H locs ls hf hP hS hl
    unfold f_X9_fill_17 at hf
    refine lv_iload hx hb dX9_fill_17 (lv_at hl 4 rfl) ?_
    refine lv_aload_n hx hb dX9_fill_19 rfl (lv_at hl 0 rfl) ?_
    refine w_gI (C := RX9) (T := TX9) hx hb hts n9 hown hK hP t_28 rfl 18 (by decide) L133 rfl dX9_fill_20 ?_
    refine lv_icmp_ge (tgt := 54) hx hb dX9_fill_23 (by decide) (fun b_9 => ?_) (fun b_9 => ?_)
    · have hf := if_t b_9 hf
      refine lv_aload_n hx hb dX9_fill_54 rfl (lv_at hl 0 rfl) ?_
      refine w_gI (C := RX9) (T := TX9) hx hb hts n9 hown hK hP t_28 rfl 38 (by decide) L244 rfl dX9_fill_55 ?_
      refine lv_ldc (v := (-2000000001)) hx hb hown K140 dX9_fill_58 ?_
      refine lv_icmp_ne (tgt := 69) hx hb dX9_fill_60 (by decide) (fun b_10 => ?_) (fun b_10 => ?_)
      · have hf := if_f b_10 hf
        refine lv_aload_n hx hb dX9_fill_69 rfl (lv_at hl 0 rfl) ?_
        refine w_gR (z := 43) (C := RX9) (T := TX9) hx hb hts n9 hown hK hP t_28 rfl 29 (by decide) L53 rfl rfl dX9_fill_70 ?_
        refine lv_bipush (v := (100)) hx hb dX9_fill_73 (by decide) ?_
        refine lv_iload_n hx hb dX9_fill_75 rfl (lv_at hl 1 rfl) ?_
        refine lv_imul hx hb dX9_fill_76 ?_
        refine lv_bipush (v := (10)) hx hb dX9_fill_77 (by decide) ?_
        refine lv_iload_n hx hb dX9_fill_79 rfl (lv_at hl 2 rfl) ?_
        refine lv_imul hx hb dX9_fill_80 ?_
        refine lv_iadd hx hb dX9_fill_81 ?_
        refine lv_aload_n hx hb dX9_fill_82 rfl (lv_at hl 0 rfl) ?_
        refine w_gI (C := RX9) (T := TX9) hx hb hts n9 hown hK hP t_28 rfl 38 (by decide) L244 rfl dX9_fill_83 ?_
        refine lv_iadd hx hb dX9_fill_86 ?_
        obtain ⟨g_11, hf⟩ := gd_inv hf
        refine w_lald hx hb hK hP t_43 g_11 dX9_fill_87 ?_
        exact j88 x1 k2 hk2 S x2 x3 ((S.2 43 (((((100 : Int32) * x1) + ((10 : Int32) * x2)) + (S.1 28 38))).toNatClampNeg)) _ _ _ hf hP hS (lv_sub hl [0, 1, 2, 3] rfl)
      · have hf := if_t b_10 hf
        refine lv_ldc2 (v := (1152921504606846976)) hx hb hown K176 dX9_fill_63 ?_
        refine lv_goto (tgt := 88) hx hb dX9_fill_66 (by decide) ?_
        exact j88 x1 k2 hk2 S x2 x3 ((1152921504606846976 : Int64)) _ _ _ hf hP hS (lv_sub hl [0, 1, 2, 3] rfl)
    · have hf := if_f b_9 hf
      refine lv_lload_n hx hb dX9_fill_26 rfl (lv_at hl 3 rfl) ?_
      refine lv_aload_n hx hb dX9_fill_27 rfl (lv_at hl 0 rfl) ?_
      refine w_gR (z := 43) (C := RX9) (T := TX9) hx hb hts n9 hown hK hP t_28 rfl 29 (by decide) L53 rfl rfl dX9_fill_28 ?_
      refine lv_bipush (v := (100)) hx hb dX9_fill_31 (by decide) ?_
      refine lv_iload_n hx hb dX9_fill_33 rfl (lv_at hl 1 rfl) ?_
      refine lv_imul hx hb dX9_fill_34 ?_
      refine lv_bipush (v := (10)) hx hb dX9_fill_35 (by decide) ?_
      refine lv_iload_n hx hb dX9_fill_37 rfl (lv_at hl 2 rfl) ?_
      refine lv_imul hx hb dX9_fill_38 ?_
      refine lv_iadd hx hb dX9_fill_39 ?_
      refine lv_iload hx hb dX9_fill_40 (lv_at hl 4 rfl) ?_
      refine lv_iadd hx hb dX9_fill_42 ?_
      obtain ⟨g_12, hf⟩ := gd_inv hf
      refine w_lald hx hb hK hP t_43 g_12 dX9_fill_43 ?_
      obtain ⟨r_13, S_14, hc_15, hf⟩ := bo_inv hf
      refine w_cl (va_runS (As := [.long x3, .long (S.2 43 (((((100 : Int32) * x1) + ((10 : Int32) * x2)) + x5)).toNatClampNeg)]) (rest := []) ⟨hx, hb, hml, hown, hts⟩ (c_X9_least l D y ad aL aU hI n S x3 ((S.2 43 (((((100 : Int32) * x1) + ((10 : Int32) * x2)) + x5)).toNatClampNeg)) _ _ hc_15) (cwS 2 hts gX9_fill_X9_least rfl rfl rfl (by decide +kernel) ⟨Nat.le_of_ble_eq_true rfl, Nat.le_of_ble_eq_true rfl⟩) (pwu_S hP hK hZ hS) rfl rfl hl.1 rfl (lv_room (Nat.le_of_ble_eq_true rfl)) dX9_fill_44 ⟨Nat.zero_le _, Nat.zero_le _⟩) hS (fun H locs hP hS => ?_)
      obtain ⟨x3_16, ex3_16, hf⟩ := bd_inv hf
      refine w_topL ex3_16 ?_
      refine lv_lstore_n (lv' := [(3, .long x3_16), (0, .ref (ad 28)), (1, .int x1), (2, .int x2), (5, .int x5)]) hx hb dX9_fill_47 rfl hl (by decide) rfl (fun ls hl => ?_)
      obtain ⟨x5_17, ex5_17, hf⟩ := bd_inv hf
      refine lv_iinc (v := x5_17) (lv' := [(5, .int x5_17), (3, .long x3_16), (0, .ref (ad 28)), (1, .int x1), (2, .int x2)]) hx hb dX9_fill_48 hl (k := 4) rfl (by rw [ex5_17]; rfl) (by decide) rfl (fun ls hl => ?_)
      refine lv_goto (tgt := 17) hx hb dX9_fill_51 (by decide) ?_
      exact hk17 S_14 x3_16 x5_17 _ _ _ hf hP hS (lv_sub hl [2, 3, 4, 1, 0] rfl)
  have j17 : ∀ (x1 : Int32) (x2 : Int32) (k2 : St → Int32 → Option (Unit × St)) (hk2 : ∀ (S : St) (x2 : Int32) (H : Heap) (locs : List Loc) (ls : Array Slot), k2 S x2 = some (r, S2) → PW D y ad S H → va_S (AA ad) s.heap H locs → lv_has ls 7 [(0, .ref (ad 28)), (1, .int x1), (2, .int x2)] → W p l e (headSpec wsX9_fill ({ frames := 2, cells := 0, slots := 0, locals := 43 })).room s m ([.ref (ad 28), .int a1] : List Value).toArray below meth c H locs 0 0 (QV below r S2 D y ad ([.ref (ad 28), .int a1] : List Value).toArray s) (F0 m 2 ls [])) (fu : Nat), ∀ (S : St) (x3 : Int64) (x5 : Int32) (H : Heap) (locs : List Loc) (ls : Array Slot), fixF (fun _ _ _ => none) (f_X9_fill_17 n x1 x2 k2) fu S x3 x5 = some (r, S2) → PW D y ad S H → va_S (AA ad) s.heap H locs → lv_has ls 7 [(0, .ref (ad 28)), (1, .int x1), (2, .int x2), (3, .long x3), (5, .int x5)] → W p l e (headSpec wsX9_fill ({ frames := 2, cells := 0, slots := 0, locals := 43 })).room s m ([.ref (ad 28), .int a1] : List Value).toArray below meth c H locs 0 0 (QV below r S2 D y ad ([.ref (ad 28), .int a1] : List Value).toArray s) (F0 m 17 ls []) := by
    intro x1 x2 k2 hk2 fu
    induction fu with
    | zero => intro S x3 x5 H locs ls hf hP hS hl; cases hf
    | succ fu ih => exact b17 x1 x2 k2 hk2 (fixF (fun _ _ _ => none) (f_X9_fill_17 n x1 x2 k2) fu) ih
  have b2 : ∀ (x1 : Int32) (k2 : St → Int32 → Option (Unit × St)) (hk2 : ∀ (S : St) (x2 : Int32) (H : Heap) (locs : List Loc) (ls : Array Slot), k2 S x2 = some (r, S2) → PW D y ad S H → va_S (AA ad) s.heap H locs → lv_has ls 7 [(0, .ref (ad 28)), (1, .int x1), (2, .int x2)] → W p l e (headSpec wsX9_fill ({ frames := 2, cells := 0, slots := 0, locals := 43 })).room s m ([.ref (ad 28), .int a1] : List Value).toArray below meth c H locs 0 0 (QV below r S2 D y ad ([.ref (ad 28), .int a1] : List Value).toArray s) (F0 m 2 ls [])), ∀ (S : St) (x2 : Int32) (H : Heap) (locs : List Loc) (ls : Array Slot), f_X9_fill_2 n x1 k2 S x2 = some (r, S2) → PW D y ad S H → va_S (AA ad) s.heap H locs → lv_has ls 7 [(0, .ref (ad 28)), (1, .int x1), (2, .int x2)] → W p l e (headSpec wsX9_fill ({ frames := 2, cells := 0, slots := 0, locals := 43 })).room s m ([.ref (ad 28), .int a1] : List Value).toArray below meth c H locs 0 0 (QV below r S2 D y ad ([.ref (ad 28), .int a1] : List Value).toArray s) (F0 m 2 ls []) := by
    intro x1 k2 hk2 S x2 H locs ls hf hP hS hl
    unfold f_X9_fill_2 at hf
    refine lv_iload_n hx hb dX9_fill_2 rfl (lv_at hl 2 rfl) ?_
    refine lv_aload_n hx hb dX9_fill_3 rfl (lv_at hl 0 rfl) ?_
    refine w_gI (C := RX9) (T := TX9) hx hb hts n9 hown hK hP t_28 rfl 18 (by decide) L133 rfl dX9_fill_4 ?_
    refine lv_icmp_ge (tgt := 130) hx hb dX9_fill_7 (by decide) (fun b_18 => ?_) (fun b_18 => ?_)
    · have hf := if_t b_18 hf
      exact w_vret hx hb hr hlocks hP hS (rt_inv hf) dX9_fill_130
    · have hf := if_f b_18 hf
      refine lv_ldc2 (v := (1152921504606846976)) hx hb hown K176 dX9_fill_10 ?_
      obtain ⟨x3_19, ex3_19, hf⟩ := bd_inv hf
      refine w_topL ex3_19 ?_
      refine lv_lstore_n (lv' := [(3, .long x3_19), (0, .ref (ad 28)), (1, .int x1), (2, .int x2)]) hx hb dX9_fill_13 rfl hl (by decide) rfl (fun ls hl => ?_)
      refine lv_iconst (v := 0) hx hb dX9_fill_14 (by decide) ?_
      obtain ⟨x5_20, ex5_20, hf⟩ := bd_inv hf
      refine w_topI ex5_20 ?_
      refine lv_istore (lv' := [(5, .int x5_20), (3, .long x3_19), (0, .ref (ad 28)), (1, .int x1), (2, .int x2)]) hx hb dX9_fill_15 hl (by decide) rfl (fun ls hl => ?_)
      exact j17 x1 x2 k2 hk2 n S x3_19 x5_20 _ _ _ hf hP hS (lv_sub hl [2, 3, 4, 1, 0] rfl)
  have j2 : ∀ (x1 : Int32) (fu : Nat), ∀ (S : St) (x2 : Int32) (H : Heap) (locs : List Loc) (ls : Array Slot), fixF (fun _ _ => none) (f_X9_fill_2 n x1) fu S x2 = some (r, S2) → PW D y ad S H → va_S (AA ad) s.heap H locs → lv_has ls 7 [(0, .ref (ad 28)), (1, .int x1), (2, .int x2)] → W p l e (headSpec wsX9_fill ({ frames := 2, cells := 0, slots := 0, locals := 43 })).room s m ([.ref (ad 28), .int a1] : List Value).toArray below meth c H locs 0 0 (QV below r S2 D y ad ([.ref (ad 28), .int a1] : List Value).toArray s) (F0 m 2 ls []) := by
    intro x1  fu
    induction fu with
    | zero => intro S x2 H locs ls hf hP hS hl; cases hf
    | succ fu ih => exact b2 x1  (fixF (fun _ _ => none) (f_X9_fill_2 n x1) fu) ih
  unfold f_X9_fill at hf
  refine lv_iconst (v := 0) hx hb dX9_fill_0 (by decide) ?_
  obtain ⟨x2_21, ex2_21, hf⟩ := bd_inv hf
  refine w_topI ex2_21 ?_
  refine lv_istore_n (lv' := [(2, .int x2_21), (0, .ref (ad 28)), (1, .int a1)]) hx hb dX9_fill_1 rfl hl (by decide) rfl (fun ls hl => ?_)
  exact j2 a1  n S x2_21 _ _ _ hf hP hS (lv_sub hl [1, 2, 0] rfl)
set_option maxHeartbeats 4000000 in
set_option maxRecDepth 100000 in
theorem c_X9_areEven (l : Launch) (D : va_G) (y : y4) (ad : Nat → Nat) (aL aU : Nat) (hI : Inj ad) (n : Nat) (S : St) (a1 : Int32) (a2 : Int32) (a3 : Int32) (r : Int32) (S2 : St) (hf : f_X9_areEven n S a1 a2 a3 = some (r, S2)) : KI l D y ad aL aU yX9_areEven wsX9_areEven ({ frames := 1, cells := 0, slots := 0, locals := 20 }) [.ref (ad 28), .int a1, .int a2, .int a3] S r S2 := by
  refine Met.ofW (cc := cX9_areEven) (maxL := 4) (ret := (some .boolean)) (by decide) rfl ?_
  intro p e s m args below meth c s₁ B hml hv
  obtain ⟨rfl, hP, hK, hZ⟩ := hv
  have hx := B.exec
  have hb := B.bytes
  have hr := B.returns
  have hts := atoms_spec (ws := wsX9_areEven) B.pre
  have hown : s.vm.findClass RX9 = some m.cls := findClass_of_methodNamed B.named
  have hlocks := B.notSynchronized
  have hS : va_S (AA ad) s.heap s.heap [] := va_S.rf
  have L56 := hts (.fieldLink RX9 56 "JoinedTheoriesModel" "values" "[J") (by decide +kernel)
  have n9 : ∀ w ∈ wsX90, w ∈ wsX9_areEven := by decide +kernel
  have hl := lv_entry ([.ref (ad 28), .int a1, .int a2, .int a3]) (n := 4) (Nat.le_of_ble_eq_true rfl)
  rw [lg_entry_eq]
  generalize (lg_sl ([.ref (ad 28), .int a1, .int a2, .int a3]) ++ List.replicate (4 - (lg_sl ([.ref (ad 28), .int a1, .int a2, .int a3])).length) Slot.unset).toArray = ls at hl ⊢
  have hl : lv_has ls 4 [(0, .ref (ad 28)), (1, .int a1), (2, .int a2), (3, .int a3)] := hl
  unfold f_X9_areEven at hf
  refine lv_aload_n hx hb dX9_areEven_0 rfl (lv_at hl 0 rfl) ?_
  refine w_gR (z := 44) (C := RX9) (T := TX9) hx hb hts n9 hown hK hP t_28 rfl 30 (by decide) L56 rfl rfl dX9_areEven_1 ?_
  refine lv_bipush (v := (10)) hx hb dX9_areEven_4 (by decide) ?_
  refine lv_iload_n hx hb dX9_areEven_6 rfl (lv_at hl 1 rfl) ?_
  refine lv_imul hx hb dX9_areEven_7 ?_
  refine lv_iload_n hx hb dX9_areEven_8 rfl (lv_at hl 2 rfl) ?_
  refine lv_iadd hx hb dX9_areEven_9 ?_
  obtain ⟨g_1, hf⟩ := gd_inv hf
  refine w_lald hx hb hK hP t_44 g_1 dX9_areEven_10 ?_
  refine lv_aload_n hx hb dX9_areEven_11 rfl (lv_at hl 0 rfl) ?_
  refine w_gR (z := 44) (C := RX9) (T := TX9) hx hb hts n9 hown hK hP t_28 rfl 30 (by decide) L56 rfl rfl dX9_areEven_12 ?_
  refine lv_bipush (v := (10)) hx hb dX9_areEven_15 (by decide) ?_
  refine lv_iload_n hx hb dX9_areEven_17 rfl (lv_at hl 1 rfl) ?_
  refine lv_imul hx hb dX9_areEven_18 ?_
  refine lv_iload_n hx hb dX9_areEven_19 rfl (lv_at hl 3 rfl) ?_
  refine lv_iadd hx hb dX9_areEven_20 ?_
  obtain ⟨g_2, hf⟩ := gd_inv hf
  refine w_lald hx hb hK hP t_44 g_2 dX9_areEven_21 ?_
  refine W.lcmp hx hb dX9_areEven_22 ?_
  refine lv_if_ne (tgt := 30) hx hb dX9_areEven_23 (by decide) (fun b_3 => ?_) (fun b_3 => ?_)
  · have hf := if_f b_3 hf
    refine lv_iconst (v := 0) hx hb dX9_areEven_30 (by decide) ?_
    exact w_zret hx hb hr hlocks (fun h => h (by decide)) hP hS (rt_inv hf) dX9_areEven_31
  · have hf := if_t b_3 hf
    refine lv_iconst (v := 1) hx hb dX9_areEven_26 (by decide) ?_
    refine lv_goto (tgt := 31) hx hb dX9_areEven_27 (by decide) ?_
    exact w_zret hx hb hr hlocks (fun h => h (by decide)) hP hS (rt_inv hf) dX9_areEven_31
set_option maxHeartbeats 4000000 in
set_option maxRecDepth 100000 in
theorem c_X9_isBroken (l : Launch) (D : va_G) (y : y4) (ad : Nat → Nat) (aL aU : Nat) (hI : Inj ad) (n : Nat) (S : St) (a1 : Int32) (a2 : Int32) (a3 : Int32) (r : Int32) (S2 : St) (hf : f_X9_isBroken n S a1 a2 a3 = some (r, S2)) : KI l D y ad aL aU yX9_isBroken wsX9_isBroken ({ frames := 2, cells := 0, slots := 0, locals := 43 }) [.ref (ad 28), .int a1, .int a2, .int a3] S r S2 := by
  refine Met.ofW (cc := cX9_isBroken) (maxL := 5) (ret := (some .boolean)) (by decide) rfl ?_
  intro p e s m args below meth c s₁ B hml hv
  obtain ⟨rfl, hP, hK, hZ⟩ := hv
  have hx := B.exec
  have hb := B.bytes
  have hr := B.returns
  have hts := atoms_spec (ws := wsX9_isBroken) B.pre
  have hown : s.vm.findClass RX9 = some m.cls := findClass_of_methodNamed B.named
  have hlocks := B.notSynchronized
  have hS : va_S (AA ad) s.heap s.heap [] := va_S.rf
  have L28 := hts (.fieldLink RX9 28 "JoinedTheoriesModel" "kindOf" "[I") (by decide +kernel)
  have L31 := hts (.fieldLink RX9 31 "JoinedTheoriesModel" "firstOf" "[I") (by decide +kernel)
  have L34 := hts (.fieldLink RX9 34 "JoinedTheoriesModel" "secondOf" "[I") (by decide +kernel)
  have n9 : ∀ w ∈ wsX90, w ∈ wsX9_isBroken := by decide +kernel
  have hl := lv_entry ([.ref (ad 28), .int a1, .int a2, .int a3]) (n := 5) (Nat.le_of_ble_eq_true rfl)
  rw [lg_entry_eq]
  generalize (lg_sl ([.ref (ad 28), .int a1, .int a2, .int a3]) ++ List.replicate (5 - (lg_sl ([.ref (ad 28), .int a1, .int a2, .int a3])).length) Slot.unset).toArray = ls at hl ⊢
  have hl : lv_has ls 5 [(0, .ref (ad 28)), (1, .int a1), (2, .int a2), (3, .int a3)] := hl
  have j96 : ∀ (S : St) (H : Heap) (locs : List Loc) (ls : Array Slot), f_X9_isBroken_96 n S = some (r, S2) → PW D y ad S H → va_S (AA ad) s.heap H locs → lv_has ls 5 [(0, .ref (ad 28))] → W p l e (headSpec wsX9_isBroken ({ frames := 2, cells := 0, slots := 0, locals := 43 })).room s m ([.ref (ad 28), .int a1, .int a2, .int a3] : List Value).toArray below meth c H locs 0 0 (QI below r S2 D y ad ([.ref (ad 28), .int a1, .int a2, .int a3] : List Value).toArray s) (F0 m 96 ls []) := by
    intro  S H locs ls hf hP hS hl
    unfold f_X9_isBroken_96 at hf
    refine lv_iconst (v := 1) hx hb dX9_isBroken_96 (by decide) ?_
    refine lv_goto (tgt := 101) hx hb dX9_isBroken_97 (by decide) ?_
    exact w_zret hx hb hr hlocks (fun h => h (by decide)) hP hS (rt_inv hf) dX9_isBroken_101
  have j59 : ∀ (S : St) (x1 : Int32) (x2 : Int32) (x3 : Int32) (t0 : Int32) (H : Heap) (locs : List Loc) (ls : Array Slot), f_X9_isBroken_59 n S x1 x2 x3 t0 = some (r, S2) → PW D y ad S H → va_S (AA ad) s.heap H locs → lv_has ls 5 [(0, .ref (ad 28)), (1, .int x1), (2, .int x2), (3, .int x3)] → W p l e (headSpec wsX9_isBroken ({ frames := 2, cells := 0, slots := 0, locals := 43 })).room s m ([.ref (ad 28), .int a1, .int a2, .int a3] : List Value).toArray below meth c H locs 0 0 (QI below r S2 D y ad ([.ref (ad 28), .int a1, .int a2, .int a3] : List Value).toArray s) (F0 m 59 ls [.int t0]) := by
    intro  S x1 x2 x3 t0 H locs ls hf hP hS hl
    unfold f_X9_isBroken_59 at hf
    obtain ⟨x4_1, ex4_1, hf⟩ := bd_inv hf
    refine w_topI ex4_1 ?_
    refine lv_istore (lv' := [(4, .int x4_1), (0, .ref (ad 28)), (1, .int x1), (2, .int x2), (3, .int x3)]) hx hb dX9_isBroken_59 hl (by decide) rfl (fun ls hl => ?_)
    refine lv_iload hx hb dX9_isBroken_61 (lv_at hl 0 rfl) ?_
    refine lv_if_eq (tgt := 100) hx hb dX9_isBroken_63 (by decide) (fun b_2 => ?_) (fun b_2 => ?_)
    · have hf := if_t b_2 hf
      refine lv_iconst (v := 0) hx hb dX9_isBroken_100 (by decide) ?_
      exact w_zret hx hb hr hlocks (fun h => h (by decide)) hP hS (rt_inv hf) dX9_isBroken_101
    · have hf := if_f b_2 hf
      refine lv_aload_n hx hb dX9_isBroken_66 rfl (lv_at hl 1 rfl) ?_
      refine w_gR (z := 35) (C := RX9) (T := TX9) hx hb hts n9 hown hK hP t_28 rfl 19 (by decide) L28 rfl rfl dX9_isBroken_67 ?_
      refine lv_iload_n hx hb dX9_isBroken_70 rfl (lv_at hl 3 rfl) ?_
      obtain ⟨g_3, hf⟩ := gd_inv hf
      refine w_iald hx hb hK hP t_35 g_3 dX9_isBroken_71 ?_
      refine lv_iconst (v := 1) hx hb dX9_isBroken_72 (by decide) ?_
      refine lv_icmp_eq (tgt := 96) hx hb dX9_isBroken_73 (by decide) (fun b_4 => ?_) (fun b_4 => ?_)
      · have hf := if_t b_4 hf
        exact j96   S  _ _ _ hf hP hS (lv_sub hl [1] rfl)
      · have hf := if_f b_4 hf
        refine lv_aload_n hx hb dX9_isBroken_76 rfl (lv_at hl 1 rfl) ?_
        refine lv_iload_n hx hb dX9_isBroken_77 rfl (lv_at hl 2 rfl) ?_
        refine lv_aload_n hx hb dX9_isBroken_78 rfl (lv_at hl 1 rfl) ?_
        refine w_gR (z := 37) (C := RX9) (T := TX9) hx hb hts n9 hown hK hP t_28 rfl 21 (by decide) L34 rfl rfl dX9_isBroken_79 ?_
        refine lv_iload_n hx hb dX9_isBroken_82 rfl (lv_at hl 3 rfl) ?_
        obtain ⟨g_5, hf⟩ := gd_inv hf
        refine w_iald hx hb hK hP t_37 g_5 dX9_isBroken_83 ?_
        refine lv_aload_n hx hb dX9_isBroken_84 rfl (lv_at hl 1 rfl) ?_
        refine w_gR (z := 37) (C := RX9) (T := TX9) hx hb hts n9 hown hK hP t_28 rfl 21 (by decide) L34 rfl rfl dX9_isBroken_85 ?_
        refine lv_iload_n hx hb dX9_isBroken_88 rfl (lv_at hl 4 rfl) ?_
        obtain ⟨g_6, hf⟩ := gd_inv hf
        refine w_iald hx hb hK hP t_37 g_6 dX9_isBroken_89 ?_
        obtain ⟨r_7, S_8, hc_9, hf⟩ := bo_inv hf
        refine w_ci (va_runV (As := [.int x1, .int (S.1 37 (x2).toNatClampNeg), .int (S.1 37 (x3).toNatClampNeg)]) (rest := []) ⟨hx, hb, hml, hown, hts⟩ (c_X9_areEven l D y ad aL aU hI n S x1 ((S.1 37 (x2).toNatClampNeg)) ((S.1 37 (x3).toNatClampNeg)) _ _ hc_9) (cwV 3 hts gX9_isBroken_X9_areEven rfl rfl rfl (by decide +kernel) ⟨Nat.le_of_ble_eq_true rfl, Nat.le_of_ble_eq_true rfl⟩) (pwu_V t_28 rfl hP hK hZ hS) rfl rfl hl.1 rfl (lv_room (Nat.le_of_ble_eq_true rfl)) dX9_isBroken_90 ⟨Nat.zero_le _, Nat.zero_le _⟩) hS (fun H locs hP hS => ?_)
        refine lv_if_eq (tgt := 100) hx hb dX9_isBroken_93 (by decide) (fun b_10 => ?_) (fun b_10 => ?_)
        · have hf := if_t b_10 hf
          refine lv_iconst (v := 0) hx hb dX9_isBroken_100 (by decide) ?_
          exact w_zret hx hb hr hlocks (fun h => h (by decide)) hP hS (rt_inv hf) dX9_isBroken_101
        · have hf := if_f b_10 hf
          exact j96   S_8  _ _ _ hf hP hS (lv_sub hl [1] rfl)
  have j58 : ∀ (S : St) (x1 : Int32) (x2 : Int32) (x3 : Int32) (H : Heap) (locs : List Loc) (ls : Array Slot), f_X9_isBroken_58 n S x1 x2 x3 = some (r, S2) → PW D y ad S H → va_S (AA ad) s.heap H locs → lv_has ls 5 [(0, .ref (ad 28)), (1, .int x1), (2, .int x2), (3, .int x3)] → W p l e (headSpec wsX9_isBroken ({ frames := 2, cells := 0, slots := 0, locals := 43 })).room s m ([.ref (ad 28), .int a1, .int a2, .int a3] : List Value).toArray below meth c H locs 0 0 (QI below r S2 D y ad ([.ref (ad 28), .int a1, .int a2, .int a3] : List Value).toArray s) (F0 m 58 ls []) := by
    intro  S x1 x2 x3 H locs ls hf hP hS hl
    unfold f_X9_isBroken_58 at hf
    refine lv_iconst (v := 0) hx hb dX9_isBroken_58 (by decide) ?_
    exact j59   S x1 x2 x3 ((0 : Int32)) _ _ _ hf hP hS (lv_sub hl [0, 1, 2, 3] rfl)
  unfold f_X9_isBroken at hf
  refine lv_aload_n hx hb dX9_isBroken_0 rfl (lv_at hl 0 rfl) ?_
  refine w_gR (z := 35) (C := RX9) (T := TX9) hx hb hts n9 hown hK hP t_28 rfl 19 (by decide) L28 rfl rfl dX9_isBroken_1 ?_
  refine lv_iload_n hx hb dX9_isBroken_4 rfl (lv_at hl 2 rfl) ?_
  obtain ⟨g_11, hf⟩ := gd_inv hf
  refine w_iald hx hb hK hP t_35 g_11 dX9_isBroken_5 ?_
  refine lv_if_le (tgt := 58) hx hb dX9_isBroken_6 (by decide) (fun b_12 => ?_) (fun b_12 => ?_)
  · have hf := if_t b_12 hf
    exact j58   S a1 a2 a3 _ _ _ hf hP hS (lv_sub hl [0, 1, 2, 3] rfl)
  · have hf := if_f b_12 hf
    refine lv_aload_n hx hb dX9_isBroken_9 rfl (lv_at hl 0 rfl) ?_
    refine w_gR (z := 35) (C := RX9) (T := TX9) hx hb hts n9 hown hK hP t_28 rfl 19 (by decide) L28 rfl rfl dX9_isBroken_10 ?_
    refine lv_iload_n hx hb dX9_isBroken_13 rfl (lv_at hl 2 rfl) ?_
    obtain ⟨g_13, hf⟩ := gd_inv hf
    refine w_iald hx hb hK hP t_35 g_13 dX9_isBroken_14 ?_
    refine lv_aload_n hx hb dX9_isBroken_15 rfl (lv_at hl 0 rfl) ?_
    refine w_gR (z := 35) (C := RX9) (T := TX9) hx hb hts n9 hown hK hP t_28 rfl 19 (by decide) L28 rfl rfl dX9_isBroken_16 ?_
    refine lv_iload_n hx hb dX9_isBroken_19 rfl (lv_at hl 3 rfl) ?_
    obtain ⟨g_14, hf⟩ := gd_inv hf
    refine w_iald hx hb hK hP t_35 g_14 dX9_isBroken_20 ?_
    refine lv_icmp_ne (tgt := 58) hx hb dX9_isBroken_21 (by decide) (fun b_15 => ?_) (fun b_15 => ?_)
    · have hf := if_f b_15 hf
      exact j58   S a1 a2 a3 _ _ _ hf hP hS (lv_sub hl [0, 1, 2, 3] rfl)
    · have hf := if_t b_15 hf
      refine lv_aload_n hx hb dX9_isBroken_24 rfl (lv_at hl 0 rfl) ?_
      refine lv_iload_n hx hb dX9_isBroken_25 rfl (lv_at hl 1 rfl) ?_
      refine lv_iload_n hx hb dX9_isBroken_26 rfl (lv_at hl 2 rfl) ?_
      refine lv_iload_n hx hb dX9_isBroken_27 rfl (lv_at hl 3 rfl) ?_
      obtain ⟨r_16, S_17, hc_18, hf⟩ := bo_inv hf
      refine w_ci (va_runV (As := [.int a1, .int a2, .int a3]) (rest := []) ⟨hx, hb, hml, hown, hts⟩ (c_X9_areEven l D y ad aL aU hI n S a1 a2 a3 _ _ hc_18) (cwV 3 hts gX9_isBroken_X9_areEven rfl rfl rfl (by decide +kernel) ⟨Nat.le_of_ble_eq_true rfl, Nat.le_of_ble_eq_true rfl⟩) (pwu_V t_28 rfl hP hK hZ hS) rfl rfl hl.1 rfl (lv_room (Nat.le_of_ble_eq_true rfl)) dX9_isBroken_28 ⟨Nat.zero_le _, Nat.zero_le _⟩) hS (fun H locs hP hS => ?_)
      refine lv_if_ne (tgt := 58) hx hb dX9_isBroken_31 (by decide) (fun b_19 => ?_) (fun b_19 => ?_)
      · have hf := if_f b_19 hf
        exact j58   S_17 a1 a2 a3 _ _ _ hf hP hS (lv_sub hl [0, 1, 2, 3] rfl)
      · have hf := if_t b_19 hf
        refine lv_aload_n hx hb dX9_isBroken_34 rfl (lv_at hl 0 rfl) ?_
        refine lv_iload_n hx hb dX9_isBroken_35 rfl (lv_at hl 1 rfl) ?_
        refine lv_aload_n hx hb dX9_isBroken_36 rfl (lv_at hl 0 rfl) ?_
        refine w_gR (z := 36) (C := RX9) (T := TX9) hx hb hts n9 hown hK hP t_28 rfl 20 (by decide) L31 rfl rfl dX9_isBroken_37 ?_
        refine lv_iload_n hx hb dX9_isBroken_40 rfl (lv_at hl 2 rfl) ?_
        obtain ⟨g_20, hf⟩ := gd_inv hf
        refine w_iald hx hb hK hP t_36 g_20 dX9_isBroken_41 ?_
        refine lv_aload_n hx hb dX9_isBroken_42 rfl (lv_at hl 0 rfl) ?_
        refine w_gR (z := 36) (C := RX9) (T := TX9) hx hb hts n9 hown hK hP t_28 rfl 20 (by decide) L31 rfl rfl dX9_isBroken_43 ?_
        refine lv_iload_n hx hb dX9_isBroken_46 rfl (lv_at hl 3 rfl) ?_
        obtain ⟨g_21, hf⟩ := gd_inv hf
        refine w_iald hx hb hK hP t_36 g_21 dX9_isBroken_47 ?_
        obtain ⟨r_22, S_23, hc_24, hf⟩ := bo_inv hf
        refine w_ci (va_runV (As := [.int a1, .int (S_17.1 36 (a2).toNatClampNeg), .int (S_17.1 36 (a3).toNatClampNeg)]) (rest := []) ⟨hx, hb, hml, hown, hts⟩ (c_X9_areEven l D y ad aL aU hI n S_17 a1 ((S_17.1 36 (a2).toNatClampNeg)) ((S_17.1 36 (a3).toNatClampNeg)) _ _ hc_24) (cwV 3 hts gX9_isBroken_X9_areEven rfl rfl rfl (by decide +kernel) ⟨Nat.le_of_ble_eq_true rfl, Nat.le_of_ble_eq_true rfl⟩) (pwu_V t_28 rfl hP hK hZ hS) rfl rfl hl.1 rfl (lv_room (Nat.le_of_ble_eq_true rfl)) dX9_isBroken_48 ⟨Nat.zero_le _, Nat.zero_le _⟩) hS (fun H locs hP hS => ?_)
        refine lv_if_eq (tgt := 58) hx hb dX9_isBroken_51 (by decide) (fun b_25 => ?_) (fun b_25 => ?_)
        · have hf := if_t b_25 hf
          exact j58   S_23 a1 a2 a3 _ _ _ hf hP hS (lv_sub hl [0, 1, 2, 3] rfl)
        · have hf := if_f b_25 hf
          refine lv_iconst (v := 1) hx hb dX9_isBroken_54 (by decide) ?_
          refine lv_goto (tgt := 59) hx hb dX9_isBroken_55 (by decide) ?_
          exact j59   S_23 a1 a2 a3 ((1 : Int32)) _ _ _ hf hP hS (lv_sub hl [0, 1, 2, 3] rfl)
set_option maxHeartbeats 4000000 in
set_option maxRecDepth 100000 in
theorem c_X9_splits (l : Launch) (D : va_G) (y : y4) (ad : Nat → Nat) (aL aU : Nat) (hI : Inj ad) (n : Nat) (S : St) (a1 : Int32) (a2 : Int32) (a3 : Int32) (a4 : Int32) (r : Int32) (S2 : St) (hf : f_X9_splits n S a1 a2 a3 a4 = some (r, S2)) : KI l D y ad aL aU yX9_splits wsX9_splits ({ frames := 1, cells := 0, slots := 0, locals := 20 }) [.ref (ad 28), .int a1, .int a2, .int a3, .int a4] S r S2 := by
  refine Met.ofW (cc := cX9_splits) (maxL := 5) (ret := (some .boolean)) (by decide) rfl ?_
  intro p e s m args below meth c s₁ B hml hv
  obtain ⟨rfl, hP, hK, hZ⟩ := hv
  have hx := B.exec
  have hb := B.bytes
  have hr := B.returns
  have hts := atoms_spec (ws := wsX9_splits) B.pre
  have hown : s.vm.findClass RX9 = some m.cls := findClass_of_methodNamed B.named
  have hlocks := B.notSynchronized
  have hS : va_S (AA ad) s.heap s.heap [] := va_S.rf
  have L59 := hts (.fieldLink RX9 59 "JoinedTheoriesModel" "splitKind" "[I") (by decide +kernel)
  have L62 := hts (.fieldLink RX9 62 "JoinedTheoriesModel" "splitOne" "[I") (by decide +kernel)
  have L65 := hts (.fieldLink RX9 65 "JoinedTheoriesModel" "splitTwo" "[I") (by decide +kernel)
  have n9 : ∀ w ∈ wsX90, w ∈ wsX9_splits := by decide +kernel
  have hl := lv_entry ([.ref (ad 28), .int a1, .int a2, .int a3, .int a4]) (n := 5) (Nat.le_of_ble_eq_true rfl)
  rw [lg_entry_eq]
  generalize (lg_sl ([.ref (ad 28), .int a1, .int a2, .int a3, .int a4]) ++ List.replicate (5 - (lg_sl ([.ref (ad 28), .int a1, .int a2, .int a3, .int a4])).length) Slot.unset).toArray = ls at hl ⊢
  have hl : lv_has ls 5 [(0, .ref (ad 28)), (1, .int a1), (2, .int a2), (3, .int a3), (4, .int a4)] := hl
  unfold f_X9_splits at hf
  refine lv_aload_n hx hb dX9_splits_0 rfl (lv_at hl 0 rfl) ?_
  refine w_gR (z := 45) (C := RX9) (T := TX9) hx hb hts n9 hown hK hP t_28 rfl 42 (by decide) L59 rfl rfl dX9_splits_1 ?_
  refine lv_iload_n hx hb dX9_splits_4 rfl (lv_at hl 1 rfl) ?_
  refine lv_iload_n hx hb dX9_splits_5 rfl (lv_at hl 2 rfl) ?_
  obtain ⟨g_1, hf⟩ := gd_inv hf
  obtain ⟨S_2, eS_2, hf⟩ := bd_inv hf
  refine w_iast hx hb hK hI hP hS t_45 g_1 dX9_splits_6 (fun H locs hP hS => ?_)
  rw [← eS_2] at hP
  refine lv_aload_n hx hb dX9_splits_7 rfl (lv_at hl 0 rfl) ?_
  refine w_gR (z := 46) (C := RX9) (T := TX9) hx hb hts n9 hown hK hP t_28 rfl 43 (by decide) L62 rfl rfl dX9_splits_8 ?_
  refine lv_iload_n hx hb dX9_splits_11 rfl (lv_at hl 1 rfl) ?_
  refine lv_iload_n hx hb dX9_splits_12 rfl (lv_at hl 3 rfl) ?_
  obtain ⟨g_3, hf⟩ := gd_inv hf
  obtain ⟨S_4, eS_4, hf⟩ := bd_inv hf
  refine w_iast hx hb hK hI hP hS t_46 g_3 dX9_splits_13 (fun H locs hP hS => ?_)
  rw [← eS_4] at hP
  refine lv_aload_n hx hb dX9_splits_14 rfl (lv_at hl 0 rfl) ?_
  refine w_gR (z := 47) (C := RX9) (T := TX9) hx hb hts n9 hown hK hP t_28 rfl 44 (by decide) L65 rfl rfl dX9_splits_15 ?_
  refine lv_iload_n hx hb dX9_splits_18 rfl (lv_at hl 1 rfl) ?_
  refine lv_iload hx hb dX9_splits_19 (lv_at hl 4 rfl) ?_
  obtain ⟨g_5, hf⟩ := gd_inv hf
  obtain ⟨S_6, eS_6, hf⟩ := bd_inv hf
  refine w_iast hx hb hK hI hP hS t_47 g_5 dX9_splits_21 (fun H locs hP hS => ?_)
  rw [← eS_6] at hP
  refine lv_iconst (v := 1) hx hb dX9_splits_22 (by decide) ?_
  exact w_zret hx hb hr hlocks (fun h => h (by decide)) hP hS (rt_inv hf) dX9_splits_23
