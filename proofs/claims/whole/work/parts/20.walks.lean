set_option maxHeartbeats 4000000 in
set_option maxRecDepth 100000 in
theorem c_X0_clearSecond (l : Launch) (D : va_G) (y : y4) (ad : Nat → Nat) (aL aU : Nat) (hI : Inj ad) (n : Nat) (q : Nat) (hq : isC q) (S : St) (r : Unit) (S2 : St) (hf : f_X0_clearSecond n q S = some (r, S2)) : KV l D y ad aL aU yX0_clearSecond wsX0_clearSecond ({ frames := 1, cells := 0, slots := 0, locals := 20 }) [.ref (ad q)] S r S2 := by
  refine Met.ofW (cc := cX0_clearSecond) (maxL := 1) (ret := none) (by decide) rfl ?_
  intro p e s m args below meth c s₁ B hml hv
  obtain ⟨rfl, hP, hK, hZ⟩ := hv
  have hx := B.exec
  have hb := B.bytes
  have hr := B.returns
  have hts := atoms_spec (ws := wsX0_clearSecond) B.pre
  have hown : s.vm.findClass RX0 = some m.cls := findClass_of_methodNamed B.named
  have hlocks := B.notSynchronized
  have hS : va_S (AA ad) s.heap s.heap [] := va_S.rf
  have L37 := hts (.fieldLink RX0 37 "JoinedTheories$Clause" "secondLeft" "I") (by decide +kernel)
  have L40 := hts (.fieldLink RX0 40 "JoinedTheories$Clause" "secondRight" "I") (by decide +kernel)
  have n0 : ∀ w ∈ wsX00, w ∈ wsX0_clearSecond := by decide +kernel
  have hl := lv_entry ([.ref (ad q)]) (n := 1) (Nat.le_of_ble_eq_true rfl)
  rw [lg_entry_eq]
  generalize (lg_sl ([.ref (ad q)]) ++ List.replicate (1 - (lg_sl ([.ref (ad q)])).length) Slot.unset).toArray = ls at hl ⊢
  have hl : lv_has ls 1 [(0, .ref (ad q))] := hl
  unfold f_X0_clearSecond at hf
  refine lv_aload_n hx hb dX0_clearSecond_0 rfl (lv_at hl 0 rfl) ?_
  refine lv_iconst (v := 0) hx hb dX0_clearSecond_1 (by decide) ?_
  obtain ⟨S_1, eS_1, hf⟩ := bd_inv hf
  refine w_pI (ty := .int) (C := RX0) (T := TX0) hx hb hts n0 tyX0 tyX0_ok nmX0 hown hK hI hP hS (tC hq) rfl 2 (by decide) L37 rfl rfl rfl ⟨rfl, rfl⟩ dX0_clearSecond_2 (fun H locs hP hS => ?_)
  rw [← eS_1] at hP
  refine lv_aload_n hx hb dX0_clearSecond_5 rfl (lv_at hl 0 rfl) ?_
  refine lv_iconst (v := 0) hx hb dX0_clearSecond_6 (by decide) ?_
  obtain ⟨S_2, eS_2, hf⟩ := bd_inv hf
  refine w_pI (ty := .int) (C := RX0) (T := TX0) hx hb hts n0 tyX0 tyX0_ok nmX0 hown hK hI hP hS (tC hq) rfl 3 (by decide) L40 rfl rfl rfl ⟨rfl, rfl⟩ dX0_clearSecond_7 (fun H locs hP hS => ?_)
  rw [← eS_2] at hP
  exact w_vret hx hb hr hlocks hP hS (rt_inv hf) dX0_clearSecond_10
set_option maxHeartbeats 4000000 in
set_option maxRecDepth 100000 in
theorem c_X0_setInequality (l : Launch) (D : va_G) (y : y4) (ad : Nat → Nat) (aL aU : Nat) (hI : Inj ad) (n : Nat) (q : Nat) (hq : isC q) (S : St) (a1 : Int32) (a2 : Int32) (r : Unit) (S2 : St) (hf : f_X0_setInequality n q S a1 a2 = some (r, S2)) : KV l D y ad aL aU yX0_setInequality wsX0_setInequality ({ frames := 2, cells := 0, slots := 0, locals := 40 }) [.ref (ad q), .int a1, .int a2] S r S2 := by
  refine Met.ofW (cc := cX0_setInequality) (maxL := 3) (ret := none) (by decide) rfl ?_
  intro p e s m args below meth c s₁ B hml hv
  obtain ⟨rfl, hP, hK, hZ⟩ := hv
  have hx := B.exec
  have hb := B.bytes
  have hr := B.returns
  have hts := atoms_spec (ws := wsX0_setInequality) B.pre
  have hown : s.vm.findClass RX0 = some m.cls := findClass_of_methodNamed B.named
  have hlocks := B.notSynchronized
  have hS : va_S (AA ad) s.heap s.heap [] := va_S.rf
  have L9 := hts (.fieldLink RX0 9 "JoinedTheories$Clause" "firstLeft" "I") (by decide +kernel)
  have L15 := hts (.fieldLink RX0 15 "JoinedTheories$Clause" "firstRight" "I") (by decide +kernel)
  have L21 := hts (.fieldLink RX0 21 "JoinedTheories$Clause" "hasResult" "Z") (by decide +kernel)
  have n0 : ∀ w ∈ wsX00, w ∈ wsX0_setInequality := by decide +kernel
  have hl := lv_entry ([.ref (ad q), .int a1, .int a2]) (n := 3) (Nat.le_of_ble_eq_true rfl)
  rw [lg_entry_eq]
  generalize (lg_sl ([.ref (ad q), .int a1, .int a2]) ++ List.replicate (3 - (lg_sl ([.ref (ad q), .int a1, .int a2])).length) Slot.unset).toArray = ls at hl ⊢
  have hl : lv_has ls 3 [(0, .ref (ad q)), (1, .int a1), (2, .int a2)] := hl
  unfold f_X0_setInequality at hf
  refine lv_aload_n hx hb dX0_setInequality_0 rfl (lv_at hl 0 rfl) ?_
  refine lv_iload_n hx hb dX0_setInequality_1 rfl (lv_at hl 1 rfl) ?_
  obtain ⟨S_1, eS_1, hf⟩ := bd_inv hf
  refine w_pI (ty := .int) (C := RX0) (T := TX0) hx hb hts n0 tyX0 tyX0_ok nmX0 hown hK hI hP hS (tC hq) rfl 0 (by decide) L9 rfl rfl rfl ⟨rfl, rfl⟩ dX0_setInequality_2 (fun H locs hP hS => ?_)
  rw [← eS_1] at hP
  refine lv_aload_n hx hb dX0_setInequality_5 rfl (lv_at hl 0 rfl) ?_
  refine lv_iload_n hx hb dX0_setInequality_6 rfl (lv_at hl 2 rfl) ?_
  obtain ⟨S_2, eS_2, hf⟩ := bd_inv hf
  refine w_pI (ty := .int) (C := RX0) (T := TX0) hx hb hts n0 tyX0 tyX0_ok nmX0 hown hK hI hP hS (tC hq) rfl 1 (by decide) L15 rfl rfl rfl ⟨rfl, rfl⟩ dX0_setInequality_7 (fun H locs hP hS => ?_)
  rw [← eS_2] at hP
  refine lv_aload_n hx hb dX0_setInequality_10 rfl (lv_at hl 0 rfl) ?_
  obtain ⟨r_3, S_4, hc_5, hf⟩ := bo_inv hf
  refine w_cv (va_runV (As := []) (rest := []) ⟨hx, hb, hml, hown, hts⟩ (c_X0_clearSecond l D y ad aL aU hI n q hq S_2  _ _ hc_5) (cwV 0 hts gX0_setInequality_X0_clearSecond rfl rfl rfl (by decide +kernel) ⟨Nat.le_of_ble_eq_true rfl, Nat.le_of_ble_eq_true rfl⟩) (pwu_V (tC hq) rfl hP hK hZ hS) rfl rfl hl.1 rfl (lv_room (Nat.le_of_ble_eq_true rfl)) dX0_setInequality_11 ⟨Nat.zero_le _, Nat.zero_le _⟩) hS (fun H locs hP hS => ?_)
  refine lv_aload_n hx hb dX0_setInequality_14 rfl (lv_at hl 0 rfl) ?_
  refine lv_iconst (v := 0) hx hb dX0_setInequality_15 (by decide) ?_
  obtain ⟨S_6, eS_6, hf⟩ := bd_inv hf
  refine w_pI (ty := .boolean) (C := RX0) (T := TX0) hx hb hts n0 tyX0 tyX0_ok nmX0 hown hK hI hP hS (tC hq) rfl 4 (by decide) L21 rfl rfl rfl ⟨rfl, rfl⟩ dX0_setInequality_16 (fun H locs hP hS => ?_)
  rw [← eS_6] at hP
  exact w_vret hx hb hr hlocks hP hS (rt_inv hf) dX0_setInequality_19
set_option maxHeartbeats 4000000 in
set_option maxRecDepth 100000 in
theorem c_X7_has (l : Launch) (D : va_G) (y : y4) (ad : Nat → Nat) (aL aU : Nat) (hI : Inj ad) (n : Nat) (q : Nat) (hq : isT q) (S : St) (a1 : Int32) (r : Int32) (S2 : St) (hf : f_X7_has n q S a1 = some (r, S2)) : KI l D y ad aL aU yX7_has wsX7_has ({ frames := 1, cells := 0, slots := 0, locals := 20 }) [.ref (ad q), .int a1] S r S2 := by
  refine Met.ofW (cc := cX7_has) (maxL := 2) (ret := (some .boolean)) (by decide) rfl ?_
  intro p e s m args below meth c s₁ B hml hv
  obtain ⟨rfl, hP, hK, hZ⟩ := hv
  have hx := B.exec
  have hb := B.bytes
  have hr := B.returns
  have hts := atoms_spec (ws := wsX7_has) B.pre
  have hown : s.vm.findClass RX7 = some m.cls := findClass_of_methodNamed B.named
  have hlocks := B.notSynchronized
  have hS : va_S (AA ad) s.heap s.heap [] := va_S.rf
  have L24 := hts (.fieldLink RX7 24 "JoinedTheories$Terms" "size" "I") (by decide +kernel)
  have n7 : ∀ w ∈ wsX70, w ∈ wsX7_has := by decide +kernel
  have hl := lv_entry ([.ref (ad q), .int a1]) (n := 2) (Nat.le_of_ble_eq_true rfl)
  rw [lg_entry_eq]
  generalize (lg_sl ([.ref (ad q), .int a1]) ++ List.replicate (2 - (lg_sl ([.ref (ad q), .int a1])).length) Slot.unset).toArray = ls at hl ⊢
  have hl : lv_has ls 2 [(0, .ref (ad q)), (1, .int a1)] := hl
  unfold f_X7_has at hf
  refine lv_iload_n hx hb dX7_has_0 rfl (lv_at hl 1 rfl) ?_
  refine lv_if_lt (tgt := 22) hx hb dX7_has_1 (by decide) (fun b_1 => ?_) (fun b_1 => ?_)
  · have hf := if_t b_1 hf
    refine lv_iconst (v := 0) hx hb dX7_has_22 (by decide) ?_
    exact w_zret hx hb hr hlocks (fun h => h (by decide)) hP hS (rt_inv hf) dX7_has_23
  · have hf := if_f b_1 hf
    refine lv_iload_n hx hb dX7_has_4 rfl (lv_at hl 1 rfl) ?_
    refine lv_aload_n hx hb dX7_has_5 rfl (lv_at hl 0 rfl) ?_
    refine w_gI (C := RX7) (T := TX7) hx hb hts n7 hown hK hP (tT hq) rfl 4 (by decide) L24 rfl dX7_has_6 ?_
    refine lv_icmp_ge (tgt := 22) hx hb dX7_has_9 (by decide) (fun b_2 => ?_) (fun b_2 => ?_)
    · have hf := if_t b_2 hf
      refine lv_iconst (v := 0) hx hb dX7_has_22 (by decide) ?_
      exact w_zret hx hb hr hlocks (fun h => h (by decide)) hP hS (rt_inv hf) dX7_has_23
    · have hf := if_f b_2 hf
      refine lv_iload_n hx hb dX7_has_12 rfl (lv_at hl 1 rfl) ?_
      refine lv_bipush (v := (10)) hx hb dX7_has_13 (by decide) ?_
      refine lv_icmp_ge (tgt := 22) hx hb dX7_has_15 (by decide) (fun b_3 => ?_) (fun b_3 => ?_)
      · have hf := if_t b_3 hf
        refine lv_iconst (v := 0) hx hb dX7_has_22 (by decide) ?_
        exact w_zret hx hb hr hlocks (fun h => h (by decide)) hP hS (rt_inv hf) dX7_has_23
      · have hf := if_f b_3 hf
        refine lv_iconst (v := 1) hx hb dX7_has_18 (by decide) ?_
        refine lv_goto (tgt := 23) hx hb dX7_has_19 (by decide) ?_
        exact w_zret hx hb hr hlocks (fun h => h (by decide)) hP hS (rt_inv hf) dX7_has_23
set_option maxHeartbeats 4000000 in
set_option maxRecDepth 100000 in
theorem c_X7_firstOf (l : Launch) (D : va_G) (y : y4) (ad : Nat → Nat) (aL aU : Nat) (hI : Inj ad) (n : Nat) (q : Nat) (hq : isT q) (S : St) (a1 : Int32) (r : Int32) (S2 : St) (hf : f_X7_firstOf n q S a1 = some (r, S2)) : KI l D y ad aL aU yX7_firstOf wsX7_firstOf ({ frames := 2, cells := 0, slots := 0, locals := 41 }) [.ref (ad q), .int a1] S r S2 := by
  refine Met.ofW (cc := cX7_firstOf) (maxL := 2) (ret := (some .int)) (by decide) rfl ?_
  intro p e s m args below meth c s₁ B hml hv
  obtain ⟨rfl, hP, hK, hZ⟩ := hv
  have hx := B.exec
  have hb := B.bytes
  have hr := B.returns
  have hts := atoms_spec (ws := wsX7_firstOf) B.pre
  have hown : s.vm.findClass RX7 = some m.cls := findClass_of_methodNamed B.named
  have hlocks := B.notSynchronized
  have hS : va_S (AA ad) s.heap s.heap [] := va_S.rf
  have L15 := hts (.fieldLink RX7 15 "JoinedTheories$Terms" "firsts" "[I") (by decide +kernel)
  have K28 := hts (.constant RX7 28 (-2000000001)) (by decide +kernel)
  have n7 : ∀ w ∈ wsX70, w ∈ wsX7_firstOf := by decide +kernel
  have hl := lv_entry ([.ref (ad q), .int a1]) (n := 2) (Nat.le_of_ble_eq_true rfl)
  rw [lg_entry_eq]
  generalize (lg_sl ([.ref (ad q), .int a1]) ++ List.replicate (2 - (lg_sl ([.ref (ad q), .int a1])).length) Slot.unset).toArray = ls at hl ⊢
  have hl : lv_has ls 2 [(0, .ref (ad q)), (1, .int a1)] := hl
  unfold f_X7_firstOf at hf
  refine lv_aload_n hx hb dX7_firstOf_0 rfl (lv_at hl 0 rfl) ?_
  refine lv_iload_n hx hb dX7_firstOf_1 rfl (lv_at hl 1 rfl) ?_
  obtain ⟨r_1, S_2, hc_3, hf⟩ := bo_inv hf
  refine w_ci (va_runV (As := [.int a1]) (rest := []) ⟨hx, hb, hml, hown, hts⟩ (c_X7_has l D y ad aL aU hI n q hq S a1 _ _ hc_3) (cwV 1 hts gX7_firstOf_X7_has rfl rfl rfl (by decide +kernel) ⟨Nat.le_of_ble_eq_true rfl, Nat.le_of_ble_eq_true rfl⟩) (pwu_V (tT hq) rfl hP hK hZ hS) rfl rfl hl.1 rfl (lv_room (Nat.le_of_ble_eq_true rfl)) dX7_firstOf_2 ⟨Nat.zero_le _, Nat.zero_le _⟩) hS (fun H locs hP hS => ?_)
  refine lv_if_eq (tgt := 17) hx hb dX7_firstOf_5 (by decide) (fun b_4 => ?_) (fun b_4 => ?_)
  · have hf := if_t b_4 hf
    refine lv_ldc (v := (-2000000001)) hx hb hown K28 dX7_firstOf_17 ?_
    exact w_iret hx hb hr hlocks hP hS (rt_inv hf) dX7_firstOf_19
  · have hf := if_f b_4 hf
    refine lv_aload_n hx hb dX7_firstOf_8 rfl (lv_at hl 0 rfl) ?_
    refine w_gR (z := (q + 2)) (C := RX7) (T := TX7) hx hb hts n7 hown hK hP (tT hq) rfl 1 (by decide) L15 rfl (rT1 hq) dX7_firstOf_9 ?_
    refine lv_iload_n hx hb dX7_firstOf_12 rfl (lv_at hl 1 rfl) ?_
    obtain ⟨g_5, hf⟩ := gd_inv hf
    refine w_iald hx hb hK hP (tT1 hq) g_5 dX7_firstOf_13 ?_
    refine lv_goto (tgt := 19) hx hb dX7_firstOf_14 (by decide) ?_
    exact w_iret hx hb hr hlocks hP hS (rt_inv hf) dX7_firstOf_19
set_option maxHeartbeats 4000000 in
set_option maxRecDepth 100000 in
theorem c_X7_kindOf (l : Launch) (D : va_G) (y : y4) (ad : Nat → Nat) (aL aU : Nat) (hI : Inj ad) (n : Nat) (q : Nat) (hq : isT q) (S : St) (a1 : Int32) (r : Int32) (S2 : St) (hf : f_X7_kindOf n q S a1 = some (r, S2)) : KI l D y ad aL aU yX7_kindOf wsX7_kindOf ({ frames := 2, cells := 0, slots := 0, locals := 41 }) [.ref (ad q), .int a1] S r S2 := by
  refine Met.ofW (cc := cX7_kindOf) (maxL := 2) (ret := (some .int)) (by decide) rfl ?_
  intro p e s m args below meth c s₁ B hml hv
  obtain ⟨rfl, hP, hK, hZ⟩ := hv
  have hx := B.exec
  have hb := B.bytes
  have hr := B.returns
  have hts := atoms_spec (ws := wsX7_kindOf) B.pre
  have hown : s.vm.findClass RX7 = some m.cls := findClass_of_methodNamed B.named
  have hlocks := B.notSynchronized
  have hS : va_S (AA ad) s.heap s.heap [] := va_S.rf
  have L9 := hts (.fieldLink RX7 9 "JoinedTheories$Terms" "kinds" "[I") (by decide +kernel)
  have n7 : ∀ w ∈ wsX70, w ∈ wsX7_kindOf := by decide +kernel
  have hl := lv_entry ([.ref (ad q), .int a1]) (n := 2) (Nat.le_of_ble_eq_true rfl)
  rw [lg_entry_eq]
  generalize (lg_sl ([.ref (ad q), .int a1]) ++ List.replicate (2 - (lg_sl ([.ref (ad q), .int a1])).length) Slot.unset).toArray = ls at hl ⊢
  have hl : lv_has ls 2 [(0, .ref (ad q)), (1, .int a1)] := hl
  unfold f_X7_kindOf at hf
  refine lv_aload_n hx hb dX7_kindOf_0 rfl (lv_at hl 0 rfl) ?_
  refine lv_iload_n hx hb dX7_kindOf_1 rfl (lv_at hl 1 rfl) ?_
  obtain ⟨r_1, S_2, hc_3, hf⟩ := bo_inv hf
  refine w_ci (va_runV (As := [.int a1]) (rest := []) ⟨hx, hb, hml, hown, hts⟩ (c_X7_has l D y ad aL aU hI n q hq S a1 _ _ hc_3) (cwV 1 hts gX7_kindOf_X7_has rfl rfl rfl (by decide +kernel) ⟨Nat.le_of_ble_eq_true rfl, Nat.le_of_ble_eq_true rfl⟩) (pwu_V (tT hq) rfl hP hK hZ hS) rfl rfl hl.1 rfl (lv_room (Nat.le_of_ble_eq_true rfl)) dX7_kindOf_2 ⟨Nat.zero_le _, Nat.zero_le _⟩) hS (fun H locs hP hS => ?_)
  refine lv_if_eq (tgt := 17) hx hb dX7_kindOf_5 (by decide) (fun b_4 => ?_) (fun b_4 => ?_)
  · have hf := if_t b_4 hf
    refine lv_iconst (v := 0) hx hb dX7_kindOf_17 (by decide) ?_
    exact w_iret hx hb hr hlocks hP hS (rt_inv hf) dX7_kindOf_18
  · have hf := if_f b_4 hf
    refine lv_aload_n hx hb dX7_kindOf_8 rfl (lv_at hl 0 rfl) ?_
    refine w_gR (z := (q + 1)) (C := RX7) (T := TX7) hx hb hts n7 hown hK hP (tT hq) rfl 0 (by decide) L9 rfl (rT0 hq) dX7_kindOf_9 ?_
    refine lv_iload_n hx hb dX7_kindOf_12 rfl (lv_at hl 1 rfl) ?_
    obtain ⟨g_5, hf⟩ := gd_inv hf
    refine w_iald hx hb hK hP (tT0 hq) g_5 dX7_kindOf_13 ?_
    refine lv_goto (tgt := 18) hx hb dX7_kindOf_14 (by decide) ?_
    exact w_iret hx hb hr hlocks hP hS (rt_inv hf) dX7_kindOf_18
set_option maxHeartbeats 4000000 in
set_option maxRecDepth 100000 in
theorem c_X7_secondOf (l : Launch) (D : va_G) (y : y4) (ad : Nat → Nat) (aL aU : Nat) (hI : Inj ad) (n : Nat) (q : Nat) (hq : isT q) (S : St) (a1 : Int32) (r : Int32) (S2 : St) (hf : f_X7_secondOf n q S a1 = some (r, S2)) : KI l D y ad aL aU yX7_secondOf wsX7_secondOf ({ frames := 2, cells := 0, slots := 0, locals := 41 }) [.ref (ad q), .int a1] S r S2 := by
  refine Met.ofW (cc := cX7_secondOf) (maxL := 2) (ret := (some .int)) (by decide) rfl ?_
  intro p e s m args below meth c s₁ B hml hv
  obtain ⟨rfl, hP, hK, hZ⟩ := hv
  have hx := B.exec
  have hb := B.bytes
  have hr := B.returns
  have hts := atoms_spec (ws := wsX7_secondOf) B.pre
  have hown : s.vm.findClass RX7 = some m.cls := findClass_of_methodNamed B.named
  have hlocks := B.notSynchronized
  have hS : va_S (AA ad) s.heap s.heap [] := va_S.rf
  have L18 := hts (.fieldLink RX7 18 "JoinedTheories$Terms" "seconds" "[I") (by decide +kernel)
  have K28 := hts (.constant RX7 28 (-2000000001)) (by decide +kernel)
  have n7 : ∀ w ∈ wsX70, w ∈ wsX7_secondOf := by decide +kernel
  have hl := lv_entry ([.ref (ad q), .int a1]) (n := 2) (Nat.le_of_ble_eq_true rfl)
  rw [lg_entry_eq]
  generalize (lg_sl ([.ref (ad q), .int a1]) ++ List.replicate (2 - (lg_sl ([.ref (ad q), .int a1])).length) Slot.unset).toArray = ls at hl ⊢
  have hl : lv_has ls 2 [(0, .ref (ad q)), (1, .int a1)] := hl
  unfold f_X7_secondOf at hf
  refine lv_aload_n hx hb dX7_secondOf_0 rfl (lv_at hl 0 rfl) ?_
  refine lv_iload_n hx hb dX7_secondOf_1 rfl (lv_at hl 1 rfl) ?_
  obtain ⟨r_1, S_2, hc_3, hf⟩ := bo_inv hf
  refine w_ci (va_runV (As := [.int a1]) (rest := []) ⟨hx, hb, hml, hown, hts⟩ (c_X7_has l D y ad aL aU hI n q hq S a1 _ _ hc_3) (cwV 1 hts gX7_secondOf_X7_has rfl rfl rfl (by decide +kernel) ⟨Nat.le_of_ble_eq_true rfl, Nat.le_of_ble_eq_true rfl⟩) (pwu_V (tT hq) rfl hP hK hZ hS) rfl rfl hl.1 rfl (lv_room (Nat.le_of_ble_eq_true rfl)) dX7_secondOf_2 ⟨Nat.zero_le _, Nat.zero_le _⟩) hS (fun H locs hP hS => ?_)
  refine lv_if_eq (tgt := 17) hx hb dX7_secondOf_5 (by decide) (fun b_4 => ?_) (fun b_4 => ?_)
  · have hf := if_t b_4 hf
    refine lv_ldc (v := (-2000000001)) hx hb hown K28 dX7_secondOf_17 ?_
    exact w_iret hx hb hr hlocks hP hS (rt_inv hf) dX7_secondOf_19
  · have hf := if_f b_4 hf
    refine lv_aload_n hx hb dX7_secondOf_8 rfl (lv_at hl 0 rfl) ?_
    refine w_gR (z := (q + 3)) (C := RX7) (T := TX7) hx hb hts n7 hown hK hP (tT hq) rfl 2 (by decide) L18 rfl (rT2 hq) dX7_secondOf_9 ?_
    refine lv_iload_n hx hb dX7_secondOf_12 rfl (lv_at hl 1 rfl) ?_
    obtain ⟨g_5, hf⟩ := gd_inv hf
    refine w_iald hx hb hK hP (tT2 hq) g_5 dX7_secondOf_13 ?_
    refine lv_goto (tgt := 19) hx hb dX7_secondOf_14 (by decide) ?_
    exact w_iret hx hb hr hlocks hP hS (rt_inv hf) dX7_secondOf_19
set_option maxHeartbeats 4000000 in
set_option maxRecDepth 100000 in
theorem c_X0_setCongruence (l : Launch) (D : va_G) (y : y4) (ad : Nat → Nat) (aL aU : Nat) (hI : Inj ad) (n : Nat) (q : Nat) (hq : isC q) (S : St) (q1 : Nat) (hq1 : isT q1) (a2 : Int32) (a3 : Int32) (r : Unit) (S2 : St) (hf : f_X0_setCongruence n q S q1 a2 a3 = some (r, S2)) : KV l D y ad aL aU yX0_setCongruence wsX0_setCongruence ({ frames := 3, cells := 0, slots := 0, locals := 62 }) [.ref (ad q), .ref (ad q1), .int a2, .int a3] S r S2 := by
  refine Met.ofW (cc := cX0_setCongruence) (maxL := 4) (ret := none) (by decide) rfl ?_
  intro p e s m args below meth c s₁ B hml hv
  obtain ⟨rfl, hP, hK, hZ⟩ := hv
  have hx := B.exec
  have hb := B.bytes
  have hr := B.returns
  have hts := atoms_spec (ws := wsX0_setCongruence) B.pre
  have hown : s.vm.findClass RX0 = some m.cls := findClass_of_methodNamed B.named
  have hlocks := B.notSynchronized
  have hS : va_S (AA ad) s.heap s.heap [] := va_S.rf
  have L9 := hts (.fieldLink RX0 9 "JoinedTheories$Clause" "firstLeft" "I") (by decide +kernel)
  have L15 := hts (.fieldLink RX0 15 "JoinedTheories$Clause" "firstRight" "I") (by decide +kernel)
  have L21 := hts (.fieldLink RX0 21 "JoinedTheories$Clause" "hasResult" "Z") (by decide +kernel)
  have L37 := hts (.fieldLink RX0 37 "JoinedTheories$Clause" "secondLeft" "I") (by decide +kernel)
  have L40 := hts (.fieldLink RX0 40 "JoinedTheories$Clause" "secondRight" "I") (by decide +kernel)
  have L43 := hts (.fieldLink RX0 43 "JoinedTheories$Clause" "resultLeft" "I") (by decide +kernel)
  have L46 := hts (.fieldLink RX0 46 "JoinedTheories$Clause" "resultRight" "I") (by decide +kernel)
  have n0 : ∀ w ∈ wsX00, w ∈ wsX0_setCongruence := by decide +kernel
  have hl := lv_entry ([.ref (ad q), .ref (ad q1), .int a2, .int a3]) (n := 4) (Nat.le_of_ble_eq_true rfl)
  rw [lg_entry_eq]
  generalize (lg_sl ([.ref (ad q), .ref (ad q1), .int a2, .int a3]) ++ List.replicate (4 - (lg_sl ([.ref (ad q), .ref (ad q1), .int a2, .int a3])).length) Slot.unset).toArray = ls at hl ⊢
  have hl : lv_has ls 4 [(0, .ref (ad q)), (1, .ref (ad q1)), (2, .int a2), (3, .int a3)] := hl
  have j49 : ∀ (S : St) (x2 : Int32) (x3 : Int32) (H : Heap) (locs : List Loc) (ls : Array Slot), f_X0_setCongruence_49 n q q1 S x2 x3 = some (r, S2) → PW D y ad S H → va_S (AA ad) s.heap H locs → lv_has ls 4 [(0, .ref (ad q)), (2, .int x2), (3, .int x3)] → W p l e (headSpec wsX0_setCongruence ({ frames := 3, cells := 0, slots := 0, locals := 62 })).room s m ([.ref (ad q), .ref (ad q1), .int a2, .int a3] : List Value).toArray below meth c H locs 0 0 (QV below r S2 D y ad ([.ref (ad q), .ref (ad q1), .int a2, .int a3] : List Value).toArray s) (F0 m 49 ls []) := by
    intro  S x2 x3 H locs ls hf hP hS hl
    unfold f_X0_setCongruence_49 at hf
    refine lv_aload_n hx hb dX0_setCongruence_49 rfl (lv_at hl 0 rfl) ?_
    refine lv_iconst (v := 1) hx hb dX0_setCongruence_50 (by decide) ?_
    obtain ⟨S_1, eS_1, hf⟩ := bd_inv hf
    refine w_pI (ty := .boolean) (C := RX0) (T := TX0) hx hb hts n0 tyX0 tyX0_ok nmX0 hown hK hI hP hS (tC hq) rfl 4 (by decide) L21 rfl rfl rfl ⟨rfl, rfl⟩ dX0_setCongruence_51 (fun H locs hP hS => ?_)
    rw [← eS_1] at hP
    refine lv_aload_n hx hb dX0_setCongruence_54 rfl (lv_at hl 0 rfl) ?_
    refine lv_iload_n hx hb dX0_setCongruence_55 rfl (lv_at hl 1 rfl) ?_
    obtain ⟨S_2, eS_2, hf⟩ := bd_inv hf
    refine w_pI (ty := .int) (C := RX0) (T := TX0) hx hb hts n0 tyX0 tyX0_ok nmX0 hown hK hI hP hS (tC hq) rfl 5 (by decide) L43 rfl rfl rfl ⟨rfl, rfl⟩ dX0_setCongruence_56 (fun H locs hP hS => ?_)
    rw [← eS_2] at hP
    refine lv_aload_n hx hb dX0_setCongruence_59 rfl (lv_at hl 0 rfl) ?_
    refine lv_iload_n hx hb dX0_setCongruence_60 rfl (lv_at hl 2 rfl) ?_
    obtain ⟨S_3, eS_3, hf⟩ := bd_inv hf
    refine w_pI (ty := .int) (C := RX0) (T := TX0) hx hb hts n0 tyX0 tyX0_ok nmX0 hown hK hI hP hS (tC hq) rfl 6 (by decide) L46 rfl rfl rfl ⟨rfl, rfl⟩ dX0_setCongruence_61 (fun H locs hP hS => ?_)
    rw [← eS_3] at hP
    exact w_vret hx hb hr hlocks hP hS (rt_inv hf) dX0_setCongruence_64
  unfold f_X0_setCongruence at hf
  refine lv_aload_n hx hb dX0_setCongruence_0 rfl (lv_at hl 0 rfl) ?_
  refine lv_aload_n hx hb dX0_setCongruence_1 rfl (lv_at hl 1 rfl) ?_
  refine lv_iload_n hx hb dX0_setCongruence_2 rfl (lv_at hl 2 rfl) ?_
  obtain ⟨r_4, S_5, hc_6, hf⟩ := bo_inv hf
  refine w_ci (va_runV (As := [.int a2]) (rest := [.ref (ad q)]) ⟨hx, hb, hml, hown, hts⟩ (c_X7_firstOf l D y ad aL aU hI n q1 hq1 S a2 _ _ hc_6) (cwV 1 hts gX0_setCongruence_X7_firstOf rfl rfl rfl (by decide +kernel) ⟨Nat.le_of_ble_eq_true rfl, Nat.le_of_ble_eq_true rfl⟩) (pwu_V (tT hq1) rfl hP hK hZ hS) rfl rfl hl.1 rfl (lv_room (Nat.le_of_ble_eq_true rfl)) dX0_setCongruence_3 ⟨Nat.zero_le _, Nat.zero_le _⟩) hS (fun H locs hP hS => ?_)
  obtain ⟨S_7, eS_7, hf⟩ := bd_inv hf
  refine w_pI (ty := .int) (C := RX0) (T := TX0) hx hb hts n0 tyX0 tyX0_ok nmX0 hown hK hI hP hS (tC hq) rfl 0 (by decide) L9 rfl rfl rfl ⟨rfl, rfl⟩ dX0_setCongruence_6 (fun H locs hP hS => ?_)
  rw [← eS_7] at hP
  refine lv_aload_n hx hb dX0_setCongruence_9 rfl (lv_at hl 0 rfl) ?_
  refine lv_aload_n hx hb dX0_setCongruence_10 rfl (lv_at hl 1 rfl) ?_
  refine lv_iload_n hx hb dX0_setCongruence_11 rfl (lv_at hl 3 rfl) ?_
  obtain ⟨r_8, S_9, hc_10, hf⟩ := bo_inv hf
  refine w_ci (va_runV (As := [.int a3]) (rest := [.ref (ad q)]) ⟨hx, hb, hml, hown, hts⟩ (c_X7_firstOf l D y ad aL aU hI n q1 hq1 S_7 a3 _ _ hc_10) (cwV 1 hts gX0_setCongruence_X7_firstOf rfl rfl rfl (by decide +kernel) ⟨Nat.le_of_ble_eq_true rfl, Nat.le_of_ble_eq_true rfl⟩) (pwu_V (tT hq1) rfl hP hK hZ hS) rfl rfl hl.1 rfl (lv_room (Nat.le_of_ble_eq_true rfl)) dX0_setCongruence_12 ⟨Nat.zero_le _, Nat.zero_le _⟩) hS (fun H locs hP hS => ?_)
  obtain ⟨S_11, eS_11, hf⟩ := bd_inv hf
  refine w_pI (ty := .int) (C := RX0) (T := TX0) hx hb hts n0 tyX0 tyX0_ok nmX0 hown hK hI hP hS (tC hq) rfl 1 (by decide) L15 rfl rfl rfl ⟨rfl, rfl⟩ dX0_setCongruence_15 (fun H locs hP hS => ?_)
  rw [← eS_11] at hP
  refine lv_aload_n hx hb dX0_setCongruence_18 rfl (lv_at hl 0 rfl) ?_
  obtain ⟨r_12, S_13, hc_14, hf⟩ := bo_inv hf
  refine w_cv (va_runV (As := []) (rest := []) ⟨hx, hb, hml, hown, hts⟩ (c_X0_clearSecond l D y ad aL aU hI n q hq S_11  _ _ hc_14) (cwV 0 hts gX0_setCongruence_X0_clearSecond rfl rfl rfl (by decide +kernel) ⟨Nat.le_of_ble_eq_true rfl, Nat.le_of_ble_eq_true rfl⟩) (pwu_V (tC hq) rfl hP hK hZ hS) rfl rfl hl.1 rfl (lv_room (Nat.le_of_ble_eq_true rfl)) dX0_setCongruence_19 ⟨Nat.zero_le _, Nat.zero_le _⟩) hS (fun H locs hP hS => ?_)
  refine lv_aload_n hx hb dX0_setCongruence_22 rfl (lv_at hl 1 rfl) ?_
  refine lv_iload_n hx hb dX0_setCongruence_23 rfl (lv_at hl 2 rfl) ?_
  obtain ⟨r_15, S_16, hc_17, hf⟩ := bo_inv hf
  refine w_ci (va_runV (As := [.int a2]) (rest := []) ⟨hx, hb, hml, hown, hts⟩ (c_X7_kindOf l D y ad aL aU hI n q1 hq1 S_13 a2 _ _ hc_17) (cwV 1 hts gX0_setCongruence_X7_kindOf rfl rfl rfl (by decide +kernel) ⟨Nat.le_of_ble_eq_true rfl, Nat.le_of_ble_eq_true rfl⟩) (pwu_V (tT hq1) rfl hP hK hZ hS) rfl rfl hl.1 rfl (lv_room (Nat.le_of_ble_eq_true rfl)) dX0_setCongruence_24 ⟨Nat.zero_le _, Nat.zero_le _⟩) hS (fun H locs hP hS => ?_)
  refine lv_iconst (v := 2) hx hb dX0_setCongruence_27 (by decide) ?_
  refine lv_icmp_ne (tgt := 49) hx hb dX0_setCongruence_28 (by decide) (fun b_18 => ?_) (fun b_18 => ?_)
  · have hf := if_f b_18 hf
    exact j49   S_16 a2 a3 _ _ _ hf hP hS (lv_sub hl [0, 2, 3] rfl)
  · have hf := if_t b_18 hf
    refine lv_aload_n hx hb dX0_setCongruence_31 rfl (lv_at hl 0 rfl) ?_
    refine lv_aload_n hx hb dX0_setCongruence_32 rfl (lv_at hl 1 rfl) ?_
    refine lv_iload_n hx hb dX0_setCongruence_33 rfl (lv_at hl 2 rfl) ?_
    obtain ⟨r_19, S_20, hc_21, hf⟩ := bo_inv hf
    refine w_ci (va_runV (As := [.int a2]) (rest := [.ref (ad q)]) ⟨hx, hb, hml, hown, hts⟩ (c_X7_secondOf l D y ad aL aU hI n q1 hq1 S_16 a2 _ _ hc_21) (cwV 1 hts gX0_setCongruence_X7_secondOf rfl rfl rfl (by decide +kernel) ⟨Nat.le_of_ble_eq_true rfl, Nat.le_of_ble_eq_true rfl⟩) (pwu_V (tT hq1) rfl hP hK hZ hS) rfl rfl hl.1 rfl (lv_room (Nat.le_of_ble_eq_true rfl)) dX0_setCongruence_34 ⟨Nat.zero_le _, Nat.zero_le _⟩) hS (fun H locs hP hS => ?_)
    obtain ⟨S_22, eS_22, hf⟩ := bd_inv hf
    refine w_pI (ty := .int) (C := RX0) (T := TX0) hx hb hts n0 tyX0 tyX0_ok nmX0 hown hK hI hP hS (tC hq) rfl 2 (by decide) L37 rfl rfl rfl ⟨rfl, rfl⟩ dX0_setCongruence_37 (fun H locs hP hS => ?_)
    rw [← eS_22] at hP
    refine lv_aload_n hx hb dX0_setCongruence_40 rfl (lv_at hl 0 rfl) ?_
    refine lv_aload_n hx hb dX0_setCongruence_41 rfl (lv_at hl 1 rfl) ?_
    refine lv_iload_n hx hb dX0_setCongruence_42 rfl (lv_at hl 3 rfl) ?_
    obtain ⟨r_23, S_24, hc_25, hf⟩ := bo_inv hf
    refine w_ci (va_runV (As := [.int a3]) (rest := [.ref (ad q)]) ⟨hx, hb, hml, hown, hts⟩ (c_X7_secondOf l D y ad aL aU hI n q1 hq1 S_22 a3 _ _ hc_25) (cwV 1 hts gX0_setCongruence_X7_secondOf rfl rfl rfl (by decide +kernel) ⟨Nat.le_of_ble_eq_true rfl, Nat.le_of_ble_eq_true rfl⟩) (pwu_V (tT hq1) rfl hP hK hZ hS) rfl rfl hl.1 rfl (lv_room (Nat.le_of_ble_eq_true rfl)) dX0_setCongruence_43 ⟨Nat.zero_le _, Nat.zero_le _⟩) hS (fun H locs hP hS => ?_)
    obtain ⟨S_26, eS_26, hf⟩ := bd_inv hf
    refine w_pI (ty := .int) (C := RX0) (T := TX0) hx hb hts n0 tyX0 tyX0_ok nmX0 hown hK hI hP hS (tC hq) rfl 3 (by decide) L40 rfl rfl rfl ⟨rfl, rfl⟩ dX0_setCongruence_46 (fun H locs hP hS => ?_)
    rw [← eS_26] at hP
    exact j49   S_26 a2 a3 _ _ _ hf hP hS (lv_sub hl [0, 2, 3] rfl)
set_option maxHeartbeats 4000000 in
set_option maxRecDepth 100000 in
theorem c_X1_between (l : Launch) (D : va_G) (y : y4) (ad : Nat → Nat) (aL aU : Nat) (hI : Inj ad) (n : Nat) (q : Nat) (hq : isD q) (S : St) (a1 : Int32) (a2 : Int32) (r : Int64) (S2 : St) (hf : f_X1_between n q S a1 a2 = some (r, S2)) : KL l D y ad aL aU yX1_between wsX1_between ({ frames := 1, cells := 0, slots := 0, locals := 20 }) [.ref (ad q), .int a1, .int a2] S r S2 := by
  refine Met.ofW (cc := cX1_between) (maxL := 3) (ret := (some .long)) (by decide) rfl ?_
  intro p e s m args below meth c s₁ B hml hv
  obtain ⟨rfl, hP, hK, hZ⟩ := hv
  have hx := B.exec
  have hb := B.bytes
  have hr := B.returns
  have hts := atoms_spec (ws := wsX1_between) B.pre
  have hown : s.vm.findClass RX1 = some m.cls := findClass_of_methodNamed B.named
  have hlocks := B.notSynchronized
  have hS : va_S (AA ad) s.heap s.heap [] := va_S.rf
  have L9 := hts (.fieldLink RX1 9 "JoinedTheories$Distances" "cells" "[J") (by decide +kernel)
  have K15 := hts (.constantLong RX1 15 (1000000000000000)) (by decide +kernel)
  have n1 : ∀ w ∈ wsX10, w ∈ wsX1_between := by decide +kernel
  have hl := lv_entry ([.ref (ad q), .int a1, .int a2]) (n := 3) (Nat.le_of_ble_eq_true rfl)
  rw [lg_entry_eq]
  generalize (lg_sl ([.ref (ad q), .int a1, .int a2]) ++ List.replicate (3 - (lg_sl ([.ref (ad q), .int a1, .int a2])).length) Slot.unset).toArray = ls at hl ⊢
  have hl : lv_has ls 3 [(0, .ref (ad q)), (1, .int a1), (2, .int a2)] := hl
  unfold f_X1_between at hf
  refine lv_iload_n hx hb dX1_between_0 rfl (lv_at hl 1 rfl) ?_
  refine lv_if_lt (tgt := 34) hx hb dX1_between_1 (by decide) (fun b_1 => ?_) (fun b_1 => ?_)
  · have hf := if_t b_1 hf
    refine lv_ldc2 (v := (1000000000000000)) hx hb hown K15 dX1_between_34 ?_
    exact w_lret hx hb hr hlocks hP hS (rt_inv hf) dX1_between_37
  · have hf := if_f b_1 hf
    refine lv_iload_n hx hb dX1_between_4 rfl (lv_at hl 1 rfl) ?_
    refine lv_bipush (v := (10)) hx hb dX1_between_5 (by decide) ?_
    refine lv_icmp_ge (tgt := 34) hx hb dX1_between_7 (by decide) (fun b_2 => ?_) (fun b_2 => ?_)
    · have hf := if_t b_2 hf
      refine lv_ldc2 (v := (1000000000000000)) hx hb hown K15 dX1_between_34 ?_
      exact w_lret hx hb hr hlocks hP hS (rt_inv hf) dX1_between_37
    · have hf := if_f b_2 hf
      refine lv_iload_n hx hb dX1_between_10 rfl (lv_at hl 2 rfl) ?_
      refine lv_if_lt (tgt := 34) hx hb dX1_between_11 (by decide) (fun b_3 => ?_) (fun b_3 => ?_)
      · have hf := if_t b_3 hf
        refine lv_ldc2 (v := (1000000000000000)) hx hb hown K15 dX1_between_34 ?_
        exact w_lret hx hb hr hlocks hP hS (rt_inv hf) dX1_between_37
      · have hf := if_f b_3 hf
        refine lv_iload_n hx hb dX1_between_14 rfl (lv_at hl 2 rfl) ?_
        refine lv_bipush (v := (10)) hx hb dX1_between_15 (by decide) ?_
        refine lv_icmp_ge (tgt := 34) hx hb dX1_between_17 (by decide) (fun b_4 => ?_) (fun b_4 => ?_)
        · have hf := if_t b_4 hf
          refine lv_ldc2 (v := (1000000000000000)) hx hb hown K15 dX1_between_34 ?_
          exact w_lret hx hb hr hlocks hP hS (rt_inv hf) dX1_between_37
        · have hf := if_f b_4 hf
          refine lv_aload_n hx hb dX1_between_20 rfl (lv_at hl 0 rfl) ?_
          refine w_gR (z := (q + 25)) (C := RX1) (T := TX1) hx hb hts n1 hown hK hP (tD hq) rfl 0 (by decide) L9 rfl (rD hq) dX1_between_21 ?_
          refine lv_iload_n hx hb dX1_between_24 rfl (lv_at hl 1 rfl) ?_
          refine lv_bipush (v := (10)) hx hb dX1_between_25 (by decide) ?_
          refine lv_imul hx hb dX1_between_27 ?_
          refine lv_iload_n hx hb dX1_between_28 rfl (lv_at hl 2 rfl) ?_
          refine lv_iadd hx hb dX1_between_29 ?_
          obtain ⟨g_5, hf⟩ := gd_inv hf
          refine w_lald hx hb hK hP (tA (aD hq)) g_5 dX1_between_30 ?_
          refine lv_goto (tgt := 37) hx hb dX1_between_31 (by decide) ?_
          exact w_lret hx hb hr hlocks hP hS (rt_inv hf) dX1_between_37
set_option maxHeartbeats 4000000 in
set_option maxRecDepth 100000 in
theorem c_X0_openOptions (l : Launch) (D : va_G) (y : y4) (ad : Nat → Nat) (aL aU : Nat) (hI : Inj ad) (n : Nat) (q : Nat) (hq : isC q) (S : St) (q1 : Nat) (hq1 : isD q1) (r : Int32) (S2 : St) (hf : f_X0_openOptions n q S q1 = some (r, S2)) : KI l D y ad aL aU yX0_openOptions wsX0_openOptions ({ frames := 2, cells := 0, slots := 0, locals := 42 }) [.ref (ad q), .ref (ad q1)] S r S2 := by
  refine Met.ofW (cc := cX0_openOptions) (maxL := 15) (ret := (some .int)) (by decide) rfl ?_
  intro p e s m args below meth c s₁ B hml hv
  obtain ⟨rfl, hP, hK, hZ⟩ := hv
  have hx := B.exec
  have hb := B.bytes
  have hr := B.returns
  have hts := atoms_spec (ws := wsX0_openOptions) B.pre
  have hown : s.vm.findClass RX0 = some m.cls := findClass_of_methodNamed B.named
  have hlocks := B.notSynchronized
  have hS : va_S (AA ad) s.heap s.heap [] := va_S.rf
  have L9 := hts (.fieldLink RX0 9 "JoinedTheories$Clause" "firstLeft" "I") (by decide +kernel)
  have L15 := hts (.fieldLink RX0 15 "JoinedTheories$Clause" "firstRight" "I") (by decide +kernel)
  have L21 := hts (.fieldLink RX0 21 "JoinedTheories$Clause" "hasResult" "Z") (by decide +kernel)
  have L37 := hts (.fieldLink RX0 37 "JoinedTheories$Clause" "secondLeft" "I") (by decide +kernel)
  have L40 := hts (.fieldLink RX0 40 "JoinedTheories$Clause" "secondRight" "I") (by decide +kernel)
  have L43 := hts (.fieldLink RX0 43 "JoinedTheories$Clause" "resultLeft" "I") (by decide +kernel)
  have L46 := hts (.fieldLink RX0 46 "JoinedTheories$Clause" "resultRight" "I") (by decide +kernel)
  have n0 : ∀ w ∈ wsX00, w ∈ wsX0_openOptions := by decide +kernel
  have hl := lv_entry ([.ref (ad q), .ref (ad q1)]) (n := 15) (Nat.le_of_ble_eq_true rfl)
  rw [lg_entry_eq]
  generalize (lg_sl ([.ref (ad q), .ref (ad q1)]) ++ List.replicate (15 - (lg_sl ([.ref (ad q), .ref (ad q1)])).length) Slot.unset).toArray = ls at hl ⊢
  have hl : lv_has ls 15 [(0, .ref (ad q)), (1, .ref (ad q1))] := hl
  have j203 : ∀ (S : St) (x10 : Int32) (x11 : Int64) (x13 : Int64) (H : Heap) (locs : List Loc) (ls : Array Slot), f_X0_openOptions_203 n q q1 S x10 x11 x13 = some (r, S2) → PW D y ad S H → va_S (AA ad) s.heap H locs → lv_has ls 15 [(0, .ref (ad q)), (10, .int x10), (11, .long x11), (13, .long x13)] → W p l e (headSpec wsX0_openOptions ({ frames := 2, cells := 0, slots := 0, locals := 42 })).room s m ([.ref (ad q), .ref (ad q1)] : List Value).toArray below meth c H locs 0 0 (QI below r S2 D y ad ([.ref (ad q), .ref (ad q1)] : List Value).toArray s) (F0 m 203 ls []) := by
    intro  S x10 x11 x13 H locs ls hf hP hS hl
    unfold f_X0_openOptions_203 at hf
    refine lv_lload hx hb dX0_openOptions_203 (lv_at hl 2 rfl) ?_
    refine lv_lconst (v := 0) hx hb dX0_openOptions_205 (by decide) ?_
    refine W.lcmp hx hb dX0_openOptions_206 ?_
    refine lv_if_lt (tgt := 225) hx hb dX0_openOptions_207 (by decide) (fun b_1 => ?_) (fun b_1 => ?_)
    · have hf := if_t b_1 hf
      refine lv_iload hx hb dX0_openOptions_225 (lv_at hl 1 rfl) ?_
      exact w_iret hx hb hr hlocks hP hS (rt_inv hf) dX0_openOptions_227
    · have hf := if_f b_1 hf
      refine lv_lload hx hb dX0_openOptions_210 (lv_at hl 3 rfl) ?_
      refine lv_lconst (v := 0) hx hb dX0_openOptions_212 (by decide) ?_
      refine W.lcmp hx hb dX0_openOptions_213 ?_
      refine lv_if_lt (tgt := 225) hx hb dX0_openOptions_214 (by decide) (fun b_2 => ?_) (fun b_2 => ?_)
      · have hf := if_t b_2 hf
        refine lv_iload hx hb dX0_openOptions_225 (lv_at hl 1 rfl) ?_
        exact w_iret hx hb hr hlocks hP hS (rt_inv hf) dX0_openOptions_227
      · have hf := if_f b_2 hf
        refine lv_iload hx hb dX0_openOptions_217 (lv_at hl 1 rfl) ?_
        refine lv_bipush (v := (16)) hx hb dX0_openOptions_219 (by decide) ?_
        refine lv_ior hx hb dX0_openOptions_221 ?_
        refine lv_goto (tgt := 227) hx hb dX0_openOptions_222 (by decide) ?_
        exact w_iret hx hb hr hlocks hP hS (rt_inv hf) dX0_openOptions_227
  have j146 : ∀ (S : St) (t0 : Int32) (t1 : Int32) (H : Heap) (locs : List Loc) (ls : Array Slot), f_X0_openOptions_146 n q q1 S t0 t1 = some (r, S2) → PW D y ad S H → va_S (AA ad) s.heap H locs → lv_has ls 15 [(0, .ref (ad q)), (1, .ref (ad q1))] → W p l e (headSpec wsX0_openOptions ({ frames := 2, cells := 0, slots := 0, locals := 42 })).room s m ([.ref (ad q), .ref (ad q1)] : List Value).toArray below meth c H locs 0 0 (QI below r S2 D y ad ([.ref (ad q), .ref (ad q1)] : List Value).toArray s) (F0 m 146 ls [.int t1, .int t0]) := by
    intro  S t0 t1 H locs ls hf hP hS hl
    unfold f_X0_openOptions_146 at hf
    refine lv_ior hx hb dX0_openOptions_146 ?_
    obtain ⟨x10_3, ex10_3, hf⟩ := bd_inv hf
    refine w_topI ex10_3 ?_
    refine lv_istore (lv' := [(10, .int x10_3), (0, .ref (ad q)), (1, .ref (ad q1))]) hx hb dX0_openOptions_147 hl (by decide) rfl (fun ls hl => ?_)
    refine lv_aload_n hx hb dX0_openOptions_149 rfl (lv_at hl 1 rfl) ?_
    refine w_gI (C := RX0) (T := TX0) hx hb hts n0 hown hK hP (tC hq) rfl 4 (by decide) L21 rfl dX0_openOptions_150 ?_
    refine lv_if_ne (tgt := 159) hx hb dX0_openOptions_153 (by decide) (fun b_4 => ?_) (fun b_4 => ?_)
    · have hf := if_f b_4 hf
      refine lv_aload_n hx hb dX0_openOptions_159 rfl (lv_at hl 2 rfl) ?_
      refine lv_aload_n hx hb dX0_openOptions_160 rfl (lv_at hl 1 rfl) ?_
      refine w_gI (C := RX0) (T := TX0) hx hb hts n0 hown hK hP (tC hq) rfl 5 (by decide) L43 rfl dX0_openOptions_161 ?_
      refine lv_aload_n hx hb dX0_openOptions_164 rfl (lv_at hl 1 rfl) ?_
      refine w_gI (C := RX0) (T := TX0) hx hb hts n0 hown hK hP (tC hq) rfl 6 (by decide) L46 rfl dX0_openOptions_165 ?_
      obtain ⟨r_5, S_6, hc_7, hf⟩ := bo_inv hf
      refine w_cl (va_runV (As := [.int (S.1 q 5), .int (S.1 q 6)]) (rest := []) ⟨hx, hb, hml, hown, hts⟩ (c_X1_between l D y ad aL aU hI n q1 hq1 S (S.1 q 5) (S.1 q 6) _ _ hc_7) (cwV 2 hts gX0_openOptions_X1_between rfl rfl rfl (by decide +kernel) ⟨Nat.le_of_ble_eq_true rfl, Nat.le_of_ble_eq_true rfl⟩) (pwu_V (tD hq1) rfl hP hK hZ hS) rfl rfl hl.1 rfl (lv_room (Nat.le_of_ble_eq_true rfl)) dX0_openOptions_168 ⟨Nat.zero_le _, Nat.zero_le _⟩) hS (fun H locs hP hS => ?_)
      obtain ⟨x11_8, ex11_8, hf⟩ := bd_inv hf
      refine w_topL ex11_8 ?_
      refine lv_lstore (lv' := [(11, .long x11_8), (10, .int x10_3), (0, .ref (ad q)), (1, .ref (ad q1))]) hx hb dX0_openOptions_171 hl (by decide) rfl (fun ls hl => ?_)
      refine lv_aload_n hx hb dX0_openOptions_173 rfl (lv_at hl 3 rfl) ?_
      refine lv_aload_n hx hb dX0_openOptions_174 rfl (lv_at hl 2 rfl) ?_
      refine w_gI (C := RX0) (T := TX0) hx hb hts n0 hown hK hP (tC hq) rfl 6 (by decide) L46 rfl dX0_openOptions_175 ?_
      refine lv_aload_n hx hb dX0_openOptions_178 rfl (lv_at hl 2 rfl) ?_
      refine w_gI (C := RX0) (T := TX0) hx hb hts n0 hown hK hP (tC hq) rfl 5 (by decide) L43 rfl dX0_openOptions_179 ?_
      obtain ⟨r_9, S_10, hc_11, hf⟩ := bo_inv hf
      refine w_cl (va_runV (As := [.int (S_6.1 q 6), .int (S_6.1 q 5)]) (rest := []) ⟨hx, hb, hml, hown, hts⟩ (c_X1_between l D y ad aL aU hI n q1 hq1 S_6 (S_6.1 q 6) (S_6.1 q 5) _ _ hc_11) (cwV 2 hts gX0_openOptions_X1_between rfl rfl rfl (by decide +kernel) ⟨Nat.le_of_ble_eq_true rfl, Nat.le_of_ble_eq_true rfl⟩) (pwu_V (tD hq1) rfl hP hK hZ hS) rfl rfl hl.1 rfl (lv_room (Nat.le_of_ble_eq_true rfl)) dX0_openOptions_182 ⟨Nat.zero_le _, Nat.zero_le _⟩) hS (fun H locs hP hS => ?_)
      obtain ⟨x13_12, ex13_12, hf⟩ := bd_inv hf
      refine w_topL ex13_12 ?_
      refine lv_lstore (lv' := [(13, .long x13_12), (11, .long x11_8), (10, .int x10_3), (0, .ref (ad q)), (1, .ref (ad q1))]) hx hb dX0_openOptions_185 hl (by decide) rfl (fun ls hl => ?_)
      refine lv_lload hx hb dX0_openOptions_187 (lv_at hl 1 rfl) ?_
      refine lv_lconst (v := 0) hx hb dX0_openOptions_189 (by decide) ?_
      refine W.lcmp hx hb dX0_openOptions_190 ?_
      refine lv_if_ne (tgt := 203) hx hb dX0_openOptions_191 (by decide) (fun b_13 => ?_) (fun b_13 => ?_)
      · have hf := if_f b_13 hf
        exact j203   S_10 x10_3 x11_8 x13_12 _ _ _ hf hP hS (lv_sub hl [3, 2, 1, 0] rfl)
      · have hf := if_t b_13 hf
        refine lv_lload hx hb dX0_openOptions_194 (lv_at hl 0 rfl) ?_
        refine lv_lconst (v := 0) hx hb dX0_openOptions_196 (by decide) ?_
        refine W.lcmp hx hb dX0_openOptions_197 ?_
        refine lv_if_ne (tgt := 203) hx hb dX0_openOptions_198 (by decide) (fun b_14 => ?_) (fun b_14 => ?_)
        · have hf := if_f b_14 hf
          exact j203   S_10 x10_3 x11_8 x13_12 _ _ _ hf hP hS (lv_sub hl [3, 2, 1, 0] rfl)
        · have hf := if_t b_14 hf
          refine lv_iconst (v := (-1)) hx hb dX0_openOptions_201 (by decide) ?_
          exact w_iret hx hb hr hlocks hP hS (rt_inv hf) dX0_openOptions_202
    · have hf := if_t b_4 hf
      refine lv_iload hx hb dX0_openOptions_156 (lv_at hl 0 rfl) ?_
      exact w_iret hx hb hr hlocks hP hS (rt_inv hf) dX0_openOptions_158
  have j128 : ∀ (S : St) (x6 : Int64) (t0 : Int32) (t1 : Int32) (H : Heap) (locs : List Loc) (ls : Array Slot), f_X0_openOptions_128 n q q1 S x6 t0 t1 = some (r, S2) → PW D y ad S H → va_S (AA ad) s.heap H locs → lv_has ls 15 [(0, .ref (ad q)), (1, .ref (ad q1)), (6, .long x6)] → W p l e (headSpec wsX0_openOptions ({ frames := 2, cells := 0, slots := 0, locals := 42 })).room s m ([.ref (ad q), .ref (ad q1)] : List Value).toArray below meth c H locs 0 0 (QI below r S2 D y ad ([.ref (ad q), .ref (ad q1)] : List Value).toArray s) (F0 m 128 ls [.int t1, .int t0]) := by
    intro  S x6 t0 t1 H locs ls hf hP hS hl
    unfold f_X0_openOptions_128 at hf
    refine lv_ior hx hb dX0_openOptions_128 ?_
    obtain ⟨x10_15, ex10_15, hf⟩ := bd_inv hf
    refine w_topI ex10_15 ?_
    refine lv_istore (lv' := [(10, .int x10_15), (0, .ref (ad q)), (1, .ref (ad q1)), (6, .long x6)]) hx hb dX0_openOptions_129 hl (by decide) rfl (fun ls hl => ?_)
    refine lv_iload hx hb dX0_openOptions_131 (lv_at hl 0 rfl) ?_
    refine lv_lload hx hb dX0_openOptions_133 (lv_at hl 3 rfl) ?_
    refine lv_lconst (v := 0) hx hb dX0_openOptions_135 (by decide) ?_
    refine W.lcmp hx hb dX0_openOptions_136 ?_
    refine lv_if_le (tgt := 145) hx hb dX0_openOptions_137 (by decide) (fun b_16 => ?_) (fun b_16 => ?_)
    · have hf := if_t b_16 hf
      refine lv_iconst (v := 0) hx hb dX0_openOptions_145 (by decide) ?_
      exact j146   S x10_15 ((0 : Int32)) _ _ _ hf hP hS (lv_sub hl [1, 2] rfl)
    · have hf := if_f b_16 hf
      refine lv_bipush (v := (8)) hx hb dX0_openOptions_140 (by decide) ?_
      refine lv_goto (tgt := 146) hx hb dX0_openOptions_142 (by decide) ?_
      exact j146   S x10_15 ((8 : Int32)) _ _ _ hf hP hS (lv_sub hl [1, 2] rfl)
  have j111 : ∀ (S : St) (x6 : Int64) (x8 : Int64) (t0 : Int32) (t1 : Int32) (H : Heap) (locs : List Loc) (ls : Array Slot), f_X0_openOptions_111 n q q1 S x6 x8 t0 t1 = some (r, S2) → PW D y ad S H → va_S (AA ad) s.heap H locs → lv_has ls 15 [(0, .ref (ad q)), (1, .ref (ad q1)), (6, .long x6), (8, .long x8)] → W p l e (headSpec wsX0_openOptions ({ frames := 2, cells := 0, slots := 0, locals := 42 })).room s m ([.ref (ad q), .ref (ad q1)] : List Value).toArray below meth c H locs 0 0 (QI below r S2 D y ad ([.ref (ad q), .ref (ad q1)] : List Value).toArray s) (F0 m 111 ls [.int t1, .int t0]) := by
    intro  S x6 x8 t0 t1 H locs ls hf hP hS hl
    unfold f_X0_openOptions_111 at hf
    refine lv_ior hx hb dX0_openOptions_111 ?_
    obtain ⟨x10_17, ex10_17, hf⟩ := bd_inv hf
    refine w_topI ex10_17 ?_
    refine lv_istore (lv' := [(10, .int x10_17), (0, .ref (ad q)), (1, .ref (ad q1)), (6, .long x6), (8, .long x8)]) hx hb dX0_openOptions_112 hl (by decide) rfl (fun ls hl => ?_)
    refine lv_iload hx hb dX0_openOptions_114 (lv_at hl 0 rfl) ?_
    refine lv_lload hx hb dX0_openOptions_116 (lv_at hl 4 rfl) ?_
    refine lv_lconst (v := 0) hx hb dX0_openOptions_118 (by decide) ?_
    refine W.lcmp hx hb dX0_openOptions_119 ?_
    refine lv_if_le (tgt := 127) hx hb dX0_openOptions_120 (by decide) (fun b_18 => ?_) (fun b_18 => ?_)
    · have hf := if_t b_18 hf
      refine lv_iconst (v := 0) hx hb dX0_openOptions_127 (by decide) ?_
      exact j128   S x6 x10_17 ((0 : Int32)) _ _ _ hf hP hS (lv_sub hl [1, 2, 3] rfl)
    · have hf := if_f b_18 hf
      refine lv_iconst (v := 4) hx hb dX0_openOptions_123 (by decide) ?_
      refine lv_goto (tgt := 128) hx hb dX0_openOptions_124 (by decide) ?_
      exact j128   S x6 x10_17 ((4 : Int32)) _ _ _ hf hP hS (lv_sub hl [1, 2, 3] rfl)
  have j96 : ∀ (S : St) (x2 : Int64) (x6 : Int64) (x8 : Int64) (t0 : Int32) (H : Heap) (locs : List Loc) (ls : Array Slot), f_X0_openOptions_96 n q q1 S x2 x6 x8 t0 = some (r, S2) → PW D y ad S H → va_S (AA ad) s.heap H locs → lv_has ls 15 [(0, .ref (ad q)), (1, .ref (ad q1)), (2, .long x2), (6, .long x6), (8, .long x8)] → W p l e (headSpec wsX0_openOptions ({ frames := 2, cells := 0, slots := 0, locals := 42 })).room s m ([.ref (ad q), .ref (ad q1)] : List Value).toArray below meth c H locs 0 0 (QI below r S2 D y ad ([.ref (ad q), .ref (ad q1)] : List Value).toArray s) (F0 m 96 ls [.int t0]) := by
    intro  S x2 x6 x8 t0 H locs ls hf hP hS hl
    unfold f_X0_openOptions_96 at hf
    obtain ⟨x10_19, ex10_19, hf⟩ := bd_inv hf
    refine w_topI ex10_19 ?_
    refine lv_istore (lv' := [(10, .int x10_19), (0, .ref (ad q)), (1, .ref (ad q1)), (2, .long x2), (6, .long x6), (8, .long x8)]) hx hb dX0_openOptions_96 hl (by decide) rfl (fun ls hl => ?_)
    refine lv_iload hx hb dX0_openOptions_98 (lv_at hl 0 rfl) ?_
    refine lv_lload_n hx hb dX0_openOptions_100 rfl (lv_at hl 3 rfl) ?_
    refine lv_lconst (v := 0) hx hb dX0_openOptions_101 (by decide) ?_
    refine W.lcmp hx hb dX0_openOptions_102 ?_
    refine lv_if_le (tgt := 110) hx hb dX0_openOptions_103 (by decide) (fun b_20 => ?_) (fun b_20 => ?_)
    · have hf := if_t b_20 hf
      refine lv_iconst (v := 0) hx hb dX0_openOptions_110 (by decide) ?_
      exact j111   S x6 x8 x10_19 ((0 : Int32)) _ _ _ hf hP hS (lv_sub hl [1, 2, 4, 5] rfl)
    · have hf := if_f b_20 hf
      refine lv_iconst (v := 2) hx hb dX0_openOptions_106 (by decide) ?_
      refine lv_goto (tgt := 111) hx hb dX0_openOptions_107 (by decide) ?_
      exact j111   S x6 x8 x10_19 ((2 : Int32)) _ _ _ hf hP hS (lv_sub hl [1, 2, 4, 5] rfl)
  unfold f_X0_openOptions at hf
  refine lv_aload_n hx hb dX0_openOptions_0 rfl (lv_at hl 1 rfl) ?_
  refine lv_aload_n hx hb dX0_openOptions_1 rfl (lv_at hl 0 rfl) ?_
  refine w_gI (C := RX0) (T := TX0) hx hb hts n0 hown hK hP (tC hq) rfl 0 (by decide) L9 rfl dX0_openOptions_2 ?_
  refine lv_aload_n hx hb dX0_openOptions_5 rfl (lv_at hl 0 rfl) ?_
  refine w_gI (C := RX0) (T := TX0) hx hb hts n0 hown hK hP (tC hq) rfl 1 (by decide) L15 rfl dX0_openOptions_6 ?_
  obtain ⟨r_21, S_22, hc_23, hf⟩ := bo_inv hf
  refine w_cl (va_runV (As := [.int (S.1 q 0), .int (S.1 q 1)]) (rest := []) ⟨hx, hb, hml, hown, hts⟩ (c_X1_between l D y ad aL aU hI n q1 hq1 S (S.1 q 0) (S.1 q 1) _ _ hc_23) (cwV 2 hts gX0_openOptions_X1_between rfl rfl rfl (by decide +kernel) ⟨Nat.le_of_ble_eq_true rfl, Nat.le_of_ble_eq_true rfl⟩) (pwu_V (tD hq1) rfl hP hK hZ hS) rfl rfl hl.1 rfl (lv_room (Nat.le_of_ble_eq_true rfl)) dX0_openOptions_9 ⟨Nat.zero_le _, Nat.zero_le _⟩) hS (fun H locs hP hS => ?_)
  obtain ⟨x2_24, ex2_24, hf⟩ := bd_inv hf
  refine w_topL ex2_24 ?_
  refine lv_lstore_n (lv' := [(2, .long x2_24), (0, .ref (ad q)), (1, .ref (ad q1))]) hx hb dX0_openOptions_12 rfl hl (by decide) rfl (fun ls hl => ?_)
  refine lv_aload_n hx hb dX0_openOptions_13 rfl (lv_at hl 2 rfl) ?_
  refine lv_aload_n hx hb dX0_openOptions_14 rfl (lv_at hl 1 rfl) ?_
  refine w_gI (C := RX0) (T := TX0) hx hb hts n0 hown hK hP (tC hq) rfl 1 (by decide) L15 rfl dX0_openOptions_15 ?_
  refine lv_aload_n hx hb dX0_openOptions_18 rfl (lv_at hl 1 rfl) ?_
  refine w_gI (C := RX0) (T := TX0) hx hb hts n0 hown hK hP (tC hq) rfl 0 (by decide) L9 rfl dX0_openOptions_19 ?_
  obtain ⟨r_25, S_26, hc_27, hf⟩ := bo_inv hf
  refine w_cl (va_runV (As := [.int (S_22.1 q 1), .int (S_22.1 q 0)]) (rest := []) ⟨hx, hb, hml, hown, hts⟩ (c_X1_between l D y ad aL aU hI n q1 hq1 S_22 (S_22.1 q 1) (S_22.1 q 0) _ _ hc_27) (cwV 2 hts gX0_openOptions_X1_between rfl rfl rfl (by decide +kernel) ⟨Nat.le_of_ble_eq_true rfl, Nat.le_of_ble_eq_true rfl⟩) (pwu_V (tD hq1) rfl hP hK hZ hS) rfl rfl hl.1 rfl (lv_room (Nat.le_of_ble_eq_true rfl)) dX0_openOptions_22 ⟨Nat.zero_le _, Nat.zero_le _⟩) hS (fun H locs hP hS => ?_)
  obtain ⟨x4_28, ex4_28, hf⟩ := bd_inv hf
  refine w_topL ex4_28 ?_
  refine lv_lstore (lv' := [(4, .long x4_28), (2, .long x2_24), (0, .ref (ad q)), (1, .ref (ad q1))]) hx hb dX0_openOptions_25 hl (by decide) rfl (fun ls hl => ?_)
  refine lv_aload_n hx hb dX0_openOptions_27 rfl (lv_at hl 3 rfl) ?_
  refine lv_aload_n hx hb dX0_openOptions_28 rfl (lv_at hl 2 rfl) ?_
  refine w_gI (C := RX0) (T := TX0) hx hb hts n0 hown hK hP (tC hq) rfl 2 (by decide) L37 rfl dX0_openOptions_29 ?_
  refine lv_aload_n hx hb dX0_openOptions_32 rfl (lv_at hl 2 rfl) ?_
  refine w_gI (C := RX0) (T := TX0) hx hb hts n0 hown hK hP (tC hq) rfl 3 (by decide) L40 rfl dX0_openOptions_33 ?_
  obtain ⟨r_29, S_30, hc_31, hf⟩ := bo_inv hf
  refine w_cl (va_runV (As := [.int (S_26.1 q 2), .int (S_26.1 q 3)]) (rest := []) ⟨hx, hb, hml, hown, hts⟩ (c_X1_between l D y ad aL aU hI n q1 hq1 S_26 (S_26.1 q 2) (S_26.1 q 3) _ _ hc_31) (cwV 2 hts gX0_openOptions_X1_between rfl rfl rfl (by decide +kernel) ⟨Nat.le_of_ble_eq_true rfl, Nat.le_of_ble_eq_true rfl⟩) (pwu_V (tD hq1) rfl hP hK hZ hS) rfl rfl hl.1 rfl (lv_room (Nat.le_of_ble_eq_true rfl)) dX0_openOptions_36 ⟨Nat.zero_le _, Nat.zero_le _⟩) hS (fun H locs hP hS => ?_)
  obtain ⟨x6_32, ex6_32, hf⟩ := bd_inv hf
  refine w_topL ex6_32 ?_
  refine lv_lstore (lv' := [(6, .long x6_32), (4, .long x4_28), (2, .long x2_24), (0, .ref (ad q)), (1, .ref (ad q1))]) hx hb dX0_openOptions_39 hl (by decide) rfl (fun ls hl => ?_)
  refine lv_aload_n hx hb dX0_openOptions_41 rfl (lv_at hl 4 rfl) ?_
  refine lv_aload_n hx hb dX0_openOptions_42 rfl (lv_at hl 3 rfl) ?_
  refine w_gI (C := RX0) (T := TX0) hx hb hts n0 hown hK hP (tC hq) rfl 3 (by decide) L40 rfl dX0_openOptions_43 ?_
  refine lv_aload_n hx hb dX0_openOptions_46 rfl (lv_at hl 3 rfl) ?_
  refine w_gI (C := RX0) (T := TX0) hx hb hts n0 hown hK hP (tC hq) rfl 2 (by decide) L37 rfl dX0_openOptions_47 ?_
  obtain ⟨r_33, S_34, hc_35, hf⟩ := bo_inv hf
  refine w_cl (va_runV (As := [.int (S_30.1 q 3), .int (S_30.1 q 2)]) (rest := []) ⟨hx, hb, hml, hown, hts⟩ (c_X1_between l D y ad aL aU hI n q1 hq1 S_30 (S_30.1 q 3) (S_30.1 q 2) _ _ hc_35) (cwV 2 hts gX0_openOptions_X1_between rfl rfl rfl (by decide +kernel) ⟨Nat.le_of_ble_eq_true rfl, Nat.le_of_ble_eq_true rfl⟩) (pwu_V (tD hq1) rfl hP hK hZ hS) rfl rfl hl.1 rfl (lv_room (Nat.le_of_ble_eq_true rfl)) dX0_openOptions_50 ⟨Nat.zero_le _, Nat.zero_le _⟩) hS (fun H locs hP hS => ?_)
  obtain ⟨x8_36, ex8_36, hf⟩ := bd_inv hf
  refine w_topL ex8_36 ?_
  refine lv_lstore (lv' := [(8, .long x8_36), (6, .long x6_32), (4, .long x4_28), (2, .long x2_24), (0, .ref (ad q)), (1, .ref (ad q1))]) hx hb dX0_openOptions_53 hl (by decide) rfl (fun ls hl => ?_)
  refine lv_lload_n hx hb dX0_openOptions_55 rfl (lv_at hl 3 rfl) ?_
  refine lv_lconst (v := 0) hx hb dX0_openOptions_56 (by decide) ?_
  refine W.lcmp hx hb dX0_openOptions_57 ?_
  refine lv_if_lt (tgt := 82) hx hb dX0_openOptions_58 (by decide) (fun b_37 => ?_) (fun b_37 => ?_)
  · have hf := if_t b_37 hf
    refine lv_iconst (v := (-1)) hx hb dX0_openOptions_82 (by decide) ?_
    exact w_iret hx hb hr hlocks hP hS (rt_inv hf) dX0_openOptions_83
  · have hf := if_f b_37 hf
    refine lv_lload hx hb dX0_openOptions_61 (lv_at hl 2 rfl) ?_
    refine lv_lconst (v := 0) hx hb dX0_openOptions_63 (by decide) ?_
    refine W.lcmp hx hb dX0_openOptions_64 ?_
    refine lv_if_lt (tgt := 82) hx hb dX0_openOptions_65 (by decide) (fun b_38 => ?_) (fun b_38 => ?_)
    · have hf := if_t b_38 hf
      refine lv_iconst (v := (-1)) hx hb dX0_openOptions_82 (by decide) ?_
      exact w_iret hx hb hr hlocks hP hS (rt_inv hf) dX0_openOptions_83
    · have hf := if_f b_38 hf
      refine lv_lload hx hb dX0_openOptions_68 (lv_at hl 1 rfl) ?_
      refine lv_lconst (v := 0) hx hb dX0_openOptions_70 (by decide) ?_
      refine W.lcmp hx hb dX0_openOptions_71 ?_
      refine lv_if_lt (tgt := 82) hx hb dX0_openOptions_72 (by decide) (fun b_39 => ?_) (fun b_39 => ?_)
      · have hf := if_t b_39 hf
        refine lv_iconst (v := (-1)) hx hb dX0_openOptions_82 (by decide) ?_
        exact w_iret hx hb hr hlocks hP hS (rt_inv hf) dX0_openOptions_83
      · have hf := if_f b_39 hf
        refine lv_lload hx hb dX0_openOptions_75 (lv_at hl 0 rfl) ?_
        refine lv_lconst (v := 0) hx hb dX0_openOptions_77 (by decide) ?_
        refine W.lcmp hx hb dX0_openOptions_78 ?_
        refine lv_if_ge (tgt := 84) hx hb dX0_openOptions_79 (by decide) (fun b_40 => ?_) (fun b_40 => ?_)
        · have hf := if_t b_40 hf
          refine lv_lload hx hb dX0_openOptions_84 (lv_at hl 2 rfl) ?_
          refine lv_lconst (v := 0) hx hb dX0_openOptions_86 (by decide) ?_
          refine W.lcmp hx hb dX0_openOptions_87 ?_
          refine lv_if_le (tgt := 95) hx hb dX0_openOptions_88 (by decide) (fun b_41 => ?_) (fun b_41 => ?_)
          · have hf := if_t b_41 hf
            refine lv_iconst (v := 0) hx hb dX0_openOptions_95 (by decide) ?_
            exact j96   S_34 x2_24 x6_32 x8_36 ((0 : Int32)) _ _ _ hf hP hS (lv_sub hl [4, 5, 3, 1, 0] rfl)
          · have hf := if_f b_41 hf
            refine lv_iconst (v := 1) hx hb dX0_openOptions_91 (by decide) ?_
            refine lv_goto (tgt := 96) hx hb dX0_openOptions_92 (by decide) ?_
            exact j96   S_34 x2_24 x6_32 x8_36 ((1 : Int32)) _ _ _ hf hP hS (lv_sub hl [4, 5, 3, 1, 0] rfl)
        · have hf := if_f b_40 hf
          refine lv_iconst (v := (-1)) hx hb dX0_openOptions_82 (by decide) ?_
          exact w_iret hx hb hr hlocks hP hS (rt_inv hf) dX0_openOptions_83
set_option maxHeartbeats 4000000 in
set_option maxRecDepth 100000 in
theorem c_X1_bound (l : Launch) (D : va_G) (y : y4) (ad : Nat → Nat) (aL aU : Nat) (hI : Inj ad) (n : Nat) (q : Nat) (hq : isD q) (S : St) (a1 : Int32) (a2 : Int32) (a3 : Int64) (r : Int32) (S2 : St) (hf : f_X1_bound n q S a1 a2 a3 = some (r, S2)) : KI l D y ad aL aU yX1_bound wsX1_bound ({ frames := 1, cells := 0, slots := 0, locals := 20 }) [.ref (ad q), .int a1, .int a2, .long a3] S r S2 := by
  refine Met.ofW (cc := cX1_bound) (maxL := 13) (ret := (some .boolean)) (by decide) rfl ?_
  intro p e s m args below meth c s₁ B hml hv
  obtain ⟨rfl, hP, hK, hZ⟩ := hv
  have hx := B.exec
  have hb := B.bytes
  have hr := B.returns
  have hts := atoms_spec (ws := wsX1_bound) B.pre
  have hown : s.vm.findClass RX1 = some m.cls := findClass_of_methodNamed B.named
  have hlocks := B.notSynchronized
  have hS : va_S (AA ad) s.heap s.heap [] := va_S.rf
  have L9 := hts (.fieldLink RX1 9 "JoinedTheories$Distances" "cells" "[J") (by decide +kernel)
  have K15 := hts (.constantLong RX1 15 (1000000000000000)) (by decide +kernel)
  have n1 : ∀ w ∈ wsX10, w ∈ wsX1_bound := by decide +kernel
  have hl := lv_entry ([.ref (ad q), .int a1, .int a2, .long a3]) (n := 13) (Nat.le_of_ble_eq_true rfl)
  rw [lg_entry_eq]
  generalize (lg_sl ([.ref (ad q), .int a1, .int a2, .long a3]) ++ List.replicate (13 - (lg_sl ([.ref (ad q), .int a1, .int a2, .long a3])).length) Slot.unset).toArray = ls at hl ⊢
  have hl : lv_has ls 13 [(0, .ref (ad q)), (1, .int a1), (2, .int a2), (3, .long a3)] := hl
  have j187 : ∀ (x1 : Int32) (x2 : Int32) (x3 : Int64) (k74 : St → Int32 → Option (Int32 × St)) (hk74 : ∀ (S : St) (x7 : Int32) (H : Heap) (locs : List Loc) (ls : Array Slot), k74 S x7 = some (r, S2) → PW D y ad S H → va_S (AA ad) s.heap H locs → lv_has ls 13 [(0, .ref (ad q)), (1, .int x1), (2, .int x2), (3, .long x3), (7, .int x7)] → W p l e (headSpec wsX1_bound ({ frames := 1, cells := 0, slots := 0, locals := 20 })).room s m ([.ref (ad q), .int a1, .int a2, .long a3] : List Value).toArray below meth c H locs 0 0 (QI below r S2 D y ad ([.ref (ad q), .int a1, .int a2, .long a3] : List Value).toArray s) (F0 m 74 ls [])), ∀ (S : St) (x7 : Int32) (H : Heap) (locs : List Loc) (ls : Array Slot), f_X1_bound_187 n q x1 x2 x3 k74 S x7 = some (r, S2) → PW D y ad S H → va_S (AA ad) s.heap H locs → lv_has ls 13 [(0, .ref (ad q)), (1, .int x1), (2, .int x2), (3, .long x3), (7, .int x7)] → W p l e (headSpec wsX1_bound ({ frames := 1, cells := 0, slots := 0, locals := 20 })).room s m ([.ref (ad q), .int a1, .int a2, .long a3] : List Value).toArray below meth c H locs 0 0 (QI below r S2 D y ad ([.ref (ad q), .int a1, .int a2, .long a3] : List Value).toArray s) (F0 m 187 ls []) := by
    intro x1 x2 x3 k74 hk74 S x7 H locs ls hf hP hS hl
    unfold f_X1_bound_187 at hf
    obtain ⟨x7_1, ex7_1, hf⟩ := bd_inv hf
    refine lv_iinc (v := x7_1) (lv' := [(7, .int x7_1), (0, .ref (ad q)), (1, .int x1), (2, .int x2), (3, .long x3)]) hx hb dX1_bound_187 hl (k := 4) rfl (by rw [ex7_1]; rfl) (by decide) rfl (fun ls hl => ?_)
    refine lv_goto (tgt := 74) hx hb dX1_bound_190 (by decide) ?_
    exact hk74 S x7_1 _ _ _ hf hP hS (lv_sub hl [1, 2, 3, 4, 0] rfl)
  have j181 : ∀ (x1 : Int32) (x2 : Int32) (x3 : Int64) (x7 : Int32) (x8 : Int64) (k74 : St → Int32 → Option (Int32 × St)) (hk74 : ∀ (S : St) (x7 : Int32) (H : Heap) (locs : List Loc) (ls : Array Slot), k74 S x7 = some (r, S2) → PW D y ad S H → va_S (AA ad) s.heap H locs → lv_has ls 13 [(0, .ref (ad q)), (1, .int x1), (2, .int x2), (3, .long x3), (7, .int x7)] → W p l e (headSpec wsX1_bound ({ frames := 1, cells := 0, slots := 0, locals := 20 })).room s m ([.ref (ad q), .int a1, .int a2, .long a3] : List Value).toArray below meth c H locs 0 0 (QI below r S2 D y ad ([.ref (ad q), .int a1, .int a2, .long a3] : List Value).toArray s) (F0 m 74 ls [])) (k98 : St → Int32 → Option (Int32 × St)) (hk98 : ∀ (S : St) (x10 : Int32) (H : Heap) (locs : List Loc) (ls : Array Slot), k98 S x10 = some (r, S2) → PW D y ad S H → va_S (AA ad) s.heap H locs → lv_has ls 13 [(0, .ref (ad q)), (1, .int x1), (2, .int x2), (3, .long x3), (7, .int x7), (8, .long x8), (10, .int x10)] → W p l e (headSpec wsX1_bound ({ frames := 1, cells := 0, slots := 0, locals := 20 })).room s m ([.ref (ad q), .int a1, .int a2, .long a3] : List Value).toArray below meth c H locs 0 0 (QI below r S2 D y ad ([.ref (ad q), .int a1, .int a2, .long a3] : List Value).toArray s) (F0 m 98 ls [])), ∀ (S : St) (x10 : Int32) (H : Heap) (locs : List Loc) (ls : Array Slot), f_X1_bound_181 n q x1 x2 x3 x7 x8 k74 k98 S x10 = some (r, S2) → PW D y ad S H → va_S (AA ad) s.heap H locs → lv_has ls 13 [(0, .ref (ad q)), (1, .int x1), (2, .int x2), (3, .long x3), (7, .int x7), (8, .long x8), (10, .int x10)] → W p l e (headSpec wsX1_bound ({ frames := 1, cells := 0, slots := 0, locals := 20 })).room s m ([.ref (ad q), .int a1, .int a2, .long a3] : List Value).toArray below meth c H locs 0 0 (QI below r S2 D y ad ([.ref (ad q), .int a1, .int a2, .long a3] : List Value).toArray s) (F0 m 181 ls []) := by
    intro x1 x2 x3 x7 x8 k74 hk74 k98 hk98 S x10 H locs ls hf hP hS hl
    unfold f_X1_bound_181 at hf
    obtain ⟨x10_2, ex10_2, hf⟩ := bd_inv hf
    refine lv_iinc (v := x10_2) (lv' := [(10, .int x10_2), (0, .ref (ad q)), (1, .int x1), (2, .int x2), (3, .long x3), (7, .int x7), (8, .long x8)]) hx hb dX1_bound_181 hl (k := 6) rfl (by rw [ex10_2]; rfl) (by decide) rfl (fun ls hl => ?_)
    refine lv_goto (tgt := 98) hx hb dX1_bound_184 (by decide) ?_
    exact hk98 S x10_2 _ _ _ hf hP hS (lv_sub hl [1, 2, 3, 4, 5, 6, 0] rfl)
  have b98 : ∀ (x1 : Int32) (x2 : Int32) (x3 : Int64) (x7 : Int32) (x8 : Int64) (k74 : St → Int32 → Option (Int32 × St)) (hk74 : ∀ (S : St) (x7 : Int32) (H : Heap) (locs : List Loc) (ls : Array Slot), k74 S x7 = some (r, S2) → PW D y ad S H → va_S (AA ad) s.heap H locs → lv_has ls 13 [(0, .ref (ad q)), (1, .int x1), (2, .int x2), (3, .long x3), (7, .int x7)] → W p l e (headSpec wsX1_bound ({ frames := 1, cells := 0, slots := 0, locals := 20 })).room s m ([.ref (ad q), .int a1, .int a2, .long a3] : List Value).toArray below meth c H locs 0 0 (QI below r S2 D y ad ([.ref (ad q), .int a1, .int a2, .long a3] : List Value).toArray s) (F0 m 74 ls [])) (k98 : St → Int32 → Option (Int32 × St)) (hk98 : ∀ (S : St) (x10 : Int32) (H : Heap) (locs : List Loc) (ls : Array Slot), k98 S x10 = some (r, S2) → PW D y ad S H → va_S (AA ad) s.heap H locs → lv_has ls 13 [(0, .ref (ad q)), (1, .int x1), (2, .int x2), (3, .long x3), (7, .int x7), (8, .long x8), (10, .int x10)] → W p l e (headSpec wsX1_bound ({ frames := 1, cells := 0, slots := 0, locals := 20 })).room s m ([.ref (ad q), .int a1, .int a2, .long a3] : List Value).toArray below meth c H locs 0 0 (QI below r S2 D y ad ([.ref (ad q), .int a1, .int a2, .long a3] : List Value).toArray s) (F0 m 98 ls [])), ∀ (S : St) (x10 : Int32) (H : Heap) (locs : List Loc) (ls : Array Slot), f_X1_bound_98 n q x1 x2 x3 x7 x8 k74 k98 S x10 = some (r, S2) → PW D y ad S H → va_S (AA ad) s.heap H locs → lv_has ls 13 [(0, .ref (ad q)), (1, .int x1), (2, .int x2), (3, .long x3), (7, .int x7), (8, .long x8), (10, .int x10)] → W p l e (headSpec wsX1_bound ({ frames := 1, cells := 0, slots := 0, locals := 20 })).room s m ([.ref (ad q), .int a1, .int a2, .long a3] : List Value).toArray below meth c H locs 0 0 (QI below r S2 D y ad ([.ref (ad q), .int a1, .int a2, .long a3] : List Value).toArray s) (F0 m 98 ls []) := by
    intro x1 x2 x3 x7 x8 k74 hk74 k98 hk98 S x10 H locs ls hf hP hS hl
    unfold f_X1_bound_98 at hf
    refine lv_iload hx hb dX1_bound_98 (lv_at hl 6 rfl) ?_
    refine lv_bipush (v := (10)) hx hb dX1_bound_100 (by decide) ?_
    refine lv_icmp_ge (tgt := 187) hx hb dX1_bound_102 (by decide) (fun b_3 => ?_) (fun b_3 => ?_)
    · have hf := if_t b_3 hf
      exact j187 x1 x2 x3 k74 hk74 S x7 _ _ _ hf hP hS (lv_sub hl [0, 1, 2, 3, 4] rfl)
    · have hf := if_f b_3 hf
      refine lv_lload hx hb dX1_bound_105 (lv_at hl 5 rfl) ?_
      refine lv_ldc2 (v := (1000000000000000)) hx hb hown K15 dX1_bound_107 ?_
      refine W.lcmp hx hb dX1_bound_110 ?_
      refine lv_if_eq (tgt := 187) hx hb dX1_bound_111 (by decide) (fun b_4 => ?_) (fun b_4 => ?_)
      · have hf := if_t b_4 hf
        exact j187 x1 x2 x3 k74 hk74 S x7 _ _ _ hf hP hS (lv_sub hl [0, 1, 2, 3, 4] rfl)
      · have hf := if_f b_4 hf
        refine lv_aload_n hx hb dX1_bound_114 rfl (lv_at hl 0 rfl) ?_
        refine w_gR (z := (q + 25)) (C := RX1) (T := TX1) hx hb hts n1 hown hK hP (tD hq) rfl 0 (by decide) L9 rfl (rD hq) dX1_bound_115 ?_
        refine lv_iload_n hx hb dX1_bound_118 rfl (lv_at hl 2 rfl) ?_
        refine lv_bipush (v := (10)) hx hb dX1_bound_119 (by decide) ?_
        refine lv_imul hx hb dX1_bound_121 ?_
        refine lv_iload hx hb dX1_bound_122 (lv_at hl 6 rfl) ?_
        refine lv_iadd hx hb dX1_bound_124 ?_
        obtain ⟨g_5, hf⟩ := gd_inv hf
        refine w_lald hx hb hK hP (tA (aD hq)) g_5 dX1_bound_125 ?_
        obtain ⟨x11_6, ex11_6, hf⟩ := bd_inv hf
        refine w_topL ex11_6 ?_
        refine lv_lstore (lv' := [(11, .long x11_6), (0, .ref (ad q)), (1, .int x1), (2, .int x2), (3, .long x3), (7, .int x7), (8, .long x8), (10, .int x10)]) hx hb dX1_bound_126 hl (by decide) rfl (fun ls hl => ?_)
        refine lv_lload hx hb dX1_bound_128 (lv_at hl 0 rfl) ?_
        refine lv_ldc2 (v := (1000000000000000)) hx hb hown K15 dX1_bound_130 ?_
        refine W.lcmp hx hb dX1_bound_133 ?_
        refine lv_if_eq (tgt := 181) hx hb dX1_bound_134 (by decide) (fun b_7 => ?_) (fun b_7 => ?_)
        · have hf := if_t b_7 hf
          exact j181 x1 x2 x3 x7 x8 k74 hk74 k98 hk98 S x10 _ _ _ hf hP hS (lv_sub hl [1, 2, 3, 4, 5, 6, 7] rfl)
        · have hf := if_f b_7 hf
          refine lv_lload hx hb dX1_bound_137 (lv_at hl 6 rfl) ?_
          refine lv_lload_n hx hb dX1_bound_139 rfl (lv_at hl 4 rfl) ?_
          refine lv_ladd hx hb dX1_bound_140 ?_
          refine lv_lload hx hb dX1_bound_141 (lv_at hl 0 rfl) ?_
          refine lv_ladd hx hb dX1_bound_143 ?_
          refine lv_aload_n hx hb dX1_bound_144 rfl (lv_at hl 1 rfl) ?_
          refine w_gR (z := (q + 25)) (C := RX1) (T := TX1) hx hb hts n1 hown hK hP (tD hq) rfl 0 (by decide) L9 rfl (rD hq) dX1_bound_145 ?_
          refine lv_iload hx hb dX1_bound_148 (lv_at hl 5 rfl) ?_
          refine lv_bipush (v := (10)) hx hb dX1_bound_150 (by decide) ?_
          refine lv_imul hx hb dX1_bound_152 ?_
          refine lv_iload hx hb dX1_bound_153 (lv_at hl 7 rfl) ?_
          refine lv_iadd hx hb dX1_bound_155 ?_
          obtain ⟨g_8, hf⟩ := gd_inv hf
          refine w_lald hx hb hK hP (tA (aD hq)) g_8 dX1_bound_156 ?_
          refine W.lcmp hx hb dX1_bound_157 ?_
          refine lv_if_ge (tgt := 181) hx hb dX1_bound_158 (by decide) (fun b_9 => ?_) (fun b_9 => ?_)
          · have hf := if_t b_9 hf
            exact j181 x1 x2 x3 x7 x8 k74 hk74 k98 hk98 S x10 _ _ _ hf hP hS (lv_sub hl [1, 2, 3, 4, 5, 6, 7] rfl)
          · have hf := if_f b_9 hf
            refine lv_aload_n hx hb dX1_bound_161 rfl (lv_at hl 1 rfl) ?_
            refine w_gR (z := (q + 25)) (C := RX1) (T := TX1) hx hb hts n1 hown hK hP (tD hq) rfl 0 (by decide) L9 rfl (rD hq) dX1_bound_162 ?_
            refine lv_iload hx hb dX1_bound_165 (lv_at hl 5 rfl) ?_
            refine lv_bipush (v := (10)) hx hb dX1_bound_167 (by decide) ?_
            refine lv_imul hx hb dX1_bound_169 ?_
            refine lv_iload hx hb dX1_bound_170 (lv_at hl 7 rfl) ?_
            refine lv_iadd hx hb dX1_bound_172 ?_
            refine lv_lload hx hb dX1_bound_173 (lv_at hl 6 rfl) ?_
            refine lv_lload_n hx hb dX1_bound_175 rfl (lv_at hl 4 rfl) ?_
            refine lv_ladd hx hb dX1_bound_176 ?_
            refine lv_lload hx hb dX1_bound_177 (lv_at hl 0 rfl) ?_
            refine lv_ladd hx hb dX1_bound_179 ?_
            obtain ⟨g_10, hf⟩ := gd_inv hf
            obtain ⟨S_11, eS_11, hf⟩ := bd_inv hf
            refine w_last hx hb hK hI hP hS (tA (aD hq)) g_10 dX1_bound_180 (fun H locs hP hS => ?_)
            rw [← eS_11] at hP
            exact j181 x1 x2 x3 x7 x8 k74 hk74 k98 hk98 S_11 x10 _ _ _ hf hP hS (lv_sub hl [1, 2, 3, 4, 5, 6, 7] rfl)
  have j98 : ∀ (x1 : Int32) (x2 : Int32) (x3 : Int64) (x7 : Int32) (x8 : Int64) (k74 : St → Int32 → Option (Int32 × St)) (hk74 : ∀ (S : St) (x7 : Int32) (H : Heap) (locs : List Loc) (ls : Array Slot), k74 S x7 = some (r, S2) → PW D y ad S H → va_S (AA ad) s.heap H locs → lv_has ls 13 [(0, .ref (ad q)), (1, .int x1), (2, .int x2), (3, .long x3), (7, .int x7)] → W p l e (headSpec wsX1_bound ({ frames := 1, cells := 0, slots := 0, locals := 20 })).room s m ([.ref (ad q), .int a1, .int a2, .long a3] : List Value).toArray below meth c H locs 0 0 (QI below r S2 D y ad ([.ref (ad q), .int a1, .int a2, .long a3] : List Value).toArray s) (F0 m 74 ls [])) (fu : Nat), ∀ (S : St) (x10 : Int32) (H : Heap) (locs : List Loc) (ls : Array Slot), fixF (fun _ _ => none) (f_X1_bound_98 n q x1 x2 x3 x7 x8 k74) fu S x10 = some (r, S2) → PW D y ad S H → va_S (AA ad) s.heap H locs → lv_has ls 13 [(0, .ref (ad q)), (1, .int x1), (2, .int x2), (3, .long x3), (7, .int x7), (8, .long x8), (10, .int x10)] → W p l e (headSpec wsX1_bound ({ frames := 1, cells := 0, slots := 0, locals := 20 })).room s m ([.ref (ad q), .int a1, .int a2, .long a3] : List Value).toArray below meth c H locs 0 0 (QI below r S2 D y ad ([.ref (ad q), .int a1, .int a2, .long a3] : List Value).toArray s) (F0 m 98 ls []) := by
    intro x1 x2 x3 x7 x8 k74 hk74 fu
    induction fu with
    | zero => intro S x10 H locs ls hf hP hS hl; cases hf
    | succ fu ih => exact b98 x1 x2 x3 x7 x8 k74 hk74 (fixF (fun _ _ => none) (f_X1_bound_98 n q x1 x2 x3 x7 x8 k74) fu) ih
  have b74 : ∀ (x1 : Int32) (x2 : Int32) (x3 : Int64) (k74 : St → Int32 → Option (Int32 × St)) (hk74 : ∀ (S : St) (x7 : Int32) (H : Heap) (locs : List Loc) (ls : Array Slot), k74 S x7 = some (r, S2) → PW D y ad S H → va_S (AA ad) s.heap H locs → lv_has ls 13 [(0, .ref (ad q)), (1, .int x1), (2, .int x2), (3, .long x3), (7, .int x7)] → W p l e (headSpec wsX1_bound ({ frames := 1, cells := 0, slots := 0, locals := 20 })).room s m ([.ref (ad q), .int a1, .int a2, .long a3] : List Value).toArray below meth c H locs 0 0 (QI below r S2 D y ad ([.ref (ad q), .int a1, .int a2, .long a3] : List Value).toArray s) (F0 m 74 ls [])), ∀ (S : St) (x7 : Int32) (H : Heap) (locs : List Loc) (ls : Array Slot), f_X1_bound_74 n q x1 x2 x3 k74 S x7 = some (r, S2) → PW D y ad S H → va_S (AA ad) s.heap H locs → lv_has ls 13 [(0, .ref (ad q)), (1, .int x1), (2, .int x2), (3, .long x3), (7, .int x7)] → W p l e (headSpec wsX1_bound ({ frames := 1, cells := 0, slots := 0, locals := 20 })).room s m ([.ref (ad q), .int a1, .int a2, .long a3] : List Value).toArray below meth c H locs 0 0 (QI below r S2 D y ad ([.ref (ad q), .int a1, .int a2, .long a3] : List Value).toArray s) (F0 m 74 ls []) := by
    intro x1 x2 x3 k74 hk74 S x7 H locs ls hf hP hS hl
    unfold f_X1_bound_74 at hf
    refine lv_iload hx hb dX1_bound_74 (lv_at hl 4 rfl) ?_
    refine lv_bipush (v := (10)) hx hb dX1_bound_76 (by decide) ?_
    refine lv_icmp_ge (tgt := 193) hx hb dX1_bound_78 (by decide) (fun b_12 => ?_) (fun b_12 => ?_)
    · have hf := if_t b_12 hf
      refine lv_iconst (v := 1) hx hb dX1_bound_193 (by decide) ?_
      exact w_zret hx hb hr hlocks (fun h => h (by decide)) hP hS (rt_inv hf) dX1_bound_194
    · have hf := if_f b_12 hf
      refine lv_aload_n hx hb dX1_bound_81 rfl (lv_at hl 0 rfl) ?_
      refine w_gR (z := (q + 25)) (C := RX1) (T := TX1) hx hb hts n1 hown hK hP (tD hq) rfl 0 (by decide) L9 rfl (rD hq) dX1_bound_82 ?_
      refine lv_iload hx hb dX1_bound_85 (lv_at hl 4 rfl) ?_
      refine lv_bipush (v := (10)) hx hb dX1_bound_87 (by decide) ?_
      refine lv_imul hx hb dX1_bound_89 ?_
      refine lv_iload_n hx hb dX1_bound_90 rfl (lv_at hl 1 rfl) ?_
      refine lv_iadd hx hb dX1_bound_91 ?_
      obtain ⟨g_13, hf⟩ := gd_inv hf
      refine w_lald hx hb hK hP (tA (aD hq)) g_13 dX1_bound_92 ?_
      obtain ⟨x8_14, ex8_14, hf⟩ := bd_inv hf
      refine w_topL ex8_14 ?_
      refine lv_lstore (lv' := [(8, .long x8_14), (0, .ref (ad q)), (1, .int x1), (2, .int x2), (3, .long x3), (7, .int x7)]) hx hb dX1_bound_93 hl (by decide) rfl (fun ls hl => ?_)
      refine lv_iconst (v := 0) hx hb dX1_bound_95 (by decide) ?_
      obtain ⟨x10_15, ex10_15, hf⟩ := bd_inv hf
      refine w_topI ex10_15 ?_
      refine lv_istore (lv' := [(10, .int x10_15), (8, .long x8_14), (0, .ref (ad q)), (1, .int x1), (2, .int x2), (3, .long x3), (7, .int x7)]) hx hb dX1_bound_96 hl (by decide) rfl (fun ls hl => ?_)
      exact j98 x1 x2 x3 x7 x8_14 k74 hk74 n S x10_15 _ _ _ hf hP hS (lv_sub hl [2, 3, 4, 5, 6, 1, 0] rfl)
  have j74 : ∀ (x1 : Int32) (x2 : Int32) (x3 : Int64) (fu : Nat), ∀ (S : St) (x7 : Int32) (H : Heap) (locs : List Loc) (ls : Array Slot), fixF (fun _ _ => none) (f_X1_bound_74 n q x1 x2 x3) fu S x7 = some (r, S2) → PW D y ad S H → va_S (AA ad) s.heap H locs → lv_has ls 13 [(0, .ref (ad q)), (1, .int x1), (2, .int x2), (3, .long x3), (7, .int x7)] → W p l e (headSpec wsX1_bound ({ frames := 1, cells := 0, slots := 0, locals := 20 })).room s m ([.ref (ad q), .int a1, .int a2, .long a3] : List Value).toArray below meth c H locs 0 0 (QI below r S2 D y ad ([.ref (ad q), .int a1, .int a2, .long a3] : List Value).toArray s) (F0 m 74 ls []) := by
    intro x1 x2 x3  fu
    induction fu with
    | zero => intro S x7 H locs ls hf hP hS hl; cases hf
    | succ fu ih => exact b74 x1 x2 x3  (fixF (fun _ _ => none) (f_X1_bound_74 n q x1 x2 x3) fu) ih
  have j71 : ∀ (S : St) (x1 : Int32) (x2 : Int32) (x3 : Int64) (H : Heap) (locs : List Loc) (ls : Array Slot), f_X1_bound_71 n q S x1 x2 x3 = some (r, S2) → PW D y ad S H → va_S (AA ad) s.heap H locs → lv_has ls 13 [(0, .ref (ad q)), (1, .int x1), (2, .int x2), (3, .long x3)] → W p l e (headSpec wsX1_bound ({ frames := 1, cells := 0, slots := 0, locals := 20 })).room s m ([.ref (ad q), .int a1, .int a2, .long a3] : List Value).toArray below meth c H locs 0 0 (QI below r S2 D y ad ([.ref (ad q), .int a1, .int a2, .long a3] : List Value).toArray s) (F0 m 71 ls []) := by
    intro  S x1 x2 x3 H locs ls hf hP hS hl
    unfold f_X1_bound_71 at hf
    refine lv_iconst (v := 0) hx hb dX1_bound_71 (by decide) ?_
    obtain ⟨x7_16, ex7_16, hf⟩ := bd_inv hf
    refine w_topI ex7_16 ?_
    refine lv_istore (lv' := [(7, .int x7_16), (0, .ref (ad q)), (1, .int x1), (2, .int x2), (3, .long x3)]) hx hb dX1_bound_72 hl (by decide) rfl (fun ls hl => ?_)
    exact j74 x1 x2 x3  n S x7_16 _ _ _ hf hP hS (lv_sub hl [1, 2, 3, 4, 0] rfl)
  unfold f_X1_bound at hf
  refine lv_iload_n hx hb dX1_bound_0 rfl (lv_at hl 1 rfl) ?_
  refine lv_if_lt (tgt := 36) hx hb dX1_bound_1 (by decide) (fun b_17 => ?_) (fun b_17 => ?_)
  · have hf := if_t b_17 hf
    refine lv_iconst (v := 1) hx hb dX1_bound_36 (by decide) ?_
    exact w_zret hx hb hr hlocks (fun h => h (by decide)) hP hS (rt_inv hf) dX1_bound_37
  · have hf := if_f b_17 hf
    refine lv_iload_n hx hb dX1_bound_4 rfl (lv_at hl 1 rfl) ?_
    refine lv_bipush (v := (10)) hx hb dX1_bound_5 (by decide) ?_
    refine lv_icmp_ge (tgt := 36) hx hb dX1_bound_7 (by decide) (fun b_18 => ?_) (fun b_18 => ?_)
    · have hf := if_t b_18 hf
      refine lv_iconst (v := 1) hx hb dX1_bound_36 (by decide) ?_
      exact w_zret hx hb hr hlocks (fun h => h (by decide)) hP hS (rt_inv hf) dX1_bound_37
    · have hf := if_f b_18 hf
      refine lv_iload_n hx hb dX1_bound_10 rfl (lv_at hl 2 rfl) ?_
      refine lv_if_lt (tgt := 36) hx hb dX1_bound_11 (by decide) (fun b_19 => ?_) (fun b_19 => ?_)
      · have hf := if_t b_19 hf
        refine lv_iconst (v := 1) hx hb dX1_bound_36 (by decide) ?_
        exact w_zret hx hb hr hlocks (fun h => h (by decide)) hP hS (rt_inv hf) dX1_bound_37
      · have hf := if_f b_19 hf
        refine lv_iload_n hx hb dX1_bound_14 rfl (lv_at hl 2 rfl) ?_
        refine lv_bipush (v := (10)) hx hb dX1_bound_15 (by decide) ?_
        refine lv_icmp_ge (tgt := 36) hx hb dX1_bound_17 (by decide) (fun b_20 => ?_) (fun b_20 => ?_)
        · have hf := if_t b_20 hf
          refine lv_iconst (v := 1) hx hb dX1_bound_36 (by decide) ?_
          exact w_zret hx hb hr hlocks (fun h => h (by decide)) hP hS (rt_inv hf) dX1_bound_37
        · have hf := if_f b_20 hf
          refine lv_aload_n hx hb dX1_bound_20 rfl (lv_at hl 0 rfl) ?_
          refine w_gR (z := (q + 25)) (C := RX1) (T := TX1) hx hb hts n1 hown hK hP (tD hq) rfl 0 (by decide) L9 rfl (rD hq) dX1_bound_21 ?_
          refine lv_iload_n hx hb dX1_bound_24 rfl (lv_at hl 1 rfl) ?_
          refine lv_bipush (v := (10)) hx hb dX1_bound_25 (by decide) ?_
          refine lv_imul hx hb dX1_bound_27 ?_
          refine lv_iload_n hx hb dX1_bound_28 rfl (lv_at hl 2 rfl) ?_
          refine lv_iadd hx hb dX1_bound_29 ?_
          obtain ⟨g_21, hf⟩ := gd_inv hf
          refine w_lald hx hb hK hP (tA (aD hq)) g_21 dX1_bound_30 ?_
          refine lv_lload_n hx hb dX1_bound_31 rfl (lv_at hl 3 rfl) ?_
          refine W.lcmp hx hb dX1_bound_32 ?_
          refine lv_if_gt (tgt := 38) hx hb dX1_bound_33 (by decide) (fun b_22 => ?_) (fun b_22 => ?_)
          · have hf := if_t b_22 hf
            refine lv_aload_n hx hb dX1_bound_38 rfl (lv_at hl 0 rfl) ?_
            refine w_gR (z := (q + 25)) (C := RX1) (T := TX1) hx hb hts n1 hown hK hP (tD hq) rfl 0 (by decide) L9 rfl (rD hq) dX1_bound_39 ?_
            refine lv_iload_n hx hb dX1_bound_42 rfl (lv_at hl 2 rfl) ?_
            refine lv_bipush (v := (10)) hx hb dX1_bound_43 (by decide) ?_
            refine lv_imul hx hb dX1_bound_45 ?_
            refine lv_iload_n hx hb dX1_bound_46 rfl (lv_at hl 1 rfl) ?_
            refine lv_iadd hx hb dX1_bound_47 ?_
            obtain ⟨g_23, hf⟩ := gd_inv hf
            refine w_lald hx hb hK hP (tA (aD hq)) g_23 dX1_bound_48 ?_
            obtain ⟨x5_24, ex5_24, hf⟩ := bd_inv hf
            refine w_topL ex5_24 ?_
            refine lv_lstore (lv' := [(5, .long x5_24), (0, .ref (ad q)), (1, .int a1), (2, .int a2), (3, .long a3)]) hx hb dX1_bound_49 hl (by decide) rfl (fun ls hl => ?_)
            refine lv_lload hx hb dX1_bound_51 (lv_at hl 0 rfl) ?_
            refine lv_ldc2 (v := (1000000000000000)) hx hb hown K15 dX1_bound_53 ?_
            refine W.lcmp hx hb dX1_bound_56 ?_
            refine lv_if_eq (tgt := 71) hx hb dX1_bound_57 (by decide) (fun b_25 => ?_) (fun b_25 => ?_)
            · have hf := if_t b_25 hf
              exact j71   S a1 a2 a3 _ _ _ hf hP hS (lv_sub hl [1, 2, 3, 4] rfl)
            · have hf := if_f b_25 hf
              refine lv_lload hx hb dX1_bound_60 (lv_at hl 0 rfl) ?_
              refine lv_lload_n hx hb dX1_bound_62 rfl (lv_at hl 4 rfl) ?_
              refine lv_ladd hx hb dX1_bound_63 ?_
              refine lv_lconst (v := 0) hx hb dX1_bound_64 (by decide) ?_
              refine W.lcmp hx hb dX1_bound_65 ?_
              refine lv_if_ge (tgt := 71) hx hb dX1_bound_66 (by decide) (fun b_26 => ?_) (fun b_26 => ?_)
              · have hf := if_t b_26 hf
                exact j71   S a1 a2 a3 _ _ _ hf hP hS (lv_sub hl [1, 2, 3, 4] rfl)
              · have hf := if_f b_26 hf
                refine lv_iconst (v := 0) hx hb dX1_bound_69 (by decide) ?_
                exact w_zret hx hb hr hlocks (fun h => h (by decide)) hP hS (rt_inv hf) dX1_bound_70
          · have hf := if_f b_22 hf
            refine lv_iconst (v := 1) hx hb dX1_bound_36 (by decide) ?_
            exact w_zret hx hb hr hlocks (fun h => h (by decide)) hP hS (rt_inv hf) dX1_bound_37
set_option maxHeartbeats 4000000 in
set_option maxRecDepth 100000 in
theorem c_X0_take (l : Launch) (D : va_G) (y : y4) (ad : Nat → Nat) (aL aU : Nat) (hI : Inj ad) (n : Nat) (q : Nat) (hq : isC q) (S : St) (q1 : Nat) (hq1 : isD q1) (a2 : Int32) (r : Int32) (S2 : St) (hf : f_X0_take n q S q1 a2 = some (r, S2)) : KI l D y ad aL aU yX0_take wsX0_take ({ frames := 2, cells := 0, slots := 0, locals := 52 }) [.ref (ad q), .ref (ad q1), .int a2] S r S2 := by
  refine Met.ofW (cc := cX0_take) (maxL := 3) (ret := (some .boolean)) (by decide) rfl ?_
  intro p e s m args below meth c s₁ B hml hv
  obtain ⟨rfl, hP, hK, hZ⟩ := hv
  have hx := B.exec
  have hb := B.bytes
  have hr := B.returns
  have hts := atoms_spec (ws := wsX0_take) B.pre
  have hown : s.vm.findClass RX0 = some m.cls := findClass_of_methodNamed B.named
  have hlocks := B.notSynchronized
  have hS : va_S (AA ad) s.heap s.heap [] := va_S.rf
  have L9 := hts (.fieldLink RX0 9 "JoinedTheories$Clause" "firstLeft" "I") (by decide +kernel)
  have L15 := hts (.fieldLink RX0 15 "JoinedTheories$Clause" "firstRight" "I") (by decide +kernel)
  have L37 := hts (.fieldLink RX0 37 "JoinedTheories$Clause" "secondLeft" "I") (by decide +kernel)
  have L40 := hts (.fieldLink RX0 40 "JoinedTheories$Clause" "secondRight" "I") (by decide +kernel)
  have L43 := hts (.fieldLink RX0 43 "JoinedTheories$Clause" "resultLeft" "I") (by decide +kernel)
  have L46 := hts (.fieldLink RX0 46 "JoinedTheories$Clause" "resultRight" "I") (by decide +kernel)
  have K55 := hts (.constantLong RX0 55 (-1)) (by decide +kernel)
  have n0 : ∀ w ∈ wsX00, w ∈ wsX0_take := by decide +kernel
  have hl := lv_entry ([.ref (ad q), .ref (ad q1), .int a2]) (n := 3) (Nat.le_of_ble_eq_true rfl)
  rw [lg_entry_eq]
  generalize (lg_sl ([.ref (ad q), .ref (ad q1), .int a2]) ++ List.replicate (3 - (lg_sl ([.ref (ad q), .ref (ad q1), .int a2])).length) Slot.unset).toArray = ls at hl ⊢
  have hl : lv_has ls 3 [(0, .ref (ad q)), (1, .ref (ad q1)), (2, .int a2)] := hl
  unfold f_X0_take at hf
  refine lv_iload_n hx hb dX0_take_0 rfl (lv_at hl 2 rfl) ?_
  by_cases b_1 : a2 = (0 : Int32)
  · have hf := if_t b_1 hf
    refine lv_tableIn (tgt := 32) hx hb dX0_take_1 (by rw [b_1]; decide) (by rw [b_1]; decide) (by rw [b_1]; rfl) (by decide) ?_
    refine lv_aload_n hx hb dX0_take_32 rfl (lv_at hl 1 rfl) ?_
    refine lv_aload_n hx hb dX0_take_33 rfl (lv_at hl 0 rfl) ?_
    refine w_gI (C := RX0) (T := TX0) hx hb hts n0 hown hK hP (tC hq) rfl 0 (by decide) L9 rfl dX0_take_34 ?_
    refine lv_aload_n hx hb dX0_take_37 rfl (lv_at hl 0 rfl) ?_
    refine w_gI (C := RX0) (T := TX0) hx hb hts n0 hown hK hP (tC hq) rfl 1 (by decide) L15 rfl dX0_take_38 ?_
    refine lv_ldc2 (v := (-1)) hx hb hown K55 dX0_take_41 ?_
    obtain ⟨r_2, S_3, hc_4, hf⟩ := bo_inv hf
    refine w_ci (va_runV (As := [.int (S.1 q 0), .int (S.1 q 1), .long (-1 : Int64)]) (rest := []) ⟨hx, hb, hml, hown, hts⟩ (c_X1_bound l D y ad aL aU hI n q1 hq1 S (S.1 q 0) (S.1 q 1) (-1 : Int64) _ _ hc_4) (cwV 3 hts gX0_take_X1_bound rfl rfl rfl (by decide +kernel) ⟨Nat.le_of_ble_eq_true rfl, Nat.le_of_ble_eq_true rfl⟩) (pwu_V (tD hq1) rfl hP hK hZ hS) rfl rfl hl.1 rfl (lv_room (Nat.le_of_ble_eq_true rfl)) dX0_take_44 ⟨Nat.zero_le _, Nat.zero_le _⟩) hS (fun H locs hP hS => ?_)
    obtain ⟨g_5, hf⟩ := gd_inv hf
    exact w_zret hx hb hr hlocks g_5 hP hS (rt_inv hf) dX0_take_47
  · have hf := if_f b_1 hf
    by_cases b_6 : a2 = (1 : Int32)
    · have hf := if_t b_6 hf
      refine lv_tableIn (tgt := 48) hx hb dX0_take_1 (by rw [b_6]; decide) (by rw [b_6]; decide) (by rw [b_6]; rfl) (by decide) ?_
      refine lv_aload_n hx hb dX0_take_48 rfl (lv_at hl 1 rfl) ?_
      refine lv_aload_n hx hb dX0_take_49 rfl (lv_at hl 0 rfl) ?_
      refine w_gI (C := RX0) (T := TX0) hx hb hts n0 hown hK hP (tC hq) rfl 1 (by decide) L15 rfl dX0_take_50 ?_
      refine lv_aload_n hx hb dX0_take_53 rfl (lv_at hl 0 rfl) ?_
      refine w_gI (C := RX0) (T := TX0) hx hb hts n0 hown hK hP (tC hq) rfl 0 (by decide) L9 rfl dX0_take_54 ?_
      refine lv_ldc2 (v := (-1)) hx hb hown K55 dX0_take_57 ?_
      obtain ⟨r_7, S_8, hc_9, hf⟩ := bo_inv hf
      refine w_ci (va_runV (As := [.int (S.1 q 1), .int (S.1 q 0), .long (-1 : Int64)]) (rest := []) ⟨hx, hb, hml, hown, hts⟩ (c_X1_bound l D y ad aL aU hI n q1 hq1 S (S.1 q 1) (S.1 q 0) (-1 : Int64) _ _ hc_9) (cwV 3 hts gX0_take_X1_bound rfl rfl rfl (by decide +kernel) ⟨Nat.le_of_ble_eq_true rfl, Nat.le_of_ble_eq_true rfl⟩) (pwu_V (tD hq1) rfl hP hK hZ hS) rfl rfl hl.1 rfl (lv_room (Nat.le_of_ble_eq_true rfl)) dX0_take_60 ⟨Nat.zero_le _, Nat.zero_le _⟩) hS (fun H locs hP hS => ?_)
      obtain ⟨g_10, hf⟩ := gd_inv hf
      exact w_zret hx hb hr hlocks g_10 hP hS (rt_inv hf) dX0_take_63
    · have hf := if_f b_6 hf
      by_cases b_11 : a2 = (2 : Int32)
      · have hf := if_t b_11 hf
        refine lv_tableIn (tgt := 64) hx hb dX0_take_1 (by rw [b_11]; decide) (by rw [b_11]; decide) (by rw [b_11]; rfl) (by decide) ?_
        refine lv_aload_n hx hb dX0_take_64 rfl (lv_at hl 1 rfl) ?_
        refine lv_aload_n hx hb dX0_take_65 rfl (lv_at hl 0 rfl) ?_
        refine w_gI (C := RX0) (T := TX0) hx hb hts n0 hown hK hP (tC hq) rfl 2 (by decide) L37 rfl dX0_take_66 ?_
        refine lv_aload_n hx hb dX0_take_69 rfl (lv_at hl 0 rfl) ?_
        refine w_gI (C := RX0) (T := TX0) hx hb hts n0 hown hK hP (tC hq) rfl 3 (by decide) L40 rfl dX0_take_70 ?_
        refine lv_ldc2 (v := (-1)) hx hb hown K55 dX0_take_73 ?_
        obtain ⟨r_12, S_13, hc_14, hf⟩ := bo_inv hf
        refine w_ci (va_runV (As := [.int (S.1 q 2), .int (S.1 q 3), .long (-1 : Int64)]) (rest := []) ⟨hx, hb, hml, hown, hts⟩ (c_X1_bound l D y ad aL aU hI n q1 hq1 S (S.1 q 2) (S.1 q 3) (-1 : Int64) _ _ hc_14) (cwV 3 hts gX0_take_X1_bound rfl rfl rfl (by decide +kernel) ⟨Nat.le_of_ble_eq_true rfl, Nat.le_of_ble_eq_true rfl⟩) (pwu_V (tD hq1) rfl hP hK hZ hS) rfl rfl hl.1 rfl (lv_room (Nat.le_of_ble_eq_true rfl)) dX0_take_76 ⟨Nat.zero_le _, Nat.zero_le _⟩) hS (fun H locs hP hS => ?_)
        obtain ⟨g_15, hf⟩ := gd_inv hf
        exact w_zret hx hb hr hlocks g_15 hP hS (rt_inv hf) dX0_take_79
      · have hf := if_f b_11 hf
        by_cases b_16 : a2 = (3 : Int32)
        · have hf := if_t b_16 hf
          refine lv_tableIn (tgt := 80) hx hb dX0_take_1 (by rw [b_16]; decide) (by rw [b_16]; decide) (by rw [b_16]; rfl) (by decide) ?_
          refine lv_aload_n hx hb dX0_take_80 rfl (lv_at hl 1 rfl) ?_
          refine lv_aload_n hx hb dX0_take_81 rfl (lv_at hl 0 rfl) ?_
          refine w_gI (C := RX0) (T := TX0) hx hb hts n0 hown hK hP (tC hq) rfl 3 (by decide) L40 rfl dX0_take_82 ?_
          refine lv_aload_n hx hb dX0_take_85 rfl (lv_at hl 0 rfl) ?_
          refine w_gI (C := RX0) (T := TX0) hx hb hts n0 hown hK hP (tC hq) rfl 2 (by decide) L37 rfl dX0_take_86 ?_
          refine lv_ldc2 (v := (-1)) hx hb hown K55 dX0_take_89 ?_
          obtain ⟨r_17, S_18, hc_19, hf⟩ := bo_inv hf
          refine w_ci (va_runV (As := [.int (S.1 q 3), .int (S.1 q 2), .long (-1 : Int64)]) (rest := []) ⟨hx, hb, hml, hown, hts⟩ (c_X1_bound l D y ad aL aU hI n q1 hq1 S (S.1 q 3) (S.1 q 2) (-1 : Int64) _ _ hc_19) (cwV 3 hts gX0_take_X1_bound rfl rfl rfl (by decide +kernel) ⟨Nat.le_of_ble_eq_true rfl, Nat.le_of_ble_eq_true rfl⟩) (pwu_V (tD hq1) rfl hP hK hZ hS) rfl rfl hl.1 rfl (lv_room (Nat.le_of_ble_eq_true rfl)) dX0_take_92 ⟨Nat.zero_le _, Nat.zero_le _⟩) hS (fun H locs hP hS => ?_)
          obtain ⟨g_20, hf⟩ := gd_inv hf
          exact w_zret hx hb hr hlocks g_20 hP hS (rt_inv hf) dX0_take_95
        · have hf := if_f b_16 hf
          refine lv_tableOut (tgt := 96) hx hb dX0_take_1 (by have i0 : (a2).toInt ≠ (0 : Int) := ne_toInt b_1; have i1 : (a2).toInt ≠ (1 : Int) := ne_toInt b_6; have i2 : (a2).toInt ≠ (2 : Int) := ne_toInt b_11; have i3 : (a2).toInt ≠ (3 : Int) := ne_toInt b_16; omega) (by decide) ?_
          refine lv_aload_n hx hb dX0_take_96 rfl (lv_at hl 1 rfl) ?_
          refine lv_aload_n hx hb dX0_take_97 rfl (lv_at hl 0 rfl) ?_
          refine w_gI (C := RX0) (T := TX0) hx hb hts n0 hown hK hP (tC hq) rfl 5 (by decide) L43 rfl dX0_take_98 ?_
          refine lv_aload_n hx hb dX0_take_101 rfl (lv_at hl 0 rfl) ?_
          refine w_gI (C := RX0) (T := TX0) hx hb hts n0 hown hK hP (tC hq) rfl 6 (by decide) L46 rfl dX0_take_102 ?_
          refine lv_lconst (v := 0) hx hb dX0_take_105 (by decide) ?_
          obtain ⟨r_21, S_22, hc_23, hf⟩ := bo_inv hf
          refine w_ci (va_runV (As := [.int (S.1 q 5), .int (S.1 q 6), .long (0 : Int64)]) (rest := []) ⟨hx, hb, hml, hown, hts⟩ (c_X1_bound l D y ad aL aU hI n q1 hq1 S (S.1 q 5) (S.1 q 6) (0 : Int64) _ _ hc_23) (cwV 3 hts gX0_take_X1_bound rfl rfl rfl (by decide +kernel) ⟨Nat.le_of_ble_eq_true rfl, Nat.le_of_ble_eq_true rfl⟩) (pwu_V (tD hq1) rfl hP hK hZ hS) rfl rfl hl.1 rfl (lv_room (Nat.le_of_ble_eq_true rfl)) dX0_take_106 ⟨Nat.zero_le _, Nat.zero_le _⟩) hS (fun H locs hP hS => ?_)
          refine lv_if_eq (tgt := 132) hx hb dX0_take_109 (by decide) (fun b_24 => ?_) (fun b_24 => ?_)
          · have hf := if_t b_24 hf
            refine lv_iconst (v := 0) hx hb dX0_take_132 (by decide) ?_
            exact w_zret hx hb hr hlocks (fun h => h (by decide)) hP hS (rt_inv hf) dX0_take_133
          · have hf := if_f b_24 hf
            refine lv_aload_n hx hb dX0_take_112 rfl (lv_at hl 1 rfl) ?_
            refine lv_aload_n hx hb dX0_take_113 rfl (lv_at hl 0 rfl) ?_
            refine w_gI (C := RX0) (T := TX0) hx hb hts n0 hown hK hP (tC hq) rfl 6 (by decide) L46 rfl dX0_take_114 ?_
            refine lv_aload_n hx hb dX0_take_117 rfl (lv_at hl 0 rfl) ?_
            refine w_gI (C := RX0) (T := TX0) hx hb hts n0 hown hK hP (tC hq) rfl 5 (by decide) L43 rfl dX0_take_118 ?_
            refine lv_lconst (v := 0) hx hb dX0_take_121 (by decide) ?_
            obtain ⟨r_25, S_26, hc_27, hf⟩ := bo_inv hf
            refine w_ci (va_runV (As := [.int (S_22.1 q 6), .int (S_22.1 q 5), .long (0 : Int64)]) (rest := []) ⟨hx, hb, hml, hown, hts⟩ (c_X1_bound l D y ad aL aU hI n q1 hq1 S_22 (S_22.1 q 6) (S_22.1 q 5) (0 : Int64) _ _ hc_27) (cwV 3 hts gX0_take_X1_bound rfl rfl rfl (by decide +kernel) ⟨Nat.le_of_ble_eq_true rfl, Nat.le_of_ble_eq_true rfl⟩) (pwu_V (tD hq1) rfl hP hK hZ hS) rfl rfl hl.1 rfl (lv_room (Nat.le_of_ble_eq_true rfl)) dX0_take_122 ⟨Nat.zero_le _, Nat.zero_le _⟩) hS (fun H locs hP hS => ?_)
            refine lv_if_eq (tgt := 132) hx hb dX0_take_125 (by decide) (fun b_28 => ?_) (fun b_28 => ?_)
            · have hf := if_t b_28 hf
              refine lv_iconst (v := 0) hx hb dX0_take_132 (by decide) ?_
              exact w_zret hx hb hr hlocks (fun h => h (by decide)) hP hS (rt_inv hf) dX0_take_133
            · have hf := if_f b_28 hf
              refine lv_iconst (v := 1) hx hb dX0_take_128 (by decide) ?_
              refine lv_goto (tgt := 133) hx hb dX0_take_129 (by decide) ?_
              exact w_zret hx hb hr hlocks (fun h => h (by decide)) hP hS (rt_inv hf) dX0_take_133
set_option maxHeartbeats 4000000 in
set_option maxRecDepth 100000 in
theorem c_J7_fill_d0a16 (l : Launch) (D : va_G) (y : y4) (ad : Nat → Nat) (aL aU : Nat) (hI : Inj ad) (n : Nat) (S : St) (q0 : Nat) (hq0 : isA q0) (a1 : Int64) (r : Unit) (S2 : St) (hf : f_J7_fill_d0a16 n S q0 a1 = some (r, S2)) : KV l D y ad aL aU yJ7_fill_d0a16 wsJ7_fill_d0a16 ({ frames := 1, cells := 0, slots := 0, locals := 20 }) [.ref (ad q0), .long a1] S r S2 := by
  refine Met.ofW (cc := cJ7_fill_d0a16) (maxL := 5) (ret := none) (by decide) rfl ?_
  intro p e s m args below meth c s₁ B hml hv
  obtain ⟨rfl, hP, hK, hZ⟩ := hv
  have hx := B.exec
  have hb := B.bytes
  have hr := B.returns
  have hts := atoms_spec (ws := wsJ7_fill_d0a16) B.pre
  have hown : s.vm.findClass RJ7 = some m.cls := findClass_of_methodNamed B.named
  have hlocks := B.notSynchronized
  have hS : va_S (AA ad) s.heap s.heap [] := va_S.rf
  have hl := lv_entry ([.ref (ad q0), .long a1]) (n := 5) (Nat.le_of_ble_eq_true rfl)
  rw [lg_entry_eq]
  generalize (lg_sl ([.ref (ad q0), .long a1]) ++ List.replicate (5 - (lg_sl ([.ref (ad q0), .long a1])).length) Slot.unset).toArray = ls at hl ⊢
  have hl : lv_has ls 5 [(0, .ref (ad q0)), (1, .long a1)] := hl
  have b6 : ∀ (x1 : Int64) (x4 : Int32) (k6 : St → Int32 → Option (Unit × St)) (hk6 : ∀ (S : St) (x3 : Int32) (H : Heap) (locs : List Loc) (ls : Array Slot), k6 S x3 = some (r, S2) → PW D y ad S H → va_S (AA ad) s.heap H locs → lv_has ls 5 [(0, .ref (ad q0)), (1, .long x1), (3, .int x3), (4, .int x4)] → W p l e (headSpec wsJ7_fill_d0a16 ({ frames := 1, cells := 0, slots := 0, locals := 20 })).room s m ([.ref (ad q0), .long a1] : List Value).toArray below meth c H locs 0 0 (QV below r S2 D y ad ([.ref (ad q0), .long a1] : List Value).toArray s) (F0 m 6 ls [])), ∀ (S : St) (x3 : Int32) (H : Heap) (locs : List Loc) (ls : Array Slot), f_J7_fill_d0a16_6 n q0 x1 x4 k6 S x3 = some (r, S2) → PW D y ad S H → va_S (AA ad) s.heap H locs → lv_has ls 5 [(0, .ref (ad q0)), (1, .long x1), (3, .int x3), (4, .int x4)] → W p l e (headSpec wsJ7_fill_d0a16 ({ frames := 1, cells := 0, slots := 0, locals := 20 })).room s m ([.ref (ad q0), .long a1] : List Value).toArray below meth c H locs 0 0 (QV below r S2 D y ad ([.ref (ad q0), .long a1] : List Value).toArray s) (F0 m 6 ls []) := by
    intro x1 x4 k6 hk6 S x3 H locs ls hf hP hS hl
    unfold f_J7_fill_d0a16_6 at hf
    refine lv_iload_n hx hb dJ7_fill_d0a16_6 rfl (lv_at hl 2 rfl) ?_
    refine lv_iload hx hb dJ7_fill_d0a16_7 (lv_at hl 3 rfl) ?_
    refine lv_icmp_ge (tgt := 22) hx hb dJ7_fill_d0a16_9 (by decide) (fun b_1 => ?_) (fun b_1 => ?_)
    · have hf := if_t b_1 hf
      exact w_vret hx hb hr hlocks hP hS (rt_inv hf) dJ7_fill_d0a16_22
    · have hf := if_f b_1 hf
      refine lv_aload_n hx hb dJ7_fill_d0a16_12 rfl (lv_at hl 0 rfl) ?_
      refine lv_iload_n hx hb dJ7_fill_d0a16_13 rfl (lv_at hl 2 rfl) ?_
      refine lv_lload_n hx hb dJ7_fill_d0a16_14 rfl (lv_at hl 1 rfl) ?_
      obtain ⟨g_2, hf⟩ := gd_inv hf
      obtain ⟨S_3, eS_3, hf⟩ := bd_inv hf
      refine w_last hx hb hK hI hP hS (tA hq0) g_2 dJ7_fill_d0a16_15 (fun H locs hP hS => ?_)
      rw [← eS_3] at hP
      obtain ⟨x3_4, ex3_4, hf⟩ := bd_inv hf
      refine lv_iinc (v := x3_4) (lv' := [(3, .int x3_4), (0, .ref (ad q0)), (1, .long x1), (4, .int x4)]) hx hb dJ7_fill_d0a16_16 hl (k := 2) rfl (by rw [ex3_4]; rfl) (by decide) rfl (fun ls hl => ?_)
      refine lv_goto (tgt := 6) hx hb dJ7_fill_d0a16_19 (by decide) ?_
      exact hk6 S_3 x3_4 _ _ _ hf hP hS (lv_sub hl [1, 2, 0, 3] rfl)
  have j6 : ∀ (x1 : Int64) (x4 : Int32) (fu : Nat), ∀ (S : St) (x3 : Int32) (H : Heap) (locs : List Loc) (ls : Array Slot), fixF (fun _ _ => none) (f_J7_fill_d0a16_6 n q0 x1 x4) fu S x3 = some (r, S2) → PW D y ad S H → va_S (AA ad) s.heap H locs → lv_has ls 5 [(0, .ref (ad q0)), (1, .long x1), (3, .int x3), (4, .int x4)] → W p l e (headSpec wsJ7_fill_d0a16 ({ frames := 1, cells := 0, slots := 0, locals := 20 })).room s m ([.ref (ad q0), .long a1] : List Value).toArray below meth c H locs 0 0 (QV below r S2 D y ad ([.ref (ad q0), .long a1] : List Value).toArray s) (F0 m 6 ls []) := by
    intro x1 x4  fu
    induction fu with
    | zero => intro S x3 H locs ls hf hP hS hl; cases hf
    | succ fu ih => exact b6 x1 x4  (fixF (fun _ _ => none) (f_J7_fill_d0a16_6 n q0 x1 x4) fu) ih
  unfold f_J7_fill_d0a16 at hf
  refine lv_iconst (v := 0) hx hb dJ7_fill_d0a16_0 (by decide) ?_
  obtain ⟨x3_5, ex3_5, hf⟩ := bd_inv hf
  refine w_topI ex3_5 ?_
  refine lv_istore_n (lv' := [(3, .int x3_5), (0, .ref (ad q0)), (1, .long a1)]) hx hb dJ7_fill_d0a16_1 rfl hl (by decide) rfl (fun ls hl => ?_)
  refine lv_aload_n hx hb dJ7_fill_d0a16_2 rfl (lv_at hl 1 rfl) ?_
  refine w_alenJ hx hb hK hP (tA hq0) dJ7_fill_d0a16_3 ?_
  obtain ⟨x4_6, ex4_6, hf⟩ := bd_inv hf
  refine w_topI ex4_6 ?_
  refine lv_istore (lv' := [(4, .int x4_6), (3, .int x3_5), (0, .ref (ad q0)), (1, .long a1)]) hx hb dJ7_fill_d0a16_4 hl (by decide) rfl (fun ls hl => ?_)
  exact j6 a1 x4_6  n S x3_5 _ _ _ hf hP hS (lv_sub hl [2, 3, 1, 0] rfl)
set_option maxHeartbeats 4000000 in
set_option maxRecDepth 100000 in
theorem c_X1_clear (l : Launch) (D : va_G) (y : y4) (ad : Nat → Nat) (aL aU : Nat) (hI : Inj ad) (n : Nat) (q : Nat) (hq : isD q) (S : St) (r : Unit) (S2 : St) (hf : f_X1_clear n q S = some (r, S2)) : KV l D y ad aL aU yX1_clear wsX1_clear ({ frames := 2, cells := 0, slots := 0, locals := 44 }) [.ref (ad q)] S r S2 := by
  refine Met.ofW (cc := cX1_clear) (maxL := 2) (ret := none) (by decide) rfl ?_
  intro p e s m args below meth c s₁ B hml hv
  obtain ⟨rfl, hP, hK, hZ⟩ := hv
  have hx := B.exec
  have hb := B.bytes
  have hr := B.returns
  have hts := atoms_spec (ws := wsX1_clear) B.pre
  have hown : s.vm.findClass RX1 = some m.cls := findClass_of_methodNamed B.named
  have hlocks := B.notSynchronized
  have hS : va_S (AA ad) s.heap s.heap [] := va_S.rf
  have L9 := hts (.fieldLink RX1 9 "JoinedTheories$Distances" "cells" "[J") (by decide +kernel)
  have K15 := hts (.constantLong RX1 15 (1000000000000000)) (by decide +kernel)
  have n1 : ∀ w ∈ wsX10, w ∈ wsX1_clear := by decide +kernel
  have hl := lv_entry ([.ref (ad q)]) (n := 2) (Nat.le_of_ble_eq_true rfl)
  rw [lg_entry_eq]
  generalize (lg_sl ([.ref (ad q)]) ++ List.replicate (2 - (lg_sl ([.ref (ad q)])).length) Slot.unset).toArray = ls at hl ⊢
  have hl : lv_has ls 2 [(0, .ref (ad q))] := hl
  have b12 : ∀ (k12 : St → Int32 → Option (Unit × St)) (hk12 : ∀ (S : St) (x1 : Int32) (H : Heap) (locs : List Loc) (ls : Array Slot), k12 S x1 = some (r, S2) → PW D y ad S H → va_S (AA ad) s.heap H locs → lv_has ls 2 [(0, .ref (ad q)), (1, .int x1)] → W p l e (headSpec wsX1_clear ({ frames := 2, cells := 0, slots := 0, locals := 44 })).room s m ([.ref (ad q)] : List Value).toArray below meth c H locs 0 0 (QV below r S2 D y ad ([.ref (ad q)] : List Value).toArray s) (F0 m 12 ls [])), ∀ (S : St) (x1 : Int32) (H : Heap) (locs : List Loc) (ls : Array Slot), f_X1_clear_12 n q k12 S x1 = some (r, S2) → PW D y ad S H → va_S (AA ad) s.heap H locs → lv_has ls 2 [(0, .ref (ad q)), (1, .int x1)] → W p l e (headSpec wsX1_clear ({ frames := 2, cells := 0, slots := 0, locals := 44 })).room s m ([.ref (ad q)] : List Value).toArray below meth c H locs 0 0 (QV below r S2 D y ad ([.ref (ad q)] : List Value).toArray s) (F0 m 12 ls []) := by
    intro  k12 hk12 S x1 H locs ls hf hP hS hl
    unfold f_X1_clear_12 at hf
    refine lv_iload_n hx hb dX1_clear_12 rfl (lv_at hl 1 rfl) ?_
    refine lv_bipush (v := (10)) hx hb dX1_clear_13 (by decide) ?_
    refine lv_icmp_ge (tgt := 36) hx hb dX1_clear_15 (by decide) (fun b_1 => ?_) (fun b_1 => ?_)
    · have hf := if_t b_1 hf
      exact w_vret hx hb hr hlocks hP hS (rt_inv hf) dX1_clear_36
    · have hf := if_f b_1 hf
      refine lv_aload_n hx hb dX1_clear_18 rfl (lv_at hl 0 rfl) ?_
      refine w_gR (z := (q + 25)) (C := RX1) (T := TX1) hx hb hts n1 hown hK hP (tD hq) rfl 0 (by decide) L9 rfl (rD hq) dX1_clear_19 ?_
      refine lv_iload_n hx hb dX1_clear_22 rfl (lv_at hl 1 rfl) ?_
      refine lv_bipush (v := (10)) hx hb dX1_clear_23 (by decide) ?_
      refine lv_imul hx hb dX1_clear_25 ?_
      refine lv_iload_n hx hb dX1_clear_26 rfl (lv_at hl 1 rfl) ?_
      refine lv_iadd hx hb dX1_clear_27 ?_
      refine lv_lconst (v := 0) hx hb dX1_clear_28 (by decide) ?_
      obtain ⟨g_2, hf⟩ := gd_inv hf
      obtain ⟨S_3, eS_3, hf⟩ := bd_inv hf
      refine w_last hx hb hK hI hP hS (tA (aD hq)) g_2 dX1_clear_29 (fun H locs hP hS => ?_)
      rw [← eS_3] at hP
      obtain ⟨x1_4, ex1_4, hf⟩ := bd_inv hf
      refine lv_iinc (v := x1_4) (lv' := [(1, .int x1_4), (0, .ref (ad q))]) hx hb dX1_clear_30 hl (k := 1) rfl (by rw [ex1_4]; rfl) (by decide) rfl (fun ls hl => ?_)
      refine lv_goto (tgt := 12) hx hb dX1_clear_33 (by decide) ?_
      exact hk12 S_3 x1_4 _ _ _ hf hP hS (lv_sub hl [1, 0] rfl)
  have j12 : ∀ (fu : Nat), ∀ (S : St) (x1 : Int32) (H : Heap) (locs : List Loc) (ls : Array Slot), fixF (fun _ _ => none) (f_X1_clear_12 n q) fu S x1 = some (r, S2) → PW D y ad S H → va_S (AA ad) s.heap H locs → lv_has ls 2 [(0, .ref (ad q)), (1, .int x1)] → W p l e (headSpec wsX1_clear ({ frames := 2, cells := 0, slots := 0, locals := 44 })).room s m ([.ref (ad q)] : List Value).toArray below meth c H locs 0 0 (QV below r S2 D y ad ([.ref (ad q)] : List Value).toArray s) (F0 m 12 ls []) := by
    intro   fu
    induction fu with
    | zero => intro S x1 H locs ls hf hP hS hl; cases hf
    | succ fu ih => exact b12   (fixF (fun _ _ => none) (f_X1_clear_12 n q) fu) ih
  unfold f_X1_clear at hf
  refine lv_aload_n hx hb dX1_clear_0 rfl (lv_at hl 0 rfl) ?_
  refine w_gR (z := (q + 25)) (C := RX1) (T := TX1) hx hb hts n1 hown hK hP (tD hq) rfl 0 (by decide) L9 rfl (rD hq) dX1_clear_1 ?_
  refine lv_ldc2 (v := (1000000000000000)) hx hb hown K15 dX1_clear_4 ?_
  obtain ⟨r_5, S_6, hc_7, hf⟩ := bo_inv hf
  refine w_cv (va_runS (As := [.ref (ad (q + 25)), .long (1000000000000000 : Int64)]) (rest := []) ⟨hx, hb, hml, hown, hts⟩ (c_J7_fill_d0a16 l D y ad aL aU hI n S (q + 25) (aD hq) (1000000000000000 : Int64) _ _ hc_7) (va_cwS 2 hts gX1_clear_J7_fill_d0a16 rfl rfl rfl (by decide +kernel) ⟨Nat.le_of_ble_eq_true rfl, Nat.le_of_ble_eq_true rfl⟩) (pwu_S hP hK hZ hS) rfl rfl hl.1 rfl (lv_room (Nat.le_of_ble_eq_true rfl)) dX1_clear_7 ⟨Nat.zero_le _, Nat.zero_le _⟩) hS (fun H locs hP hS => ?_)
  refine lv_iconst (v := 0) hx hb dX1_clear_10 (by decide) ?_
  obtain ⟨x1_8, ex1_8, hf⟩ := bd_inv hf
  refine w_topI ex1_8 ?_
  refine lv_istore_n (lv' := [(1, .int x1_8), (0, .ref (ad q))]) hx hb dX1_clear_11 rfl hl (by decide) rfl (fun ls hl => ?_)
  exact j12   n S_6 x1_8 _ _ _ hf hP hS (lv_sub hl [1, 0] rfl)
set_option maxHeartbeats 4000000 in
set_option maxRecDepth 100000 in
theorem c_X1_copyFrom (l : Launch) (D : va_G) (y : y4) (ad : Nat → Nat) (aL aU : Nat) (hI : Inj ad) (n : Nat) (q : Nat) (hq : isD q) (S : St) (q1 : Nat) (hq1 : isD q1) (r : Unit) (S2 : St) (hf : f_X1_copyFrom n q S q1 = some (r, S2)) : KV l D y ad aL aU yX1_copyFrom wsX1_copyFrom ({ frames := 1, cells := 0, slots := 0, locals := 80 }) [.ref (ad q), .ref (ad q1)] S r S2 := by
  refine Met.ofW (cc := cX1_copyFrom) (maxL := 2) (ret := none) (by decide) rfl ?_
  intro p e s m args below meth c s₁ B hml hv
  obtain ⟨rfl, hP, hK, hZ⟩ := hv
  have hx := B.exec
  have hb := B.bytes
  have hr := B.returns
  have hts := atoms_spec (ws := wsX1_copyFrom) B.pre
  have hown : s.vm.findClass RX1 = some m.cls := findClass_of_methodNamed B.named
  have hlocks := B.notSynchronized
  have hS : va_S (AA ad) s.heap s.heap [] := va_S.rf
  have L9 := hts (.fieldLink RX1 9 "JoinedTheories$Distances" "cells" "[J") (by decide +kernel)
  have n1 : ∀ w ∈ wsX10, w ∈ wsX1_copyFrom := by decide +kernel
  have hl := lv_entry ([.ref (ad q), .ref (ad q1)]) (n := 2) (Nat.le_of_ble_eq_true rfl)
  rw [lg_entry_eq]
  generalize (lg_sl ([.ref (ad q), .ref (ad q1)]) ++ List.replicate (2 - (lg_sl ([.ref (ad q), .ref (ad q1)])).length) Slot.unset).toArray = ls at hl ⊢
  have hl : lv_has ls 2 [(0, .ref (ad q)), (1, .ref (ad q1))] := hl
  unfold f_X1_copyFrom at hf
  refine lv_aload_n hx hb dX1_copyFrom_0 rfl (lv_at hl 1 rfl) ?_
  refine w_gR (z := (q1 + 25)) (C := RX1) (T := TX1) hx hb hts n1 hown hK hP (tD hq1) rfl 0 (by decide) L9 rfl (rD hq1) dX1_copyFrom_1 ?_
  refine lv_iconst (v := 0) hx hb dX1_copyFrom_4 (by decide) ?_
  refine lv_aload_n hx hb dX1_copyFrom_5 rfl (lv_at hl 0 rfl) ?_
  refine w_gR (z := (q + 25)) (C := RX1) (T := TX1) hx hb hts n1 hown hK hP (tD hq) rfl 0 (by decide) L9 rfl (rD hq) dX1_copyFrom_6 ?_
  refine lv_iconst (v := 0) hx hb dX1_copyFrom_9 (by decide) ?_
  refine lv_bipush (v := (100)) hx hb dX1_copyFrom_10 (by decide) ?_
  obtain ⟨S_1, eS_1, hf⟩ := bd_inv hf
  refine w_copy hx hb (hml.trans hl.1.symm) hown (hts (.methodLink RX1 23 arraycopyName) (by decide +kernel)) (hts (.native arraycopyName) (by decide +kernel)) (hts (.static arraycopyName) (by decide +kernel)) (hts (.initialized "java/lang/System") (by decide +kernel)) hK hI hP hS (tA (aD hq1)) (tA (aD hq)) (Nat.le_of_ble_eq_true rfl) (by decide) dX1_copyFrom_12 (fun H locs hP hS => ?_)
  rw [← eS_1] at hP
  exact w_vret hx hb hr hlocks hP hS (rt_inv hf) dX1_copyFrom_15
set_option maxHeartbeats 4000000 in
set_option maxRecDepth 100000 in
theorem c_X1_areEqual (l : Launch) (D : va_G) (y : y4) (ad : Nat → Nat) (aL aU : Nat) (hI : Inj ad) (n : Nat) (q : Nat) (hq : isD q) (S : St) (a1 : Int32) (a2 : Int32) (r : Int32) (S2 : St) (hf : f_X1_areEqual n q S a1 a2 = some (r, S2)) : KI l D y ad aL aU yX1_areEqual wsX1_areEqual ({ frames := 2, cells := 0, slots := 0, locals := 42 }) [.ref (ad q), .int a1, .int a2] S r S2 := by
  refine Met.ofW (cc := cX1_areEqual) (maxL := 3) (ret := (some .boolean)) (by decide) rfl ?_
  intro p e s m args below meth c s₁ B hml hv
  obtain ⟨rfl, hP, hK, hZ⟩ := hv
  have hx := B.exec
  have hb := B.bytes
  have hr := B.returns
  have hts := atoms_spec (ws := wsX1_areEqual) B.pre
  have hown : s.vm.findClass RX1 = some m.cls := findClass_of_methodNamed B.named
  have hlocks := B.notSynchronized
  have hS : va_S (AA ad) s.heap s.heap [] := va_S.rf
  have hl := lv_entry ([.ref (ad q), .int a1, .int a2]) (n := 3) (Nat.le_of_ble_eq_true rfl)
  rw [lg_entry_eq]
  generalize (lg_sl ([.ref (ad q), .int a1, .int a2]) ++ List.replicate (3 - (lg_sl ([.ref (ad q), .int a1, .int a2])).length) Slot.unset).toArray = ls at hl ⊢
  have hl : lv_has ls 3 [(0, .ref (ad q)), (1, .int a1), (2, .int a2)] := hl
  unfold f_X1_areEqual at hf
  refine lv_aload_n hx hb dX1_areEqual_0 rfl (lv_at hl 0 rfl) ?_
  refine lv_iload_n hx hb dX1_areEqual_1 rfl (lv_at hl 1 rfl) ?_
  refine lv_iload_n hx hb dX1_areEqual_2 rfl (lv_at hl 2 rfl) ?_
  obtain ⟨r_1, S_2, hc_3, hf⟩ := bo_inv hf
  refine w_cl (va_runV (As := [.int a1, .int a2]) (rest := []) ⟨hx, hb, hml, hown, hts⟩ (c_X1_between l D y ad aL aU hI n q hq S a1 a2 _ _ hc_3) (cwV 2 hts gX1_areEqual_X1_between rfl rfl rfl (by decide +kernel) ⟨Nat.le_of_ble_eq_true rfl, Nat.le_of_ble_eq_true rfl⟩) (pwu_V (tD hq) rfl hP hK hZ hS) rfl rfl hl.1 rfl (lv_room (Nat.le_of_ble_eq_true rfl)) dX1_areEqual_3 ⟨Nat.zero_le _, Nat.zero_le _⟩) hS (fun H locs hP hS => ?_)
  refine lv_lconst (v := 0) hx hb dX1_areEqual_6 (by decide) ?_
  refine W.lcmp hx hb dX1_areEqual_7 ?_
  refine lv_if_ne (tgt := 26) hx hb dX1_areEqual_8 (by decide) (fun b_4 => ?_) (fun b_4 => ?_)
  · have hf := if_f b_4 hf
    refine lv_iconst (v := 0) hx hb dX1_areEqual_26 (by decide) ?_
    exact w_zret hx hb hr hlocks (fun h => h (by decide)) hP hS (rt_inv hf) dX1_areEqual_27
  · have hf := if_t b_4 hf
    refine lv_aload_n hx hb dX1_areEqual_11 rfl (lv_at hl 0 rfl) ?_
    refine lv_iload_n hx hb dX1_areEqual_12 rfl (lv_at hl 2 rfl) ?_
    refine lv_iload_n hx hb dX1_areEqual_13 rfl (lv_at hl 1 rfl) ?_
    obtain ⟨r_5, S_6, hc_7, hf⟩ := bo_inv hf
    refine w_cl (va_runV (As := [.int a2, .int a1]) (rest := []) ⟨hx, hb, hml, hown, hts⟩ (c_X1_between l D y ad aL aU hI n q hq S_2 a2 a1 _ _ hc_7) (cwV 2 hts gX1_areEqual_X1_between rfl rfl rfl (by decide +kernel) ⟨Nat.le_of_ble_eq_true rfl, Nat.le_of_ble_eq_true rfl⟩) (pwu_V (tD hq) rfl hP hK hZ hS) rfl rfl hl.1 rfl (lv_room (Nat.le_of_ble_eq_true rfl)) dX1_areEqual_14 ⟨Nat.zero_le _, Nat.zero_le _⟩) hS (fun H locs hP hS => ?_)
    refine lv_lconst (v := 0) hx hb dX1_areEqual_17 (by decide) ?_
    refine W.lcmp hx hb dX1_areEqual_18 ?_
    refine lv_if_ne (tgt := 26) hx hb dX1_areEqual_19 (by decide) (fun b_8 => ?_) (fun b_8 => ?_)
    · have hf := if_f b_8 hf
      refine lv_iconst (v := 0) hx hb dX1_areEqual_26 (by decide) ?_
      exact w_zret hx hb hr hlocks (fun h => h (by decide)) hP hS (rt_inv hf) dX1_areEqual_27
    · have hf := if_t b_8 hf
      refine lv_iconst (v := 1) hx hb dX1_areEqual_22 (by decide) ?_
      refine lv_goto (tgt := 27) hx hb dX1_areEqual_23 (by decide) ?_
      exact w_zret hx hb hr hlocks (fun h => h (by decide)) hP hS (rt_inv hf) dX1_areEqual_27
set_option maxHeartbeats 4000000 in
set_option maxRecDepth 100000 in
theorem c_X1_equate (l : Launch) (D : va_G) (y : y4) (ad : Nat → Nat) (aL aU : Nat) (hI : Inj ad) (n : Nat) (q : Nat) (hq : isD q) (S : St) (a1 : Int32) (a2 : Int32) (r : Int32) (S2 : St) (hf : f_X1_equate n q S a1 a2 = some (r, S2)) : KI l D y ad aL aU yX1_equate wsX1_equate ({ frames := 2, cells := 0, slots := 0, locals := 52 }) [.ref (ad q), .int a1, .int a2] S r S2 := by
  refine Met.ofW (cc := cX1_equate) (maxL := 3) (ret := (some .boolean)) (by decide) rfl ?_
  intro p e s m args below meth c s₁ B hml hv
  obtain ⟨rfl, hP, hK, hZ⟩ := hv
  have hx := B.exec
  have hb := B.bytes
  have hr := B.returns
  have hts := atoms_spec (ws := wsX1_equate) B.pre
  have hown : s.vm.findClass RX1 = some m.cls := findClass_of_methodNamed B.named
  have hlocks := B.notSynchronized
  have hS : va_S (AA ad) s.heap s.heap [] := va_S.rf
  have hl := lv_entry ([.ref (ad q), .int a1, .int a2]) (n := 3) (Nat.le_of_ble_eq_true rfl)
  rw [lg_entry_eq]
  generalize (lg_sl ([.ref (ad q), .int a1, .int a2]) ++ List.replicate (3 - (lg_sl ([.ref (ad q), .int a1, .int a2])).length) Slot.unset).toArray = ls at hl ⊢
  have hl : lv_has ls 3 [(0, .ref (ad q)), (1, .int a1), (2, .int a2)] := hl
  unfold f_X1_equate at hf
  refine lv_aload_n hx hb dX1_equate_0 rfl (lv_at hl 0 rfl) ?_
  refine lv_iload_n hx hb dX1_equate_1 rfl (lv_at hl 1 rfl) ?_
  refine lv_iload_n hx hb dX1_equate_2 rfl (lv_at hl 2 rfl) ?_
  refine lv_lconst (v := 0) hx hb dX1_equate_3 (by decide) ?_
  obtain ⟨r_1, S_2, hc_3, hf⟩ := bo_inv hf
  refine w_ci (va_runV (As := [.int a1, .int a2, .long (0 : Int64)]) (rest := []) ⟨hx, hb, hml, hown, hts⟩ (c_X1_bound l D y ad aL aU hI n q hq S a1 a2 (0 : Int64) _ _ hc_3) (cwV 3 hts gX1_equate_X1_bound rfl rfl rfl (by decide +kernel) ⟨Nat.le_of_ble_eq_true rfl, Nat.le_of_ble_eq_true rfl⟩) (pwu_V (tD hq) rfl hP hK hZ hS) rfl rfl hl.1 rfl (lv_room (Nat.le_of_ble_eq_true rfl)) dX1_equate_4 ⟨Nat.zero_le _, Nat.zero_le _⟩) hS (fun H locs hP hS => ?_)
  refine lv_if_eq (tgt := 24) hx hb dX1_equate_7 (by decide) (fun b_4 => ?_) (fun b_4 => ?_)
  · have hf := if_t b_4 hf
    refine lv_iconst (v := 0) hx hb dX1_equate_24 (by decide) ?_
    exact w_zret hx hb hr hlocks (fun h => h (by decide)) hP hS (rt_inv hf) dX1_equate_25
  · have hf := if_f b_4 hf
    refine lv_aload_n hx hb dX1_equate_10 rfl (lv_at hl 0 rfl) ?_
    refine lv_iload_n hx hb dX1_equate_11 rfl (lv_at hl 2 rfl) ?_
    refine lv_iload_n hx hb dX1_equate_12 rfl (lv_at hl 1 rfl) ?_
    refine lv_lconst (v := 0) hx hb dX1_equate_13 (by decide) ?_
    obtain ⟨r_5, S_6, hc_7, hf⟩ := bo_inv hf
    refine w_ci (va_runV (As := [.int a2, .int a1, .long (0 : Int64)]) (rest := []) ⟨hx, hb, hml, hown, hts⟩ (c_X1_bound l D y ad aL aU hI n q hq S_2 a2 a1 (0 : Int64) _ _ hc_7) (cwV 3 hts gX1_equate_X1_bound rfl rfl rfl (by decide +kernel) ⟨Nat.le_of_ble_eq_true rfl, Nat.le_of_ble_eq_true rfl⟩) (pwu_V (tD hq) rfl hP hK hZ hS) rfl rfl hl.1 rfl (lv_room (Nat.le_of_ble_eq_true rfl)) dX1_equate_14 ⟨Nat.zero_le _, Nat.zero_le _⟩) hS (fun H locs hP hS => ?_)
    refine lv_if_eq (tgt := 24) hx hb dX1_equate_17 (by decide) (fun b_8 => ?_) (fun b_8 => ?_)
    · have hf := if_t b_8 hf
      refine lv_iconst (v := 0) hx hb dX1_equate_24 (by decide) ?_
      exact w_zret hx hb hr hlocks (fun h => h (by decide)) hP hS (rt_inv hf) dX1_equate_25
    · have hf := if_f b_8 hf
      refine lv_iconst (v := 1) hx hb dX1_equate_20 (by decide) ?_
      refine lv_goto (tgt := 25) hx hb dX1_equate_21 (by decide) ?_
      exact w_zret hx hb hr hlocks (fun h => h (by decide)) hP hS (rt_inv hf) dX1_equate_25
set_option maxHeartbeats 4000000 in
set_option maxRecDepth 100000 in
theorem c_X2_rounds (l : Launch) (D : va_G) (y : y4) (ad : Nat → Nat) (aL aU : Nat) (hI : Inj ad) (n : Nat) (S : St) (r : Int32) (S2 : St) (hf : f_X2_rounds n S = some (r, S2)) : KI l D y ad aL aU yX2_rounds wsX2_rounds ({ frames := 1, cells := 0, slots := 0, locals := 20 }) [.ref (ad 21)] S r S2 := by
  refine Met.ofW (cc := cX2_rounds) (maxL := 1) (ret := (some .int)) (by decide) rfl ?_
  intro p e s m args below meth c s₁ B hml hv
  obtain ⟨rfl, hP, hK, hZ⟩ := hv
  have hx := B.exec
  have hb := B.bytes
  have hr := B.returns
  have hts := atoms_spec (ws := wsX2_rounds) B.pre
  have hown : s.vm.findClass RX2 = some m.cls := findClass_of_methodNamed B.named
  have hlocks := B.notSynchronized
  have hS : va_S (AA ad) s.heap s.heap [] := va_S.rf
  have L30 := hts (.fieldLink RX2 30 "JoinedTheories$Exchanger" "rounds" "I") (by decide +kernel)
  have n2 : ∀ w ∈ wsX20, w ∈ wsX2_rounds := by decide +kernel
  have hl := lv_entry ([.ref (ad 21)]) (n := 1) (Nat.le_of_ble_eq_true rfl)
  rw [lg_entry_eq]
  generalize (lg_sl ([.ref (ad 21)]) ++ List.replicate (1 - (lg_sl ([.ref (ad 21)])).length) Slot.unset).toArray = ls at hl ⊢
  have hl : lv_has ls 1 [(0, .ref (ad 21))] := hl
  unfold f_X2_rounds at hf
  refine lv_aload_n hx hb dX2_rounds_0 rfl (lv_at hl 0 rfl) ?_
  refine w_gI (C := RX2) (T := TX2) hx hb hts n2 hown hK hP t_21 rfl 4 (by decide) L30 rfl dX2_rounds_1 ?_
  exact w_iret hx hb hr hlocks hP hS (rt_inv hf) dX2_rounds_4
set_option maxHeartbeats 4000000 in
set_option maxRecDepth 100000 in
theorem c_X2_hasConflict (l : Launch) (D : va_G) (y : y4) (ad : Nat → Nat) (aL aU : Nat) (hI : Inj ad) (n : Nat) (S : St) (r : Int32) (S2 : St) (hf : f_X2_hasConflict n S = some (r, S2)) : KI l D y ad aL aU yX2_hasConflict wsX2_hasConflict ({ frames := 1, cells := 0, slots := 0, locals := 20 }) [.ref (ad 21)] S r S2 := by
  refine Met.ofW (cc := cX2_hasConflict) (maxL := 1) (ret := (some .boolean)) (by decide) rfl ?_
  intro p e s m args below meth c s₁ B hml hv
  obtain ⟨rfl, hP, hK, hZ⟩ := hv
  have hx := B.exec
  have hb := B.bytes
  have hr := B.returns
  have hts := atoms_spec (ws := wsX2_hasConflict) B.pre
  have hown : s.vm.findClass RX2 = some m.cls := findClass_of_methodNamed B.named
  have hlocks := B.notSynchronized
  have hS : va_S (AA ad) s.heap s.heap [] := va_S.rf
  have L34 := hts (.fieldLink RX2 34 "JoinedTheories$Exchanger" "conflict" "Z") (by decide +kernel)
  have n2 : ∀ w ∈ wsX20, w ∈ wsX2_hasConflict := by decide +kernel
  have hl := lv_entry ([.ref (ad 21)]) (n := 1) (Nat.le_of_ble_eq_true rfl)
  rw [lg_entry_eq]
  generalize (lg_sl ([.ref (ad 21)]) ++ List.replicate (1 - (lg_sl ([.ref (ad 21)])).length) Slot.unset).toArray = ls at hl ⊢
  have hl : lv_has ls 1 [(0, .ref (ad 21))] := hl
  unfold f_X2_hasConflict at hf
  refine lv_aload_n hx hb dX2_hasConflict_0 rfl (lv_at hl 0 rfl) ?_
  refine w_gI (C := RX2) (T := TX2) hx hb hts n2 hown hK hP t_21 rfl 5 (by decide) L34 rfl dX2_hasConflict_1 ?_
  obtain ⟨g_1, hf⟩ := gd_inv hf
  exact w_zret hx hb hr hlocks g_1 hP hS (rt_inv hf) dX2_hasConflict_4
set_option maxHeartbeats 4000000 in
set_option maxRecDepth 100000 in
theorem c_X2_distance (l : Launch) (D : va_G) (y : y4) (ad : Nat → Nat) (aL aU : Nat) (hI : Inj ad) (n : Nat) (S : St) (a1 : Int32) (a2 : Int32) (r : Int64) (S2 : St) (hf : f_X2_distance n S a1 a2 = some (r, S2)) : KL l D y ad aL aU yX2_distance wsX2_distance ({ frames := 2, cells := 0, slots := 0, locals := 42 }) [.ref (ad 21), .int a1, .int a2] S r S2 := by
  refine Met.ofW (cc := cX2_distance) (maxL := 3) (ret := (some .long)) (by decide) rfl ?_
  intro p e s m args below meth c s₁ B hml hv
  obtain ⟨rfl, hP, hK, hZ⟩ := hv
  have hx := B.exec
  have hb := B.bytes
  have hr := B.returns
  have hts := atoms_spec (ws := wsX2_distance) B.pre
  have hown : s.vm.findClass RX2 = some m.cls := findClass_of_methodNamed B.named
  have hlocks := B.notSynchronized
  have hS : va_S (AA ad) s.heap s.heap [] := va_S.rf
  have L12 := hts (.fieldLink RX2 12 "JoinedTheories$Exchanger" "distances" "LJoinedTheories$Distances;") (by decide +kernel)
  have n2 : ∀ w ∈ wsX20, w ∈ wsX2_distance := by decide +kernel
  have hl := lv_entry ([.ref (ad 21), .int a1, .int a2]) (n := 3) (Nat.le_of_ble_eq_true rfl)
  rw [lg_entry_eq]
  generalize (lg_sl ([.ref (ad 21), .int a1, .int a2]) ++ List.replicate (3 - (lg_sl ([.ref (ad 21), .int a1, .int a2])).length) Slot.unset).toArray = ls at hl ⊢
  have hl : lv_has ls 3 [(0, .ref (ad 21)), (1, .int a1), (2, .int a2)] := hl
  unfold f_X2_distance at hf
  refine lv_aload_n hx hb dX2_distance_0 rfl (lv_at hl 0 rfl) ?_
  refine w_gR (z := 96) (C := RX2) (T := TX2) hx hb hts n2 hown hK hP t_21 rfl 2 (by decide) L12 rfl rfl dX2_distance_1 ?_
  refine lv_iload_n hx hb dX2_distance_4 rfl (lv_at hl 1 rfl) ?_
  refine lv_iload_n hx hb dX2_distance_5 rfl (lv_at hl 2 rfl) ?_
  obtain ⟨r_1, S_2, hc_3, hf⟩ := bo_inv hf
  refine w_cl (va_runV (As := [.int a1, .int a2]) (rest := []) ⟨hx, hb, hml, hown, hts⟩ (c_X1_between l D y ad aL aU hI n 96 isD96 S a1 a2 _ _ hc_3) (cwV 2 hts gX2_distance_X1_between rfl rfl rfl (by decide +kernel) ⟨Nat.le_of_ble_eq_true rfl, Nat.le_of_ble_eq_true rfl⟩) (pwu_V t_96 rfl hP hK hZ hS) rfl rfl hl.1 rfl (lv_room (Nat.le_of_ble_eq_true rfl)) dX2_distance_6 ⟨Nat.zero_le _, Nat.zero_le _⟩) hS (fun H locs hP hS => ?_)
  exact w_lret hx hb hr hlocks hP hS (rt_inv hf) dX2_distance_9
set_option maxHeartbeats 4000000 in
set_option maxRecDepth 100000 in
theorem c_X2_smallestSame (l : Launch) (D : va_G) (y : y4) (ad : Nat → Nat) (aL aU : Nat) (hI : Inj ad) (n : Nat) (S : St) (a1 : Int32) (r : Int32) (S2 : St) (hf : f_X2_smallestSame n S a1 = some (r, S2)) : KI l D y ad aL aU yX2_smallestSame wsX2_smallestSame ({ frames := 1, cells := 0, slots := 0, locals := 20 }) [.ref (ad 21), .int a1] S r S2 := by
  refine Met.ofW (cc := cX2_smallestSame) (maxL := 2) (ret := (some .int)) (by decide) rfl ?_
  intro p e s m args below meth c s₁ B hml hv
  obtain ⟨rfl, hP, hK, hZ⟩ := hv
  have hx := B.exec
  have hb := B.bytes
  have hr := B.returns
  have hts := atoms_spec (ws := wsX2_smallestSame) B.pre
  have hown : s.vm.findClass RX2 = some m.cls := findClass_of_methodNamed B.named
  have hlocks := B.notSynchronized
  have hS : va_S (AA ad) s.heap s.heap [] := va_S.rf
  have L18 := hts (.fieldLink RX2 18 "JoinedTheories$Exchanger" "smallest" "[I") (by decide +kernel)
  have K42 := hts (.constant RX2 42 (-2000000001)) (by decide +kernel)
  have n2 : ∀ w ∈ wsX20, w ∈ wsX2_smallestSame := by decide +kernel
  have hl := lv_entry ([.ref (ad 21), .int a1]) (n := 2) (Nat.le_of_ble_eq_true rfl)
  rw [lg_entry_eq]
  generalize (lg_sl ([.ref (ad 21), .int a1]) ++ List.replicate (2 - (lg_sl ([.ref (ad 21), .int a1])).length) Slot.unset).toArray = ls at hl ⊢
  have hl : lv_has ls 2 [(0, .ref (ad 21)), (1, .int a1)] := hl
  unfold f_X2_smallestSame at hf
  refine lv_iload_n hx hb dX2_smallestSame_0 rfl (lv_at hl 1 rfl) ?_
  refine lv_if_lt (tgt := 19) hx hb dX2_smallestSame_1 (by decide) (fun b_1 => ?_) (fun b_1 => ?_)
  · have hf := if_t b_1 hf
    refine lv_ldc (v := (-2000000001)) hx hb hown K42 dX2_smallestSame_19 ?_
    exact w_iret hx hb hr hlocks hP hS (rt_inv hf) dX2_smallestSame_21
  · have hf := if_f b_1 hf
    refine lv_iload_n hx hb dX2_smallestSame_4 rfl (lv_at hl 1 rfl) ?_
    refine lv_bipush (v := (10)) hx hb dX2_smallestSame_5 (by decide) ?_
    refine lv_icmp_ge (tgt := 19) hx hb dX2_smallestSame_7 (by decide) (fun b_2 => ?_) (fun b_2 => ?_)
    · have hf := if_t b_2 hf
      refine lv_ldc (v := (-2000000001)) hx hb hown K42 dX2_smallestSame_19 ?_
      exact w_iret hx hb hr hlocks hP hS (rt_inv hf) dX2_smallestSame_21
    · have hf := if_f b_2 hf
      refine lv_aload_n hx hb dX2_smallestSame_10 rfl (lv_at hl 0 rfl) ?_
      refine w_gR (z := 22) (C := RX2) (T := TX2) hx hb hts n2 hown hK hP t_21 rfl 3 (by decide) L18 rfl rfl dX2_smallestSame_11 ?_
      refine lv_iload_n hx hb dX2_smallestSame_14 rfl (lv_at hl 1 rfl) ?_
      obtain ⟨g_3, hf⟩ := gd_inv hf
      refine w_iald hx hb hK hP t_22 g_3 dX2_smallestSame_15 ?_
      refine lv_goto (tgt := 21) hx hb dX2_smallestSame_16 (by decide) ?_
      exact w_iret hx hb hr hlocks hP hS (rt_inv hf) dX2_smallestSame_21
set_option maxHeartbeats 4000000 in
set_option maxRecDepth 100000 in
theorem c_X7_size (l : Launch) (D : va_G) (y : y4) (ad : Nat → Nat) (aL aU : Nat) (hI : Inj ad) (n : Nat) (q : Nat) (hq : isT q) (S : St) (r : Int32) (S2 : St) (hf : f_X7_size n q S = some (r, S2)) : KI l D y ad aL aU yX7_size wsX7_size ({ frames := 1, cells := 0, slots := 0, locals := 20 }) [.ref (ad q)] S r S2 := by
  refine Met.ofW (cc := cX7_size) (maxL := 1) (ret := (some .int)) (by decide) rfl ?_
  intro p e s m args below meth c s₁ B hml hv
  obtain ⟨rfl, hP, hK, hZ⟩ := hv
  have hx := B.exec
  have hb := B.bytes
  have hr := B.returns
  have hts := atoms_spec (ws := wsX7_size) B.pre
  have hown : s.vm.findClass RX7 = some m.cls := findClass_of_methodNamed B.named
  have hlocks := B.notSynchronized
  have hS : va_S (AA ad) s.heap s.heap [] := va_S.rf
  have L24 := hts (.fieldLink RX7 24 "JoinedTheories$Terms" "size" "I") (by decide +kernel)
  have n7 : ∀ w ∈ wsX70, w ∈ wsX7_size := by decide +kernel
  have hl := lv_entry ([.ref (ad q)]) (n := 1) (Nat.le_of_ble_eq_true rfl)
  rw [lg_entry_eq]
  generalize (lg_sl ([.ref (ad q)]) ++ List.replicate (1 - (lg_sl ([.ref (ad q)])).length) Slot.unset).toArray = ls at hl ⊢
  have hl : lv_has ls 1 [(0, .ref (ad q))] := hl
  unfold f_X7_size at hf
  refine lv_aload_n hx hb dX7_size_0 rfl (lv_at hl 0 rfl) ?_
  refine w_gI (C := RX7) (T := TX7) hx hb hts n7 hown hK hP (tT hq) rfl 4 (by decide) L24 rfl dX7_size_1 ?_
  exact w_iret hx hb hr hlocks hP hS (rt_inv hf) dX7_size_4
set_option maxHeartbeats 4000000 in
set_option maxRecDepth 100000 in
theorem c_X2_classes (l : Launch) (D : va_G) (y : y4) (ad : Nat → Nat) (aL aU : Nat) (hI : Inj ad) (n : Nat) (S : St) (r : Int32) (S2 : St) (hf : f_X2_classes n S = some (r, S2)) : KI l D y ad aL aU yX2_classes wsX2_classes ({ frames := 2, cells := 0, slots := 0, locals := 40 }) [.ref (ad 21)] S r S2 := by
  refine Met.ofW (cc := cX2_classes) (maxL := 3) (ret := (some .int)) (by decide) rfl ?_
  intro p e s m args below meth c s₁ B hml hv
  obtain ⟨rfl, hP, hK, hZ⟩ := hv
  have hx := B.exec
  have hb := B.bytes
  have hr := B.returns
  have hts := atoms_spec (ws := wsX2_classes) B.pre
  have hown : s.vm.findClass RX2 = some m.cls := findClass_of_methodNamed B.named
  have hlocks := B.notSynchronized
  have hS : va_S (AA ad) s.heap s.heap [] := va_S.rf
  have L18 := hts (.fieldLink RX2 18 "JoinedTheories$Exchanger" "smallest" "[I") (by decide +kernel)
  have L22 := hts (.fieldLink RX2 22 "JoinedTheories$Exchanger" "terms" "LJoinedTheories$Terms;") (by decide +kernel)
  have n2 : ∀ w ∈ wsX20, w ∈ wsX2_classes := by decide +kernel
  have hl := lv_entry ([.ref (ad 21)]) (n := 3) (Nat.le_of_ble_eq_true rfl)
  rw [lg_entry_eq]
  generalize (lg_sl ([.ref (ad 21)]) ++ List.replicate (3 - (lg_sl ([.ref (ad 21)])).length) Slot.unset).toArray = ls at hl ⊢
  have hl : lv_has ls 3 [(0, .ref (ad 21))] := hl
  have j34 : ∀ (k4 : St → Int32 → Int32 → Option (Int32 × St)) (hk4 : ∀ (S : St) (x1 : Int32) (x2 : Int32) (H : Heap) (locs : List Loc) (ls : Array Slot), k4 S x1 x2 = some (r, S2) → PW D y ad S H → va_S (AA ad) s.heap H locs → lv_has ls 3 [(0, .ref (ad 21)), (1, .int x1), (2, .int x2)] → W p l e (headSpec wsX2_classes ({ frames := 2, cells := 0, slots := 0, locals := 40 })).room s m ([.ref (ad 21)] : List Value).toArray below meth c H locs 0 0 (QI below r S2 D y ad ([.ref (ad 21)] : List Value).toArray s) (F0 m 4 ls [])), ∀ (S : St) (x1 : Int32) (x2 : Int32) (H : Heap) (locs : List Loc) (ls : Array Slot), f_X2_classes_34 n k4 S x1 x2 = some (r, S2) → PW D y ad S H → va_S (AA ad) s.heap H locs → lv_has ls 3 [(0, .ref (ad 21)), (1, .int x1), (2, .int x2)] → W p l e (headSpec wsX2_classes ({ frames := 2, cells := 0, slots := 0, locals := 40 })).room s m ([.ref (ad 21)] : List Value).toArray below meth c H locs 0 0 (QI below r S2 D y ad ([.ref (ad 21)] : List Value).toArray s) (F0 m 34 ls []) := by
    intro  k4 hk4 S x1 x2 H locs ls hf hP hS hl
    unfold f_X2_classes_34 at hf
    obtain ⟨x2_1, ex2_1, hf⟩ := bd_inv hf
    refine lv_iinc (v := x2_1) (lv' := [(2, .int x2_1), (0, .ref (ad 21)), (1, .int x1)]) hx hb dX2_classes_34 hl (k := 2) rfl (by rw [ex2_1]; rfl) (by decide) rfl (fun ls hl => ?_)
    refine lv_goto (tgt := 4) hx hb dX2_classes_37 (by decide) ?_
    exact hk4 S x1 x2_1 _ _ _ hf hP hS (lv_sub hl [1, 2, 0] rfl)
  have b4 : ∀ (k4 : St → Int32 → Int32 → Option (Int32 × St)) (hk4 : ∀ (S : St) (x1 : Int32) (x2 : Int32) (H : Heap) (locs : List Loc) (ls : Array Slot), k4 S x1 x2 = some (r, S2) → PW D y ad S H → va_S (AA ad) s.heap H locs → lv_has ls 3 [(0, .ref (ad 21)), (1, .int x1), (2, .int x2)] → W p l e (headSpec wsX2_classes ({ frames := 2, cells := 0, slots := 0, locals := 40 })).room s m ([.ref (ad 21)] : List Value).toArray below meth c H locs 0 0 (QI below r S2 D y ad ([.ref (ad 21)] : List Value).toArray s) (F0 m 4 ls [])), ∀ (S : St) (x1 : Int32) (x2 : Int32) (H : Heap) (locs : List Loc) (ls : Array Slot), f_X2_classes_4 n k4 S x1 x2 = some (r, S2) → PW D y ad S H → va_S (AA ad) s.heap H locs → lv_has ls 3 [(0, .ref (ad 21)), (1, .int x1), (2, .int x2)] → W p l e (headSpec wsX2_classes ({ frames := 2, cells := 0, slots := 0, locals := 40 })).room s m ([.ref (ad 21)] : List Value).toArray below meth c H locs 0 0 (QI below r S2 D y ad ([.ref (ad 21)] : List Value).toArray s) (F0 m 4 ls []) := by
    intro  k4 hk4 S x1 x2 H locs ls hf hP hS hl
    unfold f_X2_classes_4 at hf
    refine lv_iload_n hx hb dX2_classes_4 rfl (lv_at hl 2 rfl) ?_
    refine lv_aload_n hx hb dX2_classes_5 rfl (lv_at hl 0 rfl) ?_
    refine w_gR (z := 6) (C := RX2) (T := TX2) hx hb hts n2 hown hK hP t_21 rfl 0 (by decide) L22 rfl rfl dX2_classes_6 ?_
    obtain ⟨r_2, S_3, hc_4, hf⟩ := bo_inv hf
    refine w_ci (va_runV (As := []) (rest := [.int x2]) ⟨hx, hb, hml, hown, hts⟩ (c_X7_size l D y ad aL aU hI n 6 isT6 S  _ _ hc_4) (cwV 0 hts gX2_classes_X7_size rfl rfl rfl (by decide +kernel) ⟨Nat.le_of_ble_eq_true rfl, Nat.le_of_ble_eq_true rfl⟩) (pwu_V t_6 rfl hP hK hZ hS) rfl rfl hl.1 rfl (lv_room (Nat.le_of_ble_eq_true rfl)) dX2_classes_9 ⟨Nat.zero_le _, Nat.zero_le _⟩) hS (fun H locs hP hS => ?_)
    refine lv_icmp_ge (tgt := 40) hx hb dX2_classes_12 (by decide) (fun b_5 => ?_) (fun b_5 => ?_)
    · have hf := if_t b_5 hf
      refine lv_iload_n hx hb dX2_classes_40 rfl (lv_at hl 1 rfl) ?_
      exact w_iret hx hb hr hlocks hP hS (rt_inv hf) dX2_classes_41
    · have hf := if_f b_5 hf
      refine lv_iload_n hx hb dX2_classes_15 rfl (lv_at hl 2 rfl) ?_
      refine lv_bipush (v := (10)) hx hb dX2_classes_16 (by decide) ?_
      refine lv_icmp_ge (tgt := 40) hx hb dX2_classes_18 (by decide) (fun b_6 => ?_) (fun b_6 => ?_)
      · have hf := if_t b_6 hf
        refine lv_iload_n hx hb dX2_classes_40 rfl (lv_at hl 1 rfl) ?_
        exact w_iret hx hb hr hlocks hP hS (rt_inv hf) dX2_classes_41
      · have hf := if_f b_6 hf
        refine lv_aload_n hx hb dX2_classes_21 rfl (lv_at hl 0 rfl) ?_
        refine w_gR (z := 22) (C := RX2) (T := TX2) hx hb hts n2 hown hK hP t_21 rfl 3 (by decide) L18 rfl rfl dX2_classes_22 ?_
        refine lv_iload_n hx hb dX2_classes_25 rfl (lv_at hl 2 rfl) ?_
        obtain ⟨g_7, hf⟩ := gd_inv hf
        refine w_iald hx hb hK hP t_22 g_7 dX2_classes_26 ?_
        refine lv_iload_n hx hb dX2_classes_27 rfl (lv_at hl 2 rfl) ?_
        refine lv_icmp_ne (tgt := 34) hx hb dX2_classes_28 (by decide) (fun b_8 => ?_) (fun b_8 => ?_)
        · have hf := if_f b_8 hf
          exact j34  k4 hk4 S_3 x1 x2 _ _ _ hf hP hS (lv_sub hl [0, 1, 2] rfl)
        · have hf := if_t b_8 hf
          obtain ⟨x1_9, ex1_9, hf⟩ := bd_inv hf
          refine lv_iinc (v := x1_9) (lv' := [(1, .int x1_9), (0, .ref (ad 21)), (2, .int x2)]) hx hb dX2_classes_31 hl (k := 1) rfl (by rw [ex1_9]; rfl) (by decide) rfl (fun ls hl => ?_)
          exact j34  k4 hk4 S_3 x1_9 x2 _ _ _ hf hP hS (lv_sub hl [1, 0, 2] rfl)
  have j4 : ∀ (fu : Nat), ∀ (S : St) (x1 : Int32) (x2 : Int32) (H : Heap) (locs : List Loc) (ls : Array Slot), fixF (fun _ _ _ => none) (f_X2_classes_4 n) fu S x1 x2 = some (r, S2) → PW D y ad S H → va_S (AA ad) s.heap H locs → lv_has ls 3 [(0, .ref (ad 21)), (1, .int x1), (2, .int x2)] → W p l e (headSpec wsX2_classes ({ frames := 2, cells := 0, slots := 0, locals := 40 })).room s m ([.ref (ad 21)] : List Value).toArray below meth c H locs 0 0 (QI below r S2 D y ad ([.ref (ad 21)] : List Value).toArray s) (F0 m 4 ls []) := by
    intro   fu
    induction fu with
    | zero => intro S x1 x2 H locs ls hf hP hS hl; cases hf
    | succ fu ih => exact b4   (fixF (fun _ _ _ => none) (f_X2_classes_4 n) fu) ih
  unfold f_X2_classes at hf
  refine lv_iconst (v := 0) hx hb dX2_classes_0 (by decide) ?_
  obtain ⟨x1_10, ex1_10, hf⟩ := bd_inv hf
  refine w_topI ex1_10 ?_
  refine lv_istore_n (lv' := [(1, .int x1_10), (0, .ref (ad 21))]) hx hb dX2_classes_1 rfl hl (by decide) rfl (fun ls hl => ?_)
  refine lv_iconst (v := 0) hx hb dX2_classes_2 (by decide) ?_
  obtain ⟨x2_11, ex2_11, hf⟩ := bd_inv hf
  refine w_topI ex2_11 ?_
  refine lv_istore_n (lv' := [(2, .int x2_11), (1, .int x1_10), (0, .ref (ad 21))]) hx hb dX2_classes_3 rfl hl (by decide) rfl (fun ls hl => ?_)
  exact j4   n S x1_10 x2_11 _ _ _ hf hP hS (lv_sub hl [2, 1, 0] rfl)
set_option maxHeartbeats 4000000 in
set_option maxRecDepth 100000 in
theorem c_X3_size (l : Launch) (D : va_G) (y : y4) (ad : Nat → Nat) (aL aU : Nat) (hI : Inj ad) (n : Nat) (S : St) (r : Int32) (S2 : St) (hf : f_X3_size n S = some (r, S2)) : KI l D y ad aL aU yX3_size wsX3_size ({ frames := 1, cells := 0, slots := 0, locals := 20 }) [.ref (ad 16)] S r S2 := by
  refine Met.ofW (cc := cX3_size) (maxL := 1) (ret := (some .int)) (by decide) rfl ?_
  intro p e s m args below meth c s₁ B hml hv
  obtain ⟨rfl, hP, hK, hZ⟩ := hv
  have hx := B.exec
  have hb := B.bytes
  have hr := B.returns
  have hts := atoms_spec (ws := wsX3_size) B.pre
  have hown : s.vm.findClass RX3 = some m.cls := findClass_of_methodNamed B.named
  have hlocks := B.notSynchronized
  have hS : va_S (AA ad) s.heap s.heap [] := va_S.rf
  have L24 := hts (.fieldLink RX3 24 "JoinedTheories$Literals" "size" "I") (by decide +kernel)
  have n3 : ∀ w ∈ wsX30, w ∈ wsX3_size := by decide +kernel
  have hl := lv_entry ([.ref (ad 16)]) (n := 1) (Nat.le_of_ble_eq_true rfl)
  rw [lg_entry_eq]
  generalize (lg_sl ([.ref (ad 16)]) ++ List.replicate (1 - (lg_sl ([.ref (ad 16)])).length) Slot.unset).toArray = ls at hl ⊢
  have hl : lv_has ls 1 [(0, .ref (ad 16))] := hl
  unfold f_X3_size at hf
  refine lv_aload_n hx hb dX3_size_0 rfl (lv_at hl 0 rfl) ?_
  refine w_gI (C := RX3) (T := TX3) hx hb hts n3 hown hK hP t_16 rfl 4 (by decide) L24 rfl dX3_size_1 ?_
  exact w_iret hx hb hr hlocks hP hS (rt_inv hf) dX3_size_4
set_option maxHeartbeats 4000000 in
set_option maxRecDepth 100000 in
theorem c_X3_has (l : Launch) (D : va_G) (y : y4) (ad : Nat → Nat) (aL aU : Nat) (hI : Inj ad) (n : Nat) (S : St) (a1 : Int32) (r : Int32) (S2 : St) (hf : f_X3_has n S a1 = some (r, S2)) : KI l D y ad aL aU yX3_has wsX3_has ({ frames := 1, cells := 0, slots := 0, locals := 20 }) [.ref (ad 16), .int a1] S r S2 := by
  refine Met.ofW (cc := cX3_has) (maxL := 2) (ret := (some .boolean)) (by decide) rfl ?_
  intro p e s m args below meth c s₁ B hml hv
  obtain ⟨rfl, hP, hK, hZ⟩ := hv
  have hx := B.exec
  have hb := B.bytes
  have hr := B.returns
  have hts := atoms_spec (ws := wsX3_has) B.pre
  have hown : s.vm.findClass RX3 = some m.cls := findClass_of_methodNamed B.named
  have hlocks := B.notSynchronized
  have hS : va_S (AA ad) s.heap s.heap [] := va_S.rf
  have L24 := hts (.fieldLink RX3 24 "JoinedTheories$Literals" "size" "I") (by decide +kernel)
  have n3 : ∀ w ∈ wsX30, w ∈ wsX3_has := by decide +kernel
  have hl := lv_entry ([.ref (ad 16), .int a1]) (n := 2) (Nat.le_of_ble_eq_true rfl)
  rw [lg_entry_eq]
  generalize (lg_sl ([.ref (ad 16), .int a1]) ++ List.replicate (2 - (lg_sl ([.ref (ad 16), .int a1])).length) Slot.unset).toArray = ls at hl ⊢
  have hl : lv_has ls 2 [(0, .ref (ad 16)), (1, .int a1)] := hl
  unfold f_X3_has at hf
  refine lv_iload_n hx hb dX3_has_0 rfl (lv_at hl 1 rfl) ?_
  refine lv_if_lt (tgt := 22) hx hb dX3_has_1 (by decide) (fun b_1 => ?_) (fun b_1 => ?_)
  · have hf := if_t b_1 hf
    refine lv_iconst (v := 0) hx hb dX3_has_22 (by decide) ?_
    exact w_zret hx hb hr hlocks (fun h => h (by decide)) hP hS (rt_inv hf) dX3_has_23
  · have hf := if_f b_1 hf
    refine lv_iload_n hx hb dX3_has_4 rfl (lv_at hl 1 rfl) ?_
    refine lv_aload_n hx hb dX3_has_5 rfl (lv_at hl 0 rfl) ?_
    refine w_gI (C := RX3) (T := TX3) hx hb hts n3 hown hK hP t_16 rfl 4 (by decide) L24 rfl dX3_has_6 ?_
    refine lv_icmp_ge (tgt := 22) hx hb dX3_has_9 (by decide) (fun b_2 => ?_) (fun b_2 => ?_)
    · have hf := if_t b_2 hf
      refine lv_iconst (v := 0) hx hb dX3_has_22 (by decide) ?_
      exact w_zret hx hb hr hlocks (fun h => h (by decide)) hP hS (rt_inv hf) dX3_has_23
    · have hf := if_f b_2 hf
      refine lv_iload_n hx hb dX3_has_12 rfl (lv_at hl 1 rfl) ?_
      refine lv_bipush (v := (10)) hx hb dX3_has_13 (by decide) ?_
      refine lv_icmp_ge (tgt := 22) hx hb dX3_has_15 (by decide) (fun b_3 => ?_) (fun b_3 => ?_)
      · have hf := if_t b_3 hf
        refine lv_iconst (v := 0) hx hb dX3_has_22 (by decide) ?_
        exact w_zret hx hb hr hlocks (fun h => h (by decide)) hP hS (rt_inv hf) dX3_has_23
      · have hf := if_f b_3 hf
        refine lv_iconst (v := 1) hx hb dX3_has_18 (by decide) ?_
        refine lv_goto (tgt := 23) hx hb dX3_has_19 (by decide) ?_
        exact w_zret hx hb hr hlocks (fun h => h (by decide)) hP hS (rt_inv hf) dX3_has_23
