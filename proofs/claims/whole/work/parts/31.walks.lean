set_option maxHeartbeats 4000000 in
set_option maxRecDepth 100000 in
theorem c_X9_whyNow (l : Launch) (D : va_G) (y : y4) (ad : Nat → Nat) (aL aU : Nat) (hI : Inj ad) (n : Nat) (S : St) (r : Int32) (S2 : St) (hf : f_X9_whyNow n S = some (r, S2)) : KI l D y ad aL aU yX9_whyNow wsX9_whyNow ({ frames := 8, cells := 0, slots := 0, locals := 190 }) [.ref (ad 28)] S r S2 := by
  refine Met.ofW (cc := cX9_whyNow) (maxL := 3) (ret := (some .int)) (by decide) rfl ?_
  intro p e s m args below meth c s₁ B hml hv
  obtain ⟨rfl, hP, hK, hZ⟩ := hv
  have hx := B.exec
  have hb := B.bytes
  have hr := B.returns
  have hts := atoms_spec (ws := wsX9_whyNow) B.pre
  have hown : s.vm.findClass RX9 = some m.cls := findClass_of_methodNamed B.named
  have hlocks := B.notSynchronized
  have hS : va_S (AA ad) s.heap s.heap [] := va_S.rf
  have L141 := hts (.fieldLink RX9 141 "JoinedTheoriesModel" "literals" "I") (by decide +kernel)
  have n9 : ∀ w ∈ wsX90, w ∈ wsX9_whyNow := by decide +kernel
  have hl := lv_entry ([.ref (ad 28)]) (n := 3) (Nat.le_of_ble_eq_true rfl)
  rw [lg_entry_eq]
  generalize (lg_sl ([.ref (ad 28)]) ++ List.replicate (3 - (lg_sl ([.ref (ad 28)])).length) Slot.unset).toArray = ls at hl ⊢
  have hl : lv_has ls 3 [(0, .ref (ad 28))] := hl
  have j41 : ∀ (k12 : St → Int32 → Int32 → Option (Int32 × St)) (hk12 : ∀ (S : St) (x1 : Int32) (x2 : Int32) (H : Heap) (locs : List Loc) (ls : Array Slot), k12 S x1 x2 = some (r, S2) → PW D y ad S H → va_S (AA ad) s.heap H locs → lv_has ls 3 [(0, .ref (ad 28)), (1, .int x1), (2, .int x2)] → W p l e (headSpec wsX9_whyNow ({ frames := 8, cells := 0, slots := 0, locals := 190 })).room s m ([.ref (ad 28)] : List Value).toArray below meth c H locs 0 0 (QI below r S2 D y ad ([.ref (ad 28)] : List Value).toArray s) (F0 m 12 ls [])), ∀ (S : St) (x2 : Int32) (t0 : Int32) (H : Heap) (locs : List Loc) (ls : Array Slot), f_X9_whyNow_41 n k12 S x2 t0 = some (r, S2) → PW D y ad S H → va_S (AA ad) s.heap H locs → lv_has ls 3 [(0, .ref (ad 28)), (2, .int x2)] → W p l e (headSpec wsX9_whyNow ({ frames := 8, cells := 0, slots := 0, locals := 190 })).room s m ([.ref (ad 28)] : List Value).toArray below meth c H locs 0 0 (QI below r S2 D y ad ([.ref (ad 28)] : List Value).toArray s) (F0 m 41 ls [.int t0]) := by
    intro  k12 hk12 S x2 t0 H locs ls hf hP hS hl
    unfold f_X9_whyNow_41 at hf
    obtain ⟨x1_1, ex1_1, hf⟩ := bd_inv hf
    refine w_topI ex1_1 ?_
    refine lv_istore_n (lv' := [(1, .int x1_1), (0, .ref (ad 28)), (2, .int x2)]) hx hb dX9_whyNow_41 rfl hl (by decide) rfl (fun ls hl => ?_)
    obtain ⟨x2_2, ex2_2, hf⟩ := bd_inv hf
    refine lv_iinc (v := x2_2) (lv' := [(2, .int x2_2), (1, .int x1_1), (0, .ref (ad 28))]) hx hb dX9_whyNow_42 hl (k := 2) rfl (by rw [ex2_2]; rfl) (by decide) rfl (fun ls hl => ?_)
    refine lv_goto (tgt := 12) hx hb dX9_whyNow_45 (by decide) ?_
    exact hk12 S x1_1 x2_2 _ _ _ hf hP hS (lv_sub hl [2, 1, 0] rfl)
  have b12 : ∀ (k12 : St → Int32 → Int32 → Option (Int32 × St)) (hk12 : ∀ (S : St) (x1 : Int32) (x2 : Int32) (H : Heap) (locs : List Loc) (ls : Array Slot), k12 S x1 x2 = some (r, S2) → PW D y ad S H → va_S (AA ad) s.heap H locs → lv_has ls 3 [(0, .ref (ad 28)), (1, .int x1), (2, .int x2)] → W p l e (headSpec wsX9_whyNow ({ frames := 8, cells := 0, slots := 0, locals := 190 })).room s m ([.ref (ad 28)] : List Value).toArray below meth c H locs 0 0 (QI below r S2 D y ad ([.ref (ad 28)] : List Value).toArray s) (F0 m 12 ls [])), ∀ (S : St) (x1 : Int32) (x2 : Int32) (H : Heap) (locs : List Loc) (ls : Array Slot), f_X9_whyNow_12 n k12 S x1 x2 = some (r, S2) → PW D y ad S H → va_S (AA ad) s.heap H locs → lv_has ls 3 [(0, .ref (ad 28)), (1, .int x1), (2, .int x2)] → W p l e (headSpec wsX9_whyNow ({ frames := 8, cells := 0, slots := 0, locals := 190 })).room s m ([.ref (ad 28)] : List Value).toArray below meth c H locs 0 0 (QI below r S2 D y ad ([.ref (ad 28)] : List Value).toArray s) (F0 m 12 ls []) := by
    intro  k12 hk12 S x1 x2 H locs ls hf hP hS hl
    unfold f_X9_whyNow_12 at hf
    refine lv_iload_n hx hb dX9_whyNow_12 rfl (lv_at hl 2 rfl) ?_
    refine lv_if_lt (tgt := 48) hx hb dX9_whyNow_13 (by decide) (fun b_3 => ?_) (fun b_3 => ?_)
    · have hf := if_t b_3 hf
      refine lv_iload_n hx hb dX9_whyNow_48 rfl (lv_at hl 1 rfl) ?_
      exact w_iret hx hb hr hlocks hP hS (rt_inv hf) dX9_whyNow_49
    · have hf := if_f b_3 hf
      refine lv_aload_n hx hb dX9_whyNow_16 rfl (lv_at hl 0 rfl) ?_
      refine lv_iload_n hx hb dX9_whyNow_17 rfl (lv_at hl 1 rfl) ?_
      refine lv_iconst (v := 1) hx hb dX9_whyNow_18 (by decide) ?_
      refine lv_iload_n hx hb dX9_whyNow_19 rfl (lv_at hl 2 rfl) ?_
      refine lv_ishl hx hb dX9_whyNow_20 ?_
      refine lv_iconst (v := (-1)) hx hb dX9_whyNow_21 (by decide) ?_
      refine lv_ixor hx hb dX9_whyNow_22 ?_
      refine lv_iand hx hb dX9_whyNow_23 ?_
      obtain ⟨r_4, S_5, hc_6, hf⟩ := bo_inv hf
      refine w_ci (va_runV (As := [.int (x1 &&& (((1 : Int32) <<< (x2 &&& 31)) ^^^ (-1 : Int32)))]) (rest := []) ⟨hx, hb, hml, hown, hts⟩ (c_X9_holdsWith l D y ad aL aU hI n S ((x1 &&& (((1 : Int32) <<< (x2 &&& 31)) ^^^ (-1 : Int32)))) _ _ hc_6) (cwV 1 hts gX9_whyNow_X9_holdsWith rfl rfl rfl (by decide +kernel) ⟨Nat.le_of_ble_eq_true rfl, Nat.le_of_ble_eq_true rfl⟩) (pwu_V t_28 rfl hP hK hZ hS) rfl rfl hl.1 rfl (lv_room (Nat.le_of_ble_eq_true rfl)) dX9_whyNow_24 ⟨Nat.zero_le _, Nat.zero_le _⟩) hS (fun H locs hP hS => ?_)
      refine lv_if_eq (tgt := 34) hx hb dX9_whyNow_27 (by decide) (fun b_7 => ?_) (fun b_7 => ?_)
      · have hf := if_t b_7 hf
        refine lv_iload_n hx hb dX9_whyNow_34 rfl (lv_at hl 1 rfl) ?_
        refine lv_iconst (v := 1) hx hb dX9_whyNow_35 (by decide) ?_
        refine lv_iload_n hx hb dX9_whyNow_36 rfl (lv_at hl 2 rfl) ?_
        refine lv_ishl hx hb dX9_whyNow_37 ?_
        refine lv_iconst (v := (-1)) hx hb dX9_whyNow_38 (by decide) ?_
        refine lv_ixor hx hb dX9_whyNow_39 ?_
        refine lv_iand hx hb dX9_whyNow_40 ?_
        exact j41  k12 hk12 S_5 x2 ((x1 &&& (((1 : Int32) <<< (x2 &&& 31)) ^^^ (-1 : Int32)))) _ _ _ hf hP hS (lv_sub hl [0, 2] rfl)
      · have hf := if_f b_7 hf
        refine lv_iload_n hx hb dX9_whyNow_30 rfl (lv_at hl 1 rfl) ?_
        refine lv_goto (tgt := 41) hx hb dX9_whyNow_31 (by decide) ?_
        exact j41  k12 hk12 S_5 x2 x1 _ _ _ hf hP hS (lv_sub hl [0, 2] rfl)
  have j12 : ∀ (fu : Nat), ∀ (S : St) (x1 : Int32) (x2 : Int32) (H : Heap) (locs : List Loc) (ls : Array Slot), fixF (fun _ _ _ => none) (f_X9_whyNow_12 n) fu S x1 x2 = some (r, S2) → PW D y ad S H → va_S (AA ad) s.heap H locs → lv_has ls 3 [(0, .ref (ad 28)), (1, .int x1), (2, .int x2)] → W p l e (headSpec wsX9_whyNow ({ frames := 8, cells := 0, slots := 0, locals := 190 })).room s m ([.ref (ad 28)] : List Value).toArray below meth c H locs 0 0 (QI below r S2 D y ad ([.ref (ad 28)] : List Value).toArray s) (F0 m 12 ls []) := by
    intro   fu
    induction fu with
    | zero => intro S x1 x2 H locs ls hf hP hS hl; cases hf
    | succ fu ih => exact b12   (fixF (fun _ _ _ => none) (f_X9_whyNow_12 n) fu) ih
  unfold f_X9_whyNow at hf
  refine lv_aload_n hx hb dX9_whyNow_0 rfl (lv_at hl 0 rfl) ?_
  obtain ⟨r_8, S_9, hc_10, hf⟩ := bo_inv hf
  refine w_ci (va_runV (As := []) (rest := []) ⟨hx, hb, hml, hown, hts⟩ (c_X9_all l D y ad aL aU hI n S  _ _ hc_10) (cwV 0 hts gX9_whyNow_X9_all rfl rfl rfl (by decide +kernel) ⟨Nat.le_of_ble_eq_true rfl, Nat.le_of_ble_eq_true rfl⟩) (pwu_V t_28 rfl hP hK hZ hS) rfl rfl hl.1 rfl (lv_room (Nat.le_of_ble_eq_true rfl)) dX9_whyNow_1 ⟨Nat.zero_le _, Nat.zero_le _⟩) hS (fun H locs hP hS => ?_)
  obtain ⟨x1_11, ex1_11, hf⟩ := bd_inv hf
  refine w_topI ex1_11 ?_
  refine lv_istore_n (lv' := [(1, .int x1_11), (0, .ref (ad 28))]) hx hb dX9_whyNow_4 rfl hl (by decide) rfl (fun ls hl => ?_)
  refine lv_aload_n hx hb dX9_whyNow_5 rfl (lv_at hl 1 rfl) ?_
  refine w_gI (C := RX9) (T := TX9) hx hb hts n9 hown hK hP t_28 rfl 2 (by decide) L141 rfl dX9_whyNow_6 ?_
  refine lv_iconst (v := 1) hx hb dX9_whyNow_9 (by decide) ?_
  refine lv_isub hx hb dX9_whyNow_10 ?_
  obtain ⟨x2_12, ex2_12, hf⟩ := bd_inv hf
  refine w_topI ex2_12 ?_
  refine lv_istore_n (lv' := [(2, .int x2_12), (1, .int x1_11), (0, .ref (ad 28))]) hx hb dX9_whyNow_11 rfl hl (by decide) rfl (fun ls hl => ?_)
  exact j12   n S_9 x1_11 x2_12 _ _ _ hf hP hS (lv_sub hl [2, 1, 0] rfl)
set_option maxHeartbeats 4000000 in
set_option maxRecDepth 100000 in
theorem c_X9_why (l : Launch) (D : va_G) (y : y4) (ad : Nat → Nat) (aL aU : Nat) (hI : Inj ad) (n : Nat) (S : St) (r : Int32) (S2 : St) (hf : f_X9_why n S = some (r, S2)) : KI l D y ad aL aU yX9_why wsX9_why ({ frames := 9, cells := 0, slots := 0, locals := 212 }) [.ref (ad 28)] S r S2 := by
  refine Met.ofW (cc := cX9_why) (maxL := 1) (ret := (some .int)) (by decide) rfl ?_
  intro p e s m args below meth c s₁ B hml hv
  obtain ⟨rfl, hP, hK, hZ⟩ := hv
  have hx := B.exec
  have hb := B.bytes
  have hr := B.returns
  have hts := atoms_spec (ws := wsX9_why) B.pre
  have hown : s.vm.findClass RX9 = some m.cls := findClass_of_methodNamed B.named
  have hlocks := B.notSynchronized
  have hS : va_S (AA ad) s.heap s.heap [] := va_S.rf
  have K152 := hts (.constant RX9 152 (-2000000004)) (by decide +kernel)
  have hl := lv_entry ([.ref (ad 28)]) (n := 1) (Nat.le_of_ble_eq_true rfl)
  rw [lg_entry_eq]
  generalize (lg_sl ([.ref (ad 28)]) ++ List.replicate (1 - (lg_sl ([.ref (ad 28)])).length) Slot.unset).toArray = ls at hl ⊢
  have hl : lv_has ls 1 [(0, .ref (ad 28))] := hl
  unfold f_X9_why at hf
  refine lv_aload_n hx hb dX9_why_0 rfl (lv_at hl 0 rfl) ?_
  refine lv_aload_n hx hb dX9_why_1 rfl (lv_at hl 0 rfl) ?_
  obtain ⟨r_1, S_2, hc_3, hf⟩ := bo_inv hf
  refine w_ci (va_runV (As := []) (rest := [.ref (ad 28)]) ⟨hx, hb, hml, hown, hts⟩ (c_X9_all l D y ad aL aU hI n S  _ _ hc_3) (cwV 0 hts gX9_why_X9_all rfl rfl rfl (by decide +kernel) ⟨Nat.le_of_ble_eq_true rfl, Nat.le_of_ble_eq_true rfl⟩) (pwu_V t_28 rfl hP hK hZ hS) rfl rfl hl.1 rfl (lv_room (Nat.le_of_ble_eq_true rfl)) dX9_why_2 ⟨Nat.zero_le _, Nat.zero_le _⟩) hS (fun H locs hP hS => ?_)
  obtain ⟨r_4, S_5, hc_6, hf⟩ := bo_inv hf
  refine w_ci (va_runV (As := [.int r_1]) (rest := []) ⟨hx, hb, hml, hown, hts⟩ (c_X9_holdsWith l D y ad aL aU hI n S_2 r_1 _ _ hc_6) (cwV 1 hts gX9_why_X9_holdsWith rfl rfl rfl (by decide +kernel) ⟨Nat.le_of_ble_eq_true rfl, Nat.le_of_ble_eq_true rfl⟩) (pwu_V t_28 rfl hP hK hZ hS) rfl rfl hl.1 rfl (lv_room (Nat.le_of_ble_eq_true rfl)) dX9_why_5 ⟨Nat.zero_le _, Nat.zero_le _⟩) hS (fun H locs hP hS => ?_)
  refine lv_if_eq (tgt := 16) hx hb dX9_why_8 (by decide) (fun b_7 => ?_) (fun b_7 => ?_)
  · have hf := if_t b_7 hf
    refine lv_aload_n hx hb dX9_why_16 rfl (lv_at hl 0 rfl) ?_
    obtain ⟨r_8, S_9, hc_10, hf⟩ := bo_inv hf
    refine w_ci (va_runV (As := []) (rest := []) ⟨hx, hb, hml, hown, hts⟩ (c_X9_whyNow l D y ad aL aU hI n S_5  _ _ hc_10) (cwV 0 hts gX9_why_X9_whyNow rfl rfl rfl (by decide +kernel) ⟨Nat.le_of_ble_eq_true rfl, Nat.le_of_ble_eq_true rfl⟩) (pwu_V t_28 rfl hP hK hZ hS) rfl rfl hl.1 rfl (lv_room (Nat.le_of_ble_eq_true rfl)) dX9_why_17 ⟨Nat.zero_le _, Nat.zero_le _⟩) hS (fun H locs hP hS => ?_)
    exact w_iret hx hb hr hlocks hP hS (rt_inv hf) dX9_why_20
  · have hf := if_f b_7 hf
    refine lv_ldc (v := (-2000000004)) hx hb hown K152 dX9_why_11 ?_
    refine lv_goto (tgt := 20) hx hb dX9_why_13 (by decide) ?_
    exact w_iret hx hb hr hlocks hP hS (rt_inv hf) dX9_why_20
set_option maxHeartbeats 4000000 in
set_option maxRecDepth 100000 in
theorem c_X9_canBothBeUnlike (l : Launch) (D : va_G) (y : y4) (ad : Nat → Nat) (aL aU : Nat) (hI : Inj ad) (n : Nat) (S : St) (a1 : Int32) (a2 : Int32) (r : Int32) (S2 : St) (hf : f_X9_canBothBeUnlike n S a1 a2 = some (r, S2)) : KI l D y ad aL aU yX9_canBothBeUnlike wsX9_canBothBeUnlike ({ frames := 7, cells := 0, slots := 0, locals := 169 }) [.ref (ad 28), .int a1, .int a2] S r S2 := by
  refine Met.ofW (cc := cX9_canBothBeUnlike) (maxL := 3) (ret := (some .boolean)) (by decide) rfl ?_
  intro p e s m args below meth c s₁ B hml hv
  obtain ⟨rfl, hP, hK, hZ⟩ := hv
  have hx := B.exec
  have hb := B.bytes
  have hr := B.returns
  have hts := atoms_spec (ws := wsX9_canBothBeUnlike) B.pre
  have hown : s.vm.findClass RX9 = some m.cls := findClass_of_methodNamed B.named
  have hlocks := B.notSynchronized
  have hS : va_S (AA ad) s.heap s.heap [] := va_S.rf
  have L233 := hts (.fieldLink RX9 233 "JoinedTheoriesModel" "moreSort" "I") (by decide +kernel)
  have L236 := hts (.fieldLink RX9 236 "JoinedTheoriesModel" "moreLeft" "I") (by decide +kernel)
  have L239 := hts (.fieldLink RX9 239 "JoinedTheoriesModel" "moreRight" "I") (by decide +kernel)
  have L256 := hts (.fieldLink RX9 256 "JoinedTheoriesModel" "otherLeft" "I") (by decide +kernel)
  have L259 := hts (.fieldLink RX9 259 "JoinedTheoriesModel" "otherRight" "I") (by decide +kernel)
  have L271 := hts (.fieldLink RX9 271 "JoinedTheoriesModel" "isFound" "Z") (by decide +kernel)
  have n9 : ∀ w ∈ wsX90, w ∈ wsX9_canBothBeUnlike := by decide +kernel
  have hl := lv_entry ([.ref (ad 28), .int a1, .int a2]) (n := 3) (Nat.le_of_ble_eq_true rfl)
  rw [lg_entry_eq]
  generalize (lg_sl ([.ref (ad 28), .int a1, .int a2]) ++ List.replicate (3 - (lg_sl ([.ref (ad 28), .int a1, .int a2])).length) Slot.unset).toArray = ls at hl ⊢
  have hl : lv_has ls 3 [(0, .ref (ad 28)), (1, .int a1), (2, .int a2)] := hl
  unfold f_X9_canBothBeUnlike at hf
  refine lv_aload_n hx hb dX9_canBothBeUnlike_0 rfl (lv_at hl 0 rfl) ?_
  obtain ⟨r_1, S_2, hc_3, hf⟩ := bo_inv hf
  refine w_cv (va_runV (As := []) (rest := []) ⟨hx, hb, hml, hown, hts⟩ (c_X9_asksPlain l D y ad aL aU hI n S  _ _ hc_3) (cwV 0 hts gX9_canBothBeUnlike_X9_asksPlain rfl rfl rfl (by decide +kernel) ⟨Nat.le_of_ble_eq_true rfl, Nat.le_of_ble_eq_true rfl⟩) (pwu_V t_28 rfl hP hK hZ hS) rfl rfl hl.1 rfl (lv_room (Nat.le_of_ble_eq_true rfl)) dX9_canBothBeUnlike_1 ⟨Nat.zero_le _, Nat.zero_le _⟩) hS (fun H locs hP hS => ?_)
  refine lv_aload_n hx hb dX9_canBothBeUnlike_4 rfl (lv_at hl 0 rfl) ?_
  refine lv_iconst (v := 1) hx hb dX9_canBothBeUnlike_5 (by decide) ?_
  obtain ⟨S_4, eS_4, hf⟩ := bd_inv hf
  refine w_pI (ty := .int) (C := RX9) (T := TX9) hx hb hts n9 tyX9 tyX9_ok nmX9 hown hK hI hP hS t_28 rfl 32 (by decide) L233 rfl rfl rfl ⟨rfl, rfl⟩ dX9_canBothBeUnlike_6 (fun H locs hP hS => ?_)
  rw [← eS_4] at hP
  refine lv_aload_n hx hb dX9_canBothBeUnlike_9 rfl (lv_at hl 0 rfl) ?_
  refine lv_iload_n hx hb dX9_canBothBeUnlike_10 rfl (lv_at hl 1 rfl) ?_
  refine lv_bipush (v := (10)) hx hb dX9_canBothBeUnlike_11 (by decide) ?_
  refine lv_idiv hx hb dX9_canBothBeUnlike_13 (by decide) ?_
  obtain ⟨S_5, eS_5, hf⟩ := bd_inv hf
  refine w_pI (ty := .int) (C := RX9) (T := TX9) hx hb hts n9 tyX9 tyX9_ok nmX9 hown hK hI hP hS t_28 rfl 33 (by decide) L236 rfl rfl rfl ⟨rfl, rfl⟩ dX9_canBothBeUnlike_14 (fun H locs hP hS => ?_)
  rw [← eS_5] at hP
  refine lv_aload_n hx hb dX9_canBothBeUnlike_17 rfl (lv_at hl 0 rfl) ?_
  refine lv_iload_n hx hb dX9_canBothBeUnlike_18 rfl (lv_at hl 1 rfl) ?_
  refine lv_bipush (v := (10)) hx hb dX9_canBothBeUnlike_19 (by decide) ?_
  refine lv_irem hx hb dX9_canBothBeUnlike_21 (by decide) ?_
  obtain ⟨S_6, eS_6, hf⟩ := bd_inv hf
  refine w_pI (ty := .int) (C := RX9) (T := TX9) hx hb hts n9 tyX9 tyX9_ok nmX9 hown hK hI hP hS t_28 rfl 34 (by decide) L239 rfl rfl rfl ⟨rfl, rfl⟩ dX9_canBothBeUnlike_22 (fun H locs hP hS => ?_)
  rw [← eS_6] at hP
  refine lv_aload_n hx hb dX9_canBothBeUnlike_25 rfl (lv_at hl 0 rfl) ?_
  refine lv_iload_n hx hb dX9_canBothBeUnlike_26 rfl (lv_at hl 2 rfl) ?_
  refine lv_bipush (v := (10)) hx hb dX9_canBothBeUnlike_27 (by decide) ?_
  refine lv_idiv hx hb dX9_canBothBeUnlike_29 (by decide) ?_
  obtain ⟨S_7, eS_7, hf⟩ := bd_inv hf
  refine w_pI (ty := .int) (C := RX9) (T := TX9) hx hb hts n9 tyX9 tyX9_ok nmX9 hown hK hI hP hS t_28 rfl 35 (by decide) L256 rfl rfl rfl ⟨rfl, rfl⟩ dX9_canBothBeUnlike_30 (fun H locs hP hS => ?_)
  rw [← eS_7] at hP
  refine lv_aload_n hx hb dX9_canBothBeUnlike_33 rfl (lv_at hl 0 rfl) ?_
  refine lv_iload_n hx hb dX9_canBothBeUnlike_34 rfl (lv_at hl 2 rfl) ?_
  refine lv_bipush (v := (10)) hx hb dX9_canBothBeUnlike_35 (by decide) ?_
  refine lv_irem hx hb dX9_canBothBeUnlike_37 (by decide) ?_
  obtain ⟨S_8, eS_8, hf⟩ := bd_inv hf
  refine w_pI (ty := .int) (C := RX9) (T := TX9) hx hb hts n9 tyX9 tyX9_ok nmX9 hown hK hI hP hS t_28 rfl 36 (by decide) L259 rfl rfl rfl ⟨rfl, rfl⟩ dX9_canBothBeUnlike_38 (fun H locs hP hS => ?_)
  rw [← eS_8] at hP
  refine lv_aload_n hx hb dX9_canBothBeUnlike_41 rfl (lv_at hl 0 rfl) ?_
  refine lv_aload_n hx hb dX9_canBothBeUnlike_42 rfl (lv_at hl 0 rfl) ?_
  obtain ⟨r_9, S_10, hc_11, hf⟩ := bo_inv hf
  refine w_ci (va_runV (As := []) (rest := [.ref (ad 28)]) ⟨hx, hb, hml, hown, hts⟩ (c_X9_all l D y ad aL aU hI n S_8  _ _ hc_11) (cwV 0 hts gX9_canBothBeUnlike_X9_all rfl rfl rfl (by decide +kernel) ⟨Nat.le_of_ble_eq_true rfl, Nat.le_of_ble_eq_true rfl⟩) (pwu_V t_28 rfl hP hK hZ hS) rfl rfl hl.1 rfl (lv_room (Nat.le_of_ble_eq_true rfl)) dX9_canBothBeUnlike_43 ⟨Nat.zero_le _, Nat.zero_le _⟩) hS (fun H locs hP hS => ?_)
  obtain ⟨r_12, S_13, hc_14, hf⟩ := bo_inv hf
  refine w_cv (va_runV (As := [.int r_9]) (rest := []) ⟨hx, hb, hml, hown, hts⟩ (c_X9_seek l D y ad aL aU hI n S_10 r_9 _ _ hc_14) (cwV 1 hts gX9_canBothBeUnlike_X9_seek rfl rfl rfl (by decide +kernel) ⟨Nat.le_of_ble_eq_true rfl, Nat.le_of_ble_eq_true rfl⟩) (pwu_V t_28 rfl hP hK hZ hS) rfl rfl hl.1 rfl (lv_room (Nat.le_of_ble_eq_true rfl)) dX9_canBothBeUnlike_46 ⟨Nat.zero_le _, Nat.zero_le _⟩) hS (fun H locs hP hS => ?_)
  refine lv_aload_n hx hb dX9_canBothBeUnlike_49 rfl (lv_at hl 0 rfl) ?_
  refine w_gI (C := RX9) (T := TX9) hx hb hts n9 hown hK hP t_28 rfl 39 (by decide) L271 rfl dX9_canBothBeUnlike_50 ?_
  obtain ⟨g_15, hf⟩ := gd_inv hf
  exact w_zret hx hb hr hlocks g_15 hP hS (rt_inv hf) dX9_canBothBeUnlike_53
set_option maxHeartbeats 4000000 in
set_option maxRecDepth 100000 in
theorem c_X9_eitherNow (l : Launch) (D : va_G) (y : y4) (ad : Nat → Nat) (aL aU : Nat) (hI : Inj ad) (n : Nat) (S : St) (a1 : Int32) (r : Int32) (S2 : St) (hf : f_X9_eitherNow n S a1 = some (r, S2)) : KI l D y ad aL aU yX9_eitherNow wsX9_eitherNow ({ frames := 8, cells := 0, slots := 0, locals := 191 }) [.ref (ad 28), .int a1] S r S2 := by
  refine Met.ofW (cc := cX9_eitherNow) (maxL := 5) (ret := (some .int)) (by decide) rfl ?_
  intro p e s m args below meth c s₁ B hml hv
  obtain ⟨rfl, hP, hK, hZ⟩ := hv
  have hx := B.exec
  have hb := B.bytes
  have hr := B.returns
  have hts := atoms_spec (ws := wsX9_eitherNow) B.pre
  have hown : s.vm.findClass RX9 = some m.cls := findClass_of_methodNamed B.named
  have hlocks := B.notSynchronized
  have hS : va_S (AA ad) s.heap s.heap [] := va_S.rf
  have K140 := hts (.constant RX9 140 (-2000000001)) (by decide +kernel)
  have hl := lv_entry ([.ref (ad 28), .int a1]) (n := 5) (Nat.le_of_ble_eq_true rfl)
  rw [lg_entry_eq]
  generalize (lg_sl ([.ref (ad 28), .int a1]) ++ List.replicate (5 - (lg_sl ([.ref (ad 28), .int a1])).length) Slot.unset).toArray = ls at hl ⊢
  have hl : lv_has ls 5 [(0, .ref (ad 28)), (1, .int a1)] := hl
  have j105 : ∀ (x1 : Int32) (x2 : Int32) (k2 : St → Int32 → Option (Int32 × St)) (hk2 : ∀ (S : St) (x2 : Int32) (H : Heap) (locs : List Loc) (ls : Array Slot), k2 S x2 = some (r, S2) → PW D y ad S H → va_S (AA ad) s.heap H locs → lv_has ls 5 [(0, .ref (ad 28)), (1, .int x1), (2, .int x2)] → W p l e (headSpec wsX9_eitherNow ({ frames := 8, cells := 0, slots := 0, locals := 191 })).room s m ([.ref (ad 28), .int a1] : List Value).toArray below meth c H locs 0 0 (QI below r S2 D y ad ([.ref (ad 28), .int a1] : List Value).toArray s) (F0 m 2 ls [])) (k12 : St → Int32 → Option (Int32 × St)) (hk12 : ∀ (S : St) (x3 : Int32) (H : Heap) (locs : List Loc) (ls : Array Slot), k12 S x3 = some (r, S2) → PW D y ad S H → va_S (AA ad) s.heap H locs → lv_has ls 5 [(0, .ref (ad 28)), (1, .int x1), (2, .int x2), (3, .int x3)] → W p l e (headSpec wsX9_eitherNow ({ frames := 8, cells := 0, slots := 0, locals := 191 })).room s m ([.ref (ad 28), .int a1] : List Value).toArray below meth c H locs 0 0 (QI below r S2 D y ad ([.ref (ad 28), .int a1] : List Value).toArray s) (F0 m 12 ls [])), ∀ (S : St) (x3 : Int32) (H : Heap) (locs : List Loc) (ls : Array Slot), f_X9_eitherNow_105 n x1 x2 k2 k12 S x3 = some (r, S2) → PW D y ad S H → va_S (AA ad) s.heap H locs → lv_has ls 5 [(0, .ref (ad 28)), (1, .int x1), (2, .int x2), (3, .int x3)] → W p l e (headSpec wsX9_eitherNow ({ frames := 8, cells := 0, slots := 0, locals := 191 })).room s m ([.ref (ad 28), .int a1] : List Value).toArray below meth c H locs 0 0 (QI below r S2 D y ad ([.ref (ad 28), .int a1] : List Value).toArray s) (F0 m 105 ls []) := by
    intro x1 x2 k2 hk2 k12 hk12 S x3 H locs ls hf hP hS hl
    unfold f_X9_eitherNow_105 at hf
    obtain ⟨x3_1, ex3_1, hf⟩ := bd_inv hf
    refine lv_iinc (v := x3_1) (lv' := [(3, .int x3_1), (0, .ref (ad 28)), (1, .int x1), (2, .int x2)]) hx hb dX9_eitherNow_105 hl (k := 3) rfl (by rw [ex3_1]; rfl) (by decide) rfl (fun ls hl => ?_)
    refine lv_goto (tgt := 12) hx hb dX9_eitherNow_108 (by decide) ?_
    exact hk12 S x3_1 _ _ _ hf hP hS (lv_sub hl [1, 2, 3, 0] rfl)
  have j61 : ∀ (x1 : Int32) (x2 : Int32) (k2 : St → Int32 → Option (Int32 × St)) (hk2 : ∀ (S : St) (x2 : Int32) (H : Heap) (locs : List Loc) (ls : Array Slot), k2 S x2 = some (r, S2) → PW D y ad S H → va_S (AA ad) s.heap H locs → lv_has ls 5 [(0, .ref (ad 28)), (1, .int x1), (2, .int x2)] → W p l e (headSpec wsX9_eitherNow ({ frames := 8, cells := 0, slots := 0, locals := 191 })).room s m ([.ref (ad 28), .int a1] : List Value).toArray below meth c H locs 0 0 (QI below r S2 D y ad ([.ref (ad 28), .int a1] : List Value).toArray s) (F0 m 2 ls [])) (k12 : St → Int32 → Option (Int32 × St)) (hk12 : ∀ (S : St) (x3 : Int32) (H : Heap) (locs : List Loc) (ls : Array Slot), k12 S x3 = some (r, S2) → PW D y ad S H → va_S (AA ad) s.heap H locs → lv_has ls 5 [(0, .ref (ad 28)), (1, .int x1), (2, .int x2), (3, .int x3)] → W p l e (headSpec wsX9_eitherNow ({ frames := 8, cells := 0, slots := 0, locals := 191 })).room s m ([.ref (ad 28), .int a1] : List Value).toArray below meth c H locs 0 0 (QI below r S2 D y ad ([.ref (ad 28), .int a1] : List Value).toArray s) (F0 m 12 ls [])), ∀ (S : St) (x3 : Int32) (t0 : Int32) (H : Heap) (locs : List Loc) (ls : Array Slot), f_X9_eitherNow_61 n x1 x2 k2 k12 S x3 t0 = some (r, S2) → PW D y ad S H → va_S (AA ad) s.heap H locs → lv_has ls 5 [(0, .ref (ad 28)), (1, .int x1), (2, .int x2), (3, .int x3)] → W p l e (headSpec wsX9_eitherNow ({ frames := 8, cells := 0, slots := 0, locals := 191 })).room s m ([.ref (ad 28), .int a1] : List Value).toArray below meth c H locs 0 0 (QI below r S2 D y ad ([.ref (ad 28), .int a1] : List Value).toArray s) (F0 m 61 ls [.int t0]) := by
    intro x1 x2 k2 hk2 k12 hk12 S x3 t0 H locs ls hf hP hS hl
    unfold f_X9_eitherNow_61 at hf
    obtain ⟨x4_2, ex4_2, hf⟩ := bd_inv hf
    refine w_topI ex4_2 ?_
    refine lv_istore (lv' := [(4, .int x4_2), (0, .ref (ad 28)), (1, .int x1), (2, .int x2), (3, .int x3)]) hx hb dX9_eitherNow_61 hl (by decide) rfl (fun ls hl => ?_)
    refine lv_iload hx hb dX9_eitherNow_63 (lv_at hl 0 rfl) ?_
    refine lv_if_eq (tgt := 105) hx hb dX9_eitherNow_65 (by decide) (fun b_3 => ?_) (fun b_3 => ?_)
    · have hf := if_t b_3 hf
      exact j105 x1 x2 k2 hk2 k12 hk12 S x3 _ _ _ hf hP hS (lv_sub hl [1, 2, 3, 4] rfl)
    · have hf := if_f b_3 hf
      refine lv_aload_n hx hb dX9_eitherNow_68 rfl (lv_at hl 1 rfl) ?_
      refine lv_iload_n hx hb dX9_eitherNow_69 rfl (lv_at hl 3 rfl) ?_
      refine lv_iload_n hx hb dX9_eitherNow_70 rfl (lv_at hl 4 rfl) ?_
      obtain ⟨r_4, S_5, hc_6, hf⟩ := bo_inv hf
      refine w_ci (va_runV (As := [.int x2, .int x3]) (rest := []) ⟨hx, hb, hml, hown, hts⟩ (c_X9_canBothBeUnlike l D y ad aL aU hI n S x2 x3 _ _ hc_6) (cwV 2 hts gX9_eitherNow_X9_canBothBeUnlike rfl rfl rfl (by decide +kernel) ⟨Nat.le_of_ble_eq_true rfl, Nat.le_of_ble_eq_true rfl⟩) (pwu_V t_28 rfl hP hK hZ hS) rfl rfl hl.1 rfl (lv_room (Nat.le_of_ble_eq_true rfl)) dX9_eitherNow_71 ⟨Nat.zero_le _, Nat.zero_le _⟩) hS (fun H locs hP hS => ?_)
      refine lv_if_ne (tgt := 105) hx hb dX9_eitherNow_74 (by decide) (fun b_7 => ?_) (fun b_7 => ?_)
      · have hf := if_f b_7 hf
        exact j105 x1 x2 k2 hk2 k12 hk12 S_5 x3 _ _ _ hf hP hS (lv_sub hl [1, 2, 3, 4] rfl)
      · have hf := if_t b_7 hf
        refine lv_aload_n hx hb dX9_eitherNow_77 rfl (lv_at hl 1 rfl) ?_
        refine lv_iload_n hx hb dX9_eitherNow_78 rfl (lv_at hl 3 rfl) ?_
        refine lv_iload_n hx hb dX9_eitherNow_79 rfl (lv_at hl 3 rfl) ?_
        obtain ⟨r_8, S_9, hc_10, hf⟩ := bo_inv hf
        refine w_ci (va_runV (As := [.int x2, .int x2]) (rest := []) ⟨hx, hb, hml, hown, hts⟩ (c_X9_canBothBeUnlike l D y ad aL aU hI n S_5 x2 x2 _ _ hc_10) (cwV 2 hts gX9_eitherNow_X9_canBothBeUnlike rfl rfl rfl (by decide +kernel) ⟨Nat.le_of_ble_eq_true rfl, Nat.le_of_ble_eq_true rfl⟩) (pwu_V t_28 rfl hP hK hZ hS) rfl rfl hl.1 rfl (lv_room (Nat.le_of_ble_eq_true rfl)) dX9_eitherNow_80 ⟨Nat.zero_le _, Nat.zero_le _⟩) hS (fun H locs hP hS => ?_)
        refine lv_if_eq (tgt := 105) hx hb dX9_eitherNow_83 (by decide) (fun b_11 => ?_) (fun b_11 => ?_)
        · have hf := if_t b_11 hf
          exact j105 x1 x2 k2 hk2 k12 hk12 S_9 x3 _ _ _ hf hP hS (lv_sub hl [1, 2, 3, 4] rfl)
        · have hf := if_f b_11 hf
          refine lv_aload_n hx hb dX9_eitherNow_86 rfl (lv_at hl 1 rfl) ?_
          refine lv_iload_n hx hb dX9_eitherNow_87 rfl (lv_at hl 4 rfl) ?_
          refine lv_iload_n hx hb dX9_eitherNow_88 rfl (lv_at hl 4 rfl) ?_
          obtain ⟨r_12, S_13, hc_14, hf⟩ := bo_inv hf
          refine w_ci (va_runV (As := [.int x3, .int x3]) (rest := []) ⟨hx, hb, hml, hown, hts⟩ (c_X9_canBothBeUnlike l D y ad aL aU hI n S_9 x3 x3 _ _ hc_14) (cwV 2 hts gX9_eitherNow_X9_canBothBeUnlike rfl rfl rfl (by decide +kernel) ⟨Nat.le_of_ble_eq_true rfl, Nat.le_of_ble_eq_true rfl⟩) (pwu_V t_28 rfl hP hK hZ hS) rfl rfl hl.1 rfl (lv_room (Nat.le_of_ble_eq_true rfl)) dX9_eitherNow_89 ⟨Nat.zero_le _, Nat.zero_le _⟩) hS (fun H locs hP hS => ?_)
          refine lv_if_eq (tgt := 105) hx hb dX9_eitherNow_92 (by decide) (fun b_15 => ?_) (fun b_15 => ?_)
          · have hf := if_t b_15 hf
            exact j105 x1 x2 k2 hk2 k12 hk12 S_13 x3 _ _ _ hf hP hS (lv_sub hl [1, 2, 3, 4] rfl)
          · have hf := if_f b_15 hf
            refine lv_iload_n hx hb dX9_eitherNow_95 rfl (lv_at hl 2 rfl) ?_
            refine lv_if_ne (tgt := 103) hx hb dX9_eitherNow_96 (by decide) (fun b_16 => ?_) (fun b_16 => ?_)
            · have hf := if_f b_16 hf
              refine lv_iload_n hx hb dX9_eitherNow_103 rfl (lv_at hl 4 rfl) ?_
              exact w_iret hx hb hr hlocks hP hS (rt_inv hf) dX9_eitherNow_104
            · have hf := if_t b_16 hf
              refine lv_iload_n hx hb dX9_eitherNow_99 rfl (lv_at hl 3 rfl) ?_
              refine lv_goto (tgt := 104) hx hb dX9_eitherNow_100 (by decide) ?_
              exact w_iret hx hb hr hlocks hP hS (rt_inv hf) dX9_eitherNow_104
  have j60 : ∀ (x1 : Int32) (x2 : Int32) (k2 : St → Int32 → Option (Int32 × St)) (hk2 : ∀ (S : St) (x2 : Int32) (H : Heap) (locs : List Loc) (ls : Array Slot), k2 S x2 = some (r, S2) → PW D y ad S H → va_S (AA ad) s.heap H locs → lv_has ls 5 [(0, .ref (ad 28)), (1, .int x1), (2, .int x2)] → W p l e (headSpec wsX9_eitherNow ({ frames := 8, cells := 0, slots := 0, locals := 191 })).room s m ([.ref (ad 28), .int a1] : List Value).toArray below meth c H locs 0 0 (QI below r S2 D y ad ([.ref (ad 28), .int a1] : List Value).toArray s) (F0 m 2 ls [])) (k12 : St → Int32 → Option (Int32 × St)) (hk12 : ∀ (S : St) (x3 : Int32) (H : Heap) (locs : List Loc) (ls : Array Slot), k12 S x3 = some (r, S2) → PW D y ad S H → va_S (AA ad) s.heap H locs → lv_has ls 5 [(0, .ref (ad 28)), (1, .int x1), (2, .int x2), (3, .int x3)] → W p l e (headSpec wsX9_eitherNow ({ frames := 8, cells := 0, slots := 0, locals := 191 })).room s m ([.ref (ad 28), .int a1] : List Value).toArray below meth c H locs 0 0 (QI below r S2 D y ad ([.ref (ad 28), .int a1] : List Value).toArray s) (F0 m 12 ls [])), ∀ (S : St) (x3 : Int32) (H : Heap) (locs : List Loc) (ls : Array Slot), f_X9_eitherNow_60 n x1 x2 k2 k12 S x3 = some (r, S2) → PW D y ad S H → va_S (AA ad) s.heap H locs → lv_has ls 5 [(0, .ref (ad 28)), (1, .int x1), (2, .int x2), (3, .int x3)] → W p l e (headSpec wsX9_eitherNow ({ frames := 8, cells := 0, slots := 0, locals := 191 })).room s m ([.ref (ad 28), .int a1] : List Value).toArray below meth c H locs 0 0 (QI below r S2 D y ad ([.ref (ad 28), .int a1] : List Value).toArray s) (F0 m 60 ls []) := by
    intro x1 x2 k2 hk2 k12 hk12 S x3 H locs ls hf hP hS hl
    unfold f_X9_eitherNow_60 at hf
    refine lv_iconst (v := 0) hx hb dX9_eitherNow_60 (by decide) ?_
    exact j61 x1 x2 k2 hk2 k12 hk12 S x3 ((0 : Int32)) _ _ _ hf hP hS (lv_sub hl [0, 1, 2, 3] rfl)
  have b12 : ∀ (x1 : Int32) (x2 : Int32) (k2 : St → Int32 → Option (Int32 × St)) (hk2 : ∀ (S : St) (x2 : Int32) (H : Heap) (locs : List Loc) (ls : Array Slot), k2 S x2 = some (r, S2) → PW D y ad S H → va_S (AA ad) s.heap H locs → lv_has ls 5 [(0, .ref (ad 28)), (1, .int x1), (2, .int x2)] → W p l e (headSpec wsX9_eitherNow ({ frames := 8, cells := 0, slots := 0, locals := 191 })).room s m ([.ref (ad 28), .int a1] : List Value).toArray below meth c H locs 0 0 (QI below r S2 D y ad ([.ref (ad 28), .int a1] : List Value).toArray s) (F0 m 2 ls [])) (k12 : St → Int32 → Option (Int32 × St)) (hk12 : ∀ (S : St) (x3 : Int32) (H : Heap) (locs : List Loc) (ls : Array Slot), k12 S x3 = some (r, S2) → PW D y ad S H → va_S (AA ad) s.heap H locs → lv_has ls 5 [(0, .ref (ad 28)), (1, .int x1), (2, .int x2), (3, .int x3)] → W p l e (headSpec wsX9_eitherNow ({ frames := 8, cells := 0, slots := 0, locals := 191 })).room s m ([.ref (ad 28), .int a1] : List Value).toArray below meth c H locs 0 0 (QI below r S2 D y ad ([.ref (ad 28), .int a1] : List Value).toArray s) (F0 m 12 ls [])), ∀ (S : St) (x3 : Int32) (H : Heap) (locs : List Loc) (ls : Array Slot), f_X9_eitherNow_12 n x1 x2 k2 k12 S x3 = some (r, S2) → PW D y ad S H → va_S (AA ad) s.heap H locs → lv_has ls 5 [(0, .ref (ad 28)), (1, .int x1), (2, .int x2), (3, .int x3)] → W p l e (headSpec wsX9_eitherNow ({ frames := 8, cells := 0, slots := 0, locals := 191 })).room s m ([.ref (ad 28), .int a1] : List Value).toArray below meth c H locs 0 0 (QI below r S2 D y ad ([.ref (ad 28), .int a1] : List Value).toArray s) (F0 m 12 ls []) := by
    intro x1 x2 k2 hk2 k12 hk12 S x3 H locs ls hf hP hS hl
    unfold f_X9_eitherNow_12 at hf
    refine lv_iload_n hx hb dX9_eitherNow_12 rfl (lv_at hl 3 rfl) ?_
    refine lv_bipush (v := (50)) hx hb dX9_eitherNow_13 (by decide) ?_
    refine lv_icmp_ge (tgt := 111) hx hb dX9_eitherNow_15 (by decide) (fun b_17 => ?_) (fun b_17 => ?_)
    · have hf := if_t b_17 hf
      obtain ⟨x2_18, ex2_18, hf⟩ := bd_inv hf
      refine lv_iinc (v := x2_18) (lv' := [(2, .int x2_18), (0, .ref (ad 28)), (1, .int x1), (3, .int x3)]) hx hb dX9_eitherNow_111 hl (k := 2) rfl (by rw [ex2_18]; rfl) (by decide) rfl (fun ls hl => ?_)
      refine lv_goto (tgt := 2) hx hb dX9_eitherNow_114 (by decide) ?_
      exact hk2 S x2_18 _ _ _ hf hP hS (lv_sub hl [1, 2, 0] rfl)
    · have hf := if_f b_17 hf
      refine lv_iload_n hx hb dX9_eitherNow_18 rfl (lv_at hl 2 rfl) ?_
      refine lv_bipush (v := (10)) hx hb dX9_eitherNow_19 (by decide) ?_
      refine lv_idiv hx hb dX9_eitherNow_21 (by decide) ?_
      refine lv_iload_n hx hb dX9_eitherNow_22 rfl (lv_at hl 2 rfl) ?_
      refine lv_bipush (v := (10)) hx hb dX9_eitherNow_23 (by decide) ?_
      refine lv_irem hx hb dX9_eitherNow_25 (by decide) ?_
      refine lv_icmp_ge (tgt := 60) hx hb dX9_eitherNow_26 (by decide) (fun b_19 => ?_) (fun b_19 => ?_)
      · have hf := if_t b_19 hf
        exact j60 x1 x2 k2 hk2 k12 hk12 S x3 _ _ _ hf hP hS (lv_sub hl [0, 1, 2, 3] rfl)
      · have hf := if_f b_19 hf
        refine lv_iload_n hx hb dX9_eitherNow_29 rfl (lv_at hl 2 rfl) ?_
        refine lv_bipush (v := (10)) hx hb dX9_eitherNow_30 (by decide) ?_
        refine lv_irem hx hb dX9_eitherNow_32 (by decide) ?_
        refine lv_iconst (v := 5) hx hb dX9_eitherNow_33 (by decide) ?_
        refine lv_icmp_ge (tgt := 60) hx hb dX9_eitherNow_34 (by decide) (fun b_20 => ?_) (fun b_20 => ?_)
        · have hf := if_t b_20 hf
          exact j60 x1 x2 k2 hk2 k12 hk12 S x3 _ _ _ hf hP hS (lv_sub hl [0, 1, 2, 3] rfl)
        · have hf := if_f b_20 hf
          refine lv_iload_n hx hb dX9_eitherNow_37 rfl (lv_at hl 3 rfl) ?_
          refine lv_bipush (v := (10)) hx hb dX9_eitherNow_38 (by decide) ?_
          refine lv_idiv hx hb dX9_eitherNow_40 (by decide) ?_
          refine lv_iload_n hx hb dX9_eitherNow_41 rfl (lv_at hl 3 rfl) ?_
          refine lv_bipush (v := (10)) hx hb dX9_eitherNow_42 (by decide) ?_
          refine lv_irem hx hb dX9_eitherNow_44 (by decide) ?_
          refine lv_icmp_ge (tgt := 60) hx hb dX9_eitherNow_45 (by decide) (fun b_21 => ?_) (fun b_21 => ?_)
          · have hf := if_t b_21 hf
            exact j60 x1 x2 k2 hk2 k12 hk12 S x3 _ _ _ hf hP hS (lv_sub hl [0, 1, 2, 3] rfl)
          · have hf := if_f b_21 hf
            refine lv_iload_n hx hb dX9_eitherNow_48 rfl (lv_at hl 3 rfl) ?_
            refine lv_bipush (v := (10)) hx hb dX9_eitherNow_49 (by decide) ?_
            refine lv_irem hx hb dX9_eitherNow_51 (by decide) ?_
            refine lv_iconst (v := 5) hx hb dX9_eitherNow_52 (by decide) ?_
            refine lv_icmp_ge (tgt := 60) hx hb dX9_eitherNow_53 (by decide) (fun b_22 => ?_) (fun b_22 => ?_)
            · have hf := if_t b_22 hf
              exact j60 x1 x2 k2 hk2 k12 hk12 S x3 _ _ _ hf hP hS (lv_sub hl [0, 1, 2, 3] rfl)
            · have hf := if_f b_22 hf
              refine lv_iconst (v := 1) hx hb dX9_eitherNow_56 (by decide) ?_
              refine lv_goto (tgt := 61) hx hb dX9_eitherNow_57 (by decide) ?_
              exact j61 x1 x2 k2 hk2 k12 hk12 S x3 ((1 : Int32)) _ _ _ hf hP hS (lv_sub hl [0, 1, 2, 3] rfl)
  have j12 : ∀ (x1 : Int32) (x2 : Int32) (k2 : St → Int32 → Option (Int32 × St)) (hk2 : ∀ (S : St) (x2 : Int32) (H : Heap) (locs : List Loc) (ls : Array Slot), k2 S x2 = some (r, S2) → PW D y ad S H → va_S (AA ad) s.heap H locs → lv_has ls 5 [(0, .ref (ad 28)), (1, .int x1), (2, .int x2)] → W p l e (headSpec wsX9_eitherNow ({ frames := 8, cells := 0, slots := 0, locals := 191 })).room s m ([.ref (ad 28), .int a1] : List Value).toArray below meth c H locs 0 0 (QI below r S2 D y ad ([.ref (ad 28), .int a1] : List Value).toArray s) (F0 m 2 ls [])) (fu : Nat), ∀ (S : St) (x3 : Int32) (H : Heap) (locs : List Loc) (ls : Array Slot), fixF (fun _ _ => none) (f_X9_eitherNow_12 n x1 x2 k2) fu S x3 = some (r, S2) → PW D y ad S H → va_S (AA ad) s.heap H locs → lv_has ls 5 [(0, .ref (ad 28)), (1, .int x1), (2, .int x2), (3, .int x3)] → W p l e (headSpec wsX9_eitherNow ({ frames := 8, cells := 0, slots := 0, locals := 191 })).room s m ([.ref (ad 28), .int a1] : List Value).toArray below meth c H locs 0 0 (QI below r S2 D y ad ([.ref (ad 28), .int a1] : List Value).toArray s) (F0 m 12 ls []) := by
    intro x1 x2 k2 hk2 fu
    induction fu with
    | zero => intro S x3 H locs ls hf hP hS hl; cases hf
    | succ fu ih => exact b12 x1 x2 k2 hk2 (fixF (fun _ _ => none) (f_X9_eitherNow_12 n x1 x2 k2) fu) ih
  have b2 : ∀ (x1 : Int32) (k2 : St → Int32 → Option (Int32 × St)) (hk2 : ∀ (S : St) (x2 : Int32) (H : Heap) (locs : List Loc) (ls : Array Slot), k2 S x2 = some (r, S2) → PW D y ad S H → va_S (AA ad) s.heap H locs → lv_has ls 5 [(0, .ref (ad 28)), (1, .int x1), (2, .int x2)] → W p l e (headSpec wsX9_eitherNow ({ frames := 8, cells := 0, slots := 0, locals := 191 })).room s m ([.ref (ad 28), .int a1] : List Value).toArray below meth c H locs 0 0 (QI below r S2 D y ad ([.ref (ad 28), .int a1] : List Value).toArray s) (F0 m 2 ls [])), ∀ (S : St) (x2 : Int32) (H : Heap) (locs : List Loc) (ls : Array Slot), f_X9_eitherNow_2 n x1 k2 S x2 = some (r, S2) → PW D y ad S H → va_S (AA ad) s.heap H locs → lv_has ls 5 [(0, .ref (ad 28)), (1, .int x1), (2, .int x2)] → W p l e (headSpec wsX9_eitherNow ({ frames := 8, cells := 0, slots := 0, locals := 191 })).room s m ([.ref (ad 28), .int a1] : List Value).toArray below meth c H locs 0 0 (QI below r S2 D y ad ([.ref (ad 28), .int a1] : List Value).toArray s) (F0 m 2 ls []) := by
    intro x1 k2 hk2 S x2 H locs ls hf hP hS hl
    unfold f_X9_eitherNow_2 at hf
    refine lv_iload_n hx hb dX9_eitherNow_2 rfl (lv_at hl 2 rfl) ?_
    refine lv_bipush (v := (50)) hx hb dX9_eitherNow_3 (by decide) ?_
    refine lv_icmp_ge (tgt := 117) hx hb dX9_eitherNow_5 (by decide) (fun b_23 => ?_) (fun b_23 => ?_)
    · have hf := if_t b_23 hf
      refine lv_ldc (v := (-2000000001)) hx hb hown K140 dX9_eitherNow_117 ?_
      exact w_iret hx hb hr hlocks hP hS (rt_inv hf) dX9_eitherNow_119
    · have hf := if_f b_23 hf
      refine lv_iload_n hx hb dX9_eitherNow_8 rfl (lv_at hl 2 rfl) ?_
      refine lv_iconst (v := 1) hx hb dX9_eitherNow_9 (by decide) ?_
      refine lv_iadd hx hb dX9_eitherNow_10 ?_
      obtain ⟨x3_24, ex3_24, hf⟩ := bd_inv hf
      refine w_topI ex3_24 ?_
      refine lv_istore_n (lv' := [(3, .int x3_24), (0, .ref (ad 28)), (1, .int x1), (2, .int x2)]) hx hb dX9_eitherNow_11 rfl hl (by decide) rfl (fun ls hl => ?_)
      exact j12 x1 x2 k2 hk2 n S x3_24 _ _ _ hf hP hS (lv_sub hl [1, 2, 3, 0] rfl)
  have j2 : ∀ (x1 : Int32) (fu : Nat), ∀ (S : St) (x2 : Int32) (H : Heap) (locs : List Loc) (ls : Array Slot), fixF (fun _ _ => none) (f_X9_eitherNow_2 n x1) fu S x2 = some (r, S2) → PW D y ad S H → va_S (AA ad) s.heap H locs → lv_has ls 5 [(0, .ref (ad 28)), (1, .int x1), (2, .int x2)] → W p l e (headSpec wsX9_eitherNow ({ frames := 8, cells := 0, slots := 0, locals := 191 })).room s m ([.ref (ad 28), .int a1] : List Value).toArray below meth c H locs 0 0 (QI below r S2 D y ad ([.ref (ad 28), .int a1] : List Value).toArray s) (F0 m 2 ls []) := by
    intro x1  fu
    induction fu with
    | zero => intro S x2 H locs ls hf hP hS hl; cases hf
    | succ fu ih => exact b2 x1  (fixF (fun _ _ => none) (f_X9_eitherNow_2 n x1) fu) ih
  unfold f_X9_eitherNow at hf
  refine lv_iconst (v := 1) hx hb dX9_eitherNow_0 (by decide) ?_
  obtain ⟨x2_25, ex2_25, hf⟩ := bd_inv hf
  refine w_topI ex2_25 ?_
  refine lv_istore_n (lv' := [(2, .int x2_25), (0, .ref (ad 28)), (1, .int a1)]) hx hb dX9_eitherNow_1 rfl hl (by decide) rfl (fun ls hl => ?_)
  exact j2 a1  n S x2_25 _ _ _ hf hP hS (lv_sub hl [1, 2, 0] rfl)
set_option maxHeartbeats 4000000 in
set_option maxRecDepth 100000 in
theorem c_X9_either (l : Launch) (D : va_G) (y : y4) (ad : Nat → Nat) (aL aU : Nat) (hI : Inj ad) (n : Nat) (S : St) (a1 : Int32) (r : Int32) (S2 : St) (hf : f_X9_either n S a1 = some (r, S2)) : KI l D y ad aL aU yX9_either wsX9_either ({ frames := 9, cells := 0, slots := 0, locals := 215 }) [.ref (ad 28), .int a1] S r S2 := by
  refine Met.ofW (cc := cX9_either) (maxL := 2) (ret := (some .int)) (by decide) rfl ?_
  intro p e s m args below meth c s₁ B hml hv
  obtain ⟨rfl, hP, hK, hZ⟩ := hv
  have hx := B.exec
  have hb := B.bytes
  have hr := B.returns
  have hts := atoms_spec (ws := wsX9_either) B.pre
  have hown : s.vm.findClass RX9 = some m.cls := findClass_of_methodNamed B.named
  have hlocks := B.notSynchronized
  have hS : va_S (AA ad) s.heap s.heap [] := va_S.rf
  have L331 := hts (.fieldLink RX9 331 "JoinedTheoriesModel" "asks" "I") (by decide +kernel)
  have K81 := hts (.constant RX9 81 (-2000000003)) (by decide +kernel)
  have K152 := hts (.constant RX9 152 (-2000000004)) (by decide +kernel)
  have n9 : ∀ w ∈ wsX90, w ∈ wsX9_either := by decide +kernel
  have hl := lv_entry ([.ref (ad 28), .int a1]) (n := 2) (Nat.le_of_ble_eq_true rfl)
  rw [lg_entry_eq]
  generalize (lg_sl ([.ref (ad 28), .int a1]) ++ List.replicate (2 - (lg_sl ([.ref (ad 28), .int a1])).length) Slot.unset).toArray = ls at hl ⊢
  have hl : lv_has ls 2 [(0, .ref (ad 28)), (1, .int a1)] := hl
  unfold f_X9_either at hf
  refine lv_iload_n hx hb dX9_either_0 rfl (lv_at hl 1 rfl) ?_
  refine lv_iconst (v := 0) hx hb dX9_either_1 (by decide) ?_
  refine lv_iconst (v := 1) hx hb dX9_either_2 (by decide) ?_
  obtain ⟨r_1, S_2, hc_3, hf⟩ := bo_inv hf
  refine w_ci (va_runS (As := [.int a1, .int (0 : Int32), .int (1 : Int32)]) (rest := []) ⟨hx, hb, hml, hown, hts⟩ (c_X9_within l D y ad aL aU hI n S a1 (0 : Int32) (1 : Int32) _ _ hc_3) (cwS 3 hts gX9_either_X9_within rfl rfl rfl (by decide +kernel) ⟨Nat.le_of_ble_eq_true rfl, Nat.le_of_ble_eq_true rfl⟩) (pwu_S hP hK hZ hS) rfl rfl hl.1 rfl (lv_room (Nat.le_of_ble_eq_true rfl)) dX9_either_3 ⟨Nat.zero_le _, Nat.zero_le _⟩) hS (fun H locs hP hS => ?_)
  refine lv_if_ne (tgt := 12) hx hb dX9_either_6 (by decide) (fun b_4 => ?_) (fun b_4 => ?_)
  · have hf := if_f b_4 hf
    refine lv_aload_n hx hb dX9_either_12 rfl (lv_at hl 0 rfl) ?_
    refine lv_aload_n hx hb dX9_either_13 rfl (lv_at hl 0 rfl) ?_
    obtain ⟨r_5, S_6, hc_7, hf⟩ := bo_inv hf
    refine w_ci (va_runV (As := []) (rest := [.ref (ad 28)]) ⟨hx, hb, hml, hown, hts⟩ (c_X9_all l D y ad aL aU hI n S_2  _ _ hc_7) (cwV 0 hts gX9_either_X9_all rfl rfl rfl (by decide +kernel) ⟨Nat.le_of_ble_eq_true rfl, Nat.le_of_ble_eq_true rfl⟩) (pwu_V t_28 rfl hP hK hZ hS) rfl rfl hl.1 rfl (lv_room (Nat.le_of_ble_eq_true rfl)) dX9_either_14 ⟨Nat.zero_le _, Nat.zero_le _⟩) hS (fun H locs hP hS => ?_)
    obtain ⟨r_8, S_9, hc_10, hf⟩ := bo_inv hf
    refine w_ci (va_runV (As := [.int r_5]) (rest := []) ⟨hx, hb, hml, hown, hts⟩ (c_X9_holdsWith l D y ad aL aU hI n S_6 r_5 _ _ hc_10) (cwV 1 hts gX9_either_X9_holdsWith rfl rfl rfl (by decide +kernel) ⟨Nat.le_of_ble_eq_true rfl, Nat.le_of_ble_eq_true rfl⟩) (pwu_V t_28 rfl hP hK hZ hS) rfl rfl hl.1 rfl (lv_room (Nat.le_of_ble_eq_true rfl)) dX9_either_17 ⟨Nat.zero_le _, Nat.zero_le _⟩) hS (fun H locs hP hS => ?_)
    refine lv_if_eq (tgt := 32) hx hb dX9_either_20 (by decide) (fun b_11 => ?_) (fun b_11 => ?_)
    · have hf := if_t b_11 hf
      refine lv_ldc (v := (-2000000004)) hx hb hown K152 dX9_either_32 ?_
      exact w_iret hx hb hr hlocks hP hS (rt_inv hf) dX9_either_34
    · have hf := if_f b_11 hf
      refine lv_aload_n hx hb dX9_either_23 rfl (lv_at hl 0 rfl) ?_
      refine w_gI (C := RX9) (T := TX9) hx hb hts n9 hown hK hP t_28 rfl 9 (by decide) L331 rfl dX9_either_24 ?_
      refine lv_bipush (v := (12)) hx hb dX9_either_27 (by decide) ?_
      refine lv_icmp_ne (tgt := 35) hx hb dX9_either_29 (by decide) (fun b_12 => ?_) (fun b_12 => ?_)
      · have hf := if_f b_12 hf
        refine lv_aload_n hx hb dX9_either_35 rfl (lv_at hl 0 rfl) ?_
        refine lv_dup hx hb dX9_either_36 rfl ?_
        refine w_gI (C := RX9) (T := TX9) hx hb hts n9 hown hK hP t_28 rfl 9 (by decide) L331 rfl dX9_either_37 ?_
        refine lv_iconst (v := 1) hx hb dX9_either_40 (by decide) ?_
        refine lv_iadd hx hb dX9_either_41 ?_
        obtain ⟨S_13, eS_13, hf⟩ := bd_inv hf
        refine w_pI (ty := .int) (C := RX9) (T := TX9) hx hb hts n9 tyX9 tyX9_ok nmX9 hown hK hI hP hS t_28 rfl 9 (by decide) L331 rfl rfl rfl ⟨rfl, rfl⟩ dX9_either_42 (fun H locs hP hS => ?_)
        rw [← eS_13] at hP
        refine lv_aload_n hx hb dX9_either_45 rfl (lv_at hl 0 rfl) ?_
        refine lv_iload_n hx hb dX9_either_46 rfl (lv_at hl 1 rfl) ?_
        obtain ⟨r_14, S_15, hc_16, hf⟩ := bo_inv hf
        refine w_ci (va_runV (As := [.int a1]) (rest := []) ⟨hx, hb, hml, hown, hts⟩ (c_X9_eitherNow l D y ad aL aU hI n S_13 a1 _ _ hc_16) (cwV 1 hts gX9_either_X9_eitherNow rfl rfl rfl (by decide +kernel) ⟨Nat.le_of_ble_eq_true rfl, Nat.le_of_ble_eq_true rfl⟩) (pwu_V t_28 rfl hP hK hZ hS) rfl rfl hl.1 rfl (lv_room (Nat.le_of_ble_eq_true rfl)) dX9_either_47 ⟨Nat.zero_le _, Nat.zero_le _⟩) hS (fun H locs hP hS => ?_)
        exact w_iret hx hb hr hlocks hP hS (rt_inv hf) dX9_either_50
      · have hf := if_t b_12 hf
        refine lv_ldc (v := (-2000000004)) hx hb hown K152 dX9_either_32 ?_
        exact w_iret hx hb hr hlocks hP hS (rt_inv hf) dX9_either_34
  · have hf := if_t b_4 hf
    refine lv_ldc (v := (-2000000003)) hx hb hown K81 dX9_either_9 ?_
    exact w_iret hx hb hr hlocks hP hS (rt_inv hf) dX9_either_11
set_option maxHeartbeats 4000000 in
set_option maxRecDepth 100000 in
theorem c_X9_literalNow (l : Launch) (D : va_G) (y : y4) (ad : Nat → Nat) (aL aU : Nat) (hI : Inj ad) (n : Nat) (S : St) (a1 : Int32) (a2 : Int32) (r : Int32) (S2 : St) (hf : f_X9_literalNow n S a1 a2 = some (r, S2)) : KI l D y ad aL aU yX9_literalNow wsX9_literalNow ({ frames := 1, cells := 0, slots := 0, locals := 20 }) [.ref (ad 28), .int a1, .int a2] S r S2 := by
  refine Met.ofW (cc := cX9_literalNow) (maxL := 3) (ret := (some .int)) (by decide) rfl ?_
  intro p e s m args below meth c s₁ B hml hv
  obtain ⟨rfl, hP, hK, hZ⟩ := hv
  have hx := B.exec
  have hb := B.bytes
  have hr := B.returns
  have hts := atoms_spec (ws := wsX9_literalNow) B.pre
  have hown : s.vm.findClass RX9 = some m.cls := findClass_of_methodNamed B.named
  have hlocks := B.notSynchronized
  have hS : va_S (AA ad) s.heap s.heap [] := va_S.rf
  have L19 := hts (.fieldLink RX9 19 "JoinedTheoriesModel" "sortOf" "[I") (by decide +kernel)
  have L22 := hts (.fieldLink RX9 22 "JoinedTheoriesModel" "boundOf" "[I") (by decide +kernel)
  have L37 := hts (.fieldLink RX9 37 "JoinedTheoriesModel" "leftOf" "[I") (by decide +kernel)
  have L40 := hts (.fieldLink RX9 40 "JoinedTheoriesModel" "rightOf" "[I") (by decide +kernel)
  have n9 : ∀ w ∈ wsX90, w ∈ wsX9_literalNow := by decide +kernel
  have hl := lv_entry ([.ref (ad 28), .int a1, .int a2]) (n := 3) (Nat.le_of_ble_eq_true rfl)
  rw [lg_entry_eq]
  generalize (lg_sl ([.ref (ad 28), .int a1, .int a2]) ++ List.replicate (3 - (lg_sl ([.ref (ad 28), .int a1, .int a2])).length) Slot.unset).toArray = ls at hl ⊢
  have hl : lv_has ls 3 [(0, .ref (ad 28)), (1, .int a1), (2, .int a2)] := hl
  unfold f_X9_literalNow at hf
  refine lv_iload_n hx hb dX9_literalNow_0 rfl (lv_at hl 2 rfl) ?_
  refine lv_if_ne (tgt := 13) hx hb dX9_literalNow_1 (by decide) (fun b_1 => ?_) (fun b_1 => ?_)
  · have hf := if_f b_1 hf
    refine lv_iload_n hx hb dX9_literalNow_13 rfl (lv_at hl 2 rfl) ?_
    refine lv_iconst (v := 1) hx hb dX9_literalNow_14 (by decide) ?_
    refine lv_icmp_ne (tgt := 27) hx hb dX9_literalNow_15 (by decide) (fun b_2 => ?_) (fun b_2 => ?_)
    · have hf := if_f b_2 hf
      refine lv_iload_n hx hb dX9_literalNow_27 rfl (lv_at hl 2 rfl) ?_
      refine lv_iconst (v := 2) hx hb dX9_literalNow_28 (by decide) ?_
      refine lv_icmp_ne (tgt := 41) hx hb dX9_literalNow_29 (by decide) (fun b_3 => ?_) (fun b_3 => ?_)
      · have hf := if_f b_3 hf
        refine lv_aload_n hx hb dX9_literalNow_41 rfl (lv_at hl 0 rfl) ?_
        refine w_gR (z := 33) (C := RX9) (T := TX9) hx hb hts n9 hown hK hP t_28 rfl 6 (by decide) L22 rfl rfl dX9_literalNow_42 ?_
        refine lv_iload_n hx hb dX9_literalNow_45 rfl (lv_at hl 1 rfl) ?_
        obtain ⟨g_4, hf⟩ := gd_inv hf
        refine w_iald hx hb hK hP t_33 g_4 dX9_literalNow_46 ?_
        exact w_iret hx hb hr hlocks hP hS (rt_inv hf) dX9_literalNow_47
      · have hf := if_t b_3 hf
        refine lv_aload_n hx hb dX9_literalNow_32 rfl (lv_at hl 0 rfl) ?_
        refine w_gR (z := 39) (C := RX9) (T := TX9) hx hb hts n9 hown hK hP t_28 rfl 23 (by decide) L40 rfl rfl dX9_literalNow_33 ?_
        refine lv_iload_n hx hb dX9_literalNow_36 rfl (lv_at hl 1 rfl) ?_
        obtain ⟨g_5, hf⟩ := gd_inv hf
        refine w_iald hx hb hK hP t_39 g_5 dX9_literalNow_37 ?_
        refine lv_goto (tgt := 47) hx hb dX9_literalNow_38 (by decide) ?_
        exact w_iret hx hb hr hlocks hP hS (rt_inv hf) dX9_literalNow_47
    · have hf := if_t b_2 hf
      refine lv_aload_n hx hb dX9_literalNow_18 rfl (lv_at hl 0 rfl) ?_
      refine w_gR (z := 38) (C := RX9) (T := TX9) hx hb hts n9 hown hK hP t_28 rfl 22 (by decide) L37 rfl rfl dX9_literalNow_19 ?_
      refine lv_iload_n hx hb dX9_literalNow_22 rfl (lv_at hl 1 rfl) ?_
      obtain ⟨g_6, hf⟩ := gd_inv hf
      refine w_iald hx hb hK hP t_38 g_6 dX9_literalNow_23 ?_
      refine lv_goto (tgt := 47) hx hb dX9_literalNow_24 (by decide) ?_
      exact w_iret hx hb hr hlocks hP hS (rt_inv hf) dX9_literalNow_47
  · have hf := if_t b_1 hf
    refine lv_aload_n hx hb dX9_literalNow_4 rfl (lv_at hl 0 rfl) ?_
    refine w_gR (z := 32) (C := RX9) (T := TX9) hx hb hts n9 hown hK hP t_28 rfl 5 (by decide) L19 rfl rfl dX9_literalNow_5 ?_
    refine lv_iload_n hx hb dX9_literalNow_8 rfl (lv_at hl 1 rfl) ?_
    obtain ⟨g_7, hf⟩ := gd_inv hf
    refine w_iald hx hb hK hP t_32 g_7 dX9_literalNow_9 ?_
    refine lv_goto (tgt := 47) hx hb dX9_literalNow_10 (by decide) ?_
    exact w_iret hx hb hr hlocks hP hS (rt_inv hf) dX9_literalNow_47
set_option maxHeartbeats 4000000 in
set_option maxRecDepth 100000 in
theorem c_X9_literal (l : Launch) (D : va_G) (y : y4) (ad : Nat → Nat) (aL aU : Nat) (hI : Inj ad) (n : Nat) (S : St) (a1 : Int32) (a2 : Int32) (r : Int32) (S2 : St) (hf : f_X9_literal n S a1 a2 = some (r, S2)) : KI l D y ad aL aU yX9_literal wsX9_literal ({ frames := 3, cells := 0, slots := 0, locals := 63 }) [.ref (ad 28), .int a1, .int a2] S r S2 := by
  refine Met.ofW (cc := cX9_literal) (maxL := 3) (ret := (some .int)) (by decide) rfl ?_
  intro p e s m args below meth c s₁ B hml hv
  obtain ⟨rfl, hP, hK, hZ⟩ := hv
  have hx := B.exec
  have hb := B.bytes
  have hr := B.returns
  have hts := atoms_spec (ws := wsX9_literal) B.pre
  have hown : s.vm.findClass RX9 = some m.cls := findClass_of_methodNamed B.named
  have hlocks := B.notSynchronized
  have hS : va_S (AA ad) s.heap s.heap [] := va_S.rf
  have K81 := hts (.constant RX9 81 (-2000000003)) (by decide +kernel)
  have K159 := hts (.constant RX9 159 (-2000000002)) (by decide +kernel)
  have hl := lv_entry ([.ref (ad 28), .int a1, .int a2]) (n := 3) (Nat.le_of_ble_eq_true rfl)
  rw [lg_entry_eq]
  generalize (lg_sl ([.ref (ad 28), .int a1, .int a2]) ++ List.replicate (3 - (lg_sl ([.ref (ad 28), .int a1, .int a2])).length) Slot.unset).toArray = ls at hl ⊢
  have hl : lv_has ls 3 [(0, .ref (ad 28)), (1, .int a1), (2, .int a2)] := hl
  unfold f_X9_literal at hf
  refine lv_aload_n hx hb dX9_literal_0 rfl (lv_at hl 0 rfl) ?_
  refine lv_iload_n hx hb dX9_literal_1 rfl (lv_at hl 1 rfl) ?_
  obtain ⟨r_1, S_2, hc_3, hf⟩ := bo_inv hf
  refine w_ci (va_runV (As := [.int a1]) (rest := []) ⟨hx, hb, hml, hown, hts⟩ (c_X9_isLiteral l D y ad aL aU hI n S a1 _ _ hc_3) (cwV 1 hts gX9_literal_X9_isLiteral rfl rfl rfl (by decide +kernel) ⟨Nat.le_of_ble_eq_true rfl, Nat.le_of_ble_eq_true rfl⟩) (pwu_V t_28 rfl hP hK hZ hS) rfl rfl hl.1 rfl (lv_room (Nat.le_of_ble_eq_true rfl)) dX9_literal_2 ⟨Nat.zero_le _, Nat.zero_le _⟩) hS (fun H locs hP hS => ?_)
  refine lv_if_ne (tgt := 11) hx hb dX9_literal_5 (by decide) (fun b_4 => ?_) (fun b_4 => ?_)
  · have hf := if_f b_4 hf
    refine lv_iload_n hx hb dX9_literal_11 rfl (lv_at hl 2 rfl) ?_
    refine lv_iconst (v := 0) hx hb dX9_literal_12 (by decide) ?_
    refine lv_iconst (v := 3) hx hb dX9_literal_13 (by decide) ?_
    obtain ⟨r_5, S_6, hc_7, hf⟩ := bo_inv hf
    refine w_ci (va_runS (As := [.int a2, .int (0 : Int32), .int (3 : Int32)]) (rest := []) ⟨hx, hb, hml, hown, hts⟩ (c_X9_within l D y ad aL aU hI n S_2 a2 (0 : Int32) (3 : Int32) _ _ hc_7) (cwS 3 hts gX9_literal_X9_within rfl rfl rfl (by decide +kernel) ⟨Nat.le_of_ble_eq_true rfl, Nat.le_of_ble_eq_true rfl⟩) (pwu_S hP hK hZ hS) rfl rfl hl.1 rfl (lv_room (Nat.le_of_ble_eq_true rfl)) dX9_literal_14 ⟨Nat.zero_le _, Nat.zero_le _⟩) hS (fun H locs hP hS => ?_)
    refine lv_if_eq (tgt := 29) hx hb dX9_literal_17 (by decide) (fun b_8 => ?_) (fun b_8 => ?_)
    · have hf := if_t b_8 hf
      refine lv_ldc (v := (-2000000003)) hx hb hown K81 dX9_literal_29 ?_
      exact w_iret hx hb hr hlocks hP hS (rt_inv hf) dX9_literal_31
    · have hf := if_f b_8 hf
      refine lv_aload_n hx hb dX9_literal_20 rfl (lv_at hl 0 rfl) ?_
      refine lv_iload_n hx hb dX9_literal_21 rfl (lv_at hl 1 rfl) ?_
      refine lv_iload_n hx hb dX9_literal_22 rfl (lv_at hl 2 rfl) ?_
      obtain ⟨r_9, S_10, hc_11, hf⟩ := bo_inv hf
      refine w_ci (va_runV (As := [.int a1, .int a2]) (rest := []) ⟨hx, hb, hml, hown, hts⟩ (c_X9_literalNow l D y ad aL aU hI n S_6 a1 a2 _ _ hc_11) (cwV 2 hts gX9_literal_X9_literalNow rfl rfl rfl (by decide +kernel) ⟨Nat.le_of_ble_eq_true rfl, Nat.le_of_ble_eq_true rfl⟩) (pwu_V t_28 rfl hP hK hZ hS) rfl rfl hl.1 rfl (lv_room (Nat.le_of_ble_eq_true rfl)) dX9_literal_23 ⟨Nat.zero_le _, Nat.zero_le _⟩) hS (fun H locs hP hS => ?_)
      refine lv_goto (tgt := 31) hx hb dX9_literal_26 (by decide) ?_
      exact w_iret hx hb hr hlocks hP hS (rt_inv hf) dX9_literal_31
  · have hf := if_t b_4 hf
    refine lv_ldc (v := (-2000000002)) hx hb hown K159 dX9_literal_8 ?_
    exact w_iret hx hb hr hlocks hP hS (rt_inv hf) dX9_literal_10
set_option maxHeartbeats 4000000 in
set_option maxRecDepth 100000 in
theorem c_X9_lettersIn (l : Launch) (D : va_G) (y : y4) (ad : Nat → Nat) (aL aU : Nat) (hI : Inj ad) (n : Nat) (S : St) (a1 : Int32) (r : Int32) (S2 : St) (hf : f_X9_lettersIn n S a1 = some (r, S2)) : KI l D y ad aL aU yX9_lettersIn wsX9_lettersIn ({ frames := 1, cells := 0, slots := 0, locals := 20 }) [.ref (ad 28), .int a1] S r S2 := by
  refine Met.ofW (cc := cX9_lettersIn) (maxL := 3) (ret := (some .int)) (by decide) rfl ?_
  intro p e s m args below meth c s₁ B hml hv
  obtain ⟨rfl, hP, hK, hZ⟩ := hv
  have hx := B.exec
  have hb := B.bytes
  have hr := B.returns
  have hts := atoms_spec (ws := wsX9_lettersIn) B.pre
  have hown : s.vm.findClass RX9 = some m.cls := findClass_of_methodNamed B.named
  have hlocks := B.notSynchronized
  have hS : va_S (AA ad) s.heap s.heap [] := va_S.rf
  have L28 := hts (.fieldLink RX9 28 "JoinedTheoriesModel" "kindOf" "[I") (by decide +kernel)
  have L31 := hts (.fieldLink RX9 31 "JoinedTheoriesModel" "firstOf" "[I") (by decide +kernel)
  have L34 := hts (.fieldLink RX9 34 "JoinedTheoriesModel" "secondOf" "[I") (by decide +kernel)
  have L71 := hts (.fieldLink RX9 71 "JoinedTheoriesModel" "lettersOf" "[I") (by decide +kernel)
  have n9 : ∀ w ∈ wsX90, w ∈ wsX9_lettersIn := by decide +kernel
  have hl := lv_entry ([.ref (ad 28), .int a1]) (n := 3) (Nat.le_of_ble_eq_true rfl)
  rw [lg_entry_eq]
  generalize (lg_sl ([.ref (ad 28), .int a1]) ++ List.replicate (3 - (lg_sl ([.ref (ad 28), .int a1])).length) Slot.unset).toArray = ls at hl ⊢
  have hl : lv_has ls 3 [(0, .ref (ad 28)), (1, .int a1)] := hl
  have j76 : ∀ (x1 : Int32) (k2 : St → Int32 → Option (Int32 × St)) (hk2 : ∀ (S : St) (x2 : Int32) (H : Heap) (locs : List Loc) (ls : Array Slot), k2 S x2 = some (r, S2) → PW D y ad S H → va_S (AA ad) s.heap H locs → lv_has ls 3 [(0, .ref (ad 28)), (1, .int x1), (2, .int x2)] → W p l e (headSpec wsX9_lettersIn ({ frames := 1, cells := 0, slots := 0, locals := 20 })).room s m ([.ref (ad 28), .int a1] : List Value).toArray below meth c H locs 0 0 (QI below r S2 D y ad ([.ref (ad 28), .int a1] : List Value).toArray s) (F0 m 2 ls [])), ∀ (S : St) (x2 : Int32) (t1 : Int32) (t2 : Int32) (H : Heap) (locs : List Loc) (ls : Array Slot), f_X9_lettersIn_76 n x1 k2 S x2 t1 t2 = some (r, S2) → PW D y ad S H → va_S (AA ad) s.heap H locs → lv_has ls 3 [(0, .ref (ad 28)), (1, .int x1), (2, .int x2)] → W p l e (headSpec wsX9_lettersIn ({ frames := 1, cells := 0, slots := 0, locals := 20 })).room s m ([.ref (ad 28), .int a1] : List Value).toArray below meth c H locs 0 0 (QI below r S2 D y ad ([.ref (ad 28), .int a1] : List Value).toArray s) (F0 m 76 ls [.int t2, .int t1, .ref (ad 49)]) := by
    intro x1 k2 hk2 S x2 t1 t2 H locs ls hf hP hS hl
    unfold f_X9_lettersIn_76 at hf
    obtain ⟨g_1, hf⟩ := gd_inv hf
    obtain ⟨S_2, eS_2, hf⟩ := bd_inv hf
    refine w_iast hx hb hK hI hP hS t_49 g_1 dX9_lettersIn_76 (fun H locs hP hS => ?_)
    rw [← eS_2] at hP
    obtain ⟨x2_3, ex2_3, hf⟩ := bd_inv hf
    refine lv_iinc (v := x2_3) (lv' := [(2, .int x2_3), (0, .ref (ad 28)), (1, .int x1)]) hx hb dX9_lettersIn_77 hl (k := 2) rfl (by rw [ex2_3]; rfl) (by decide) rfl (fun ls hl => ?_)
    refine lv_goto (tgt := 2) hx hb dX9_lettersIn_80 (by decide) ?_
    exact hk2 S_2 x2_3 _ _ _ hf hP hS (lv_sub hl [1, 2, 0] rfl)
  have b2 : ∀ (x1 : Int32) (k2 : St → Int32 → Option (Int32 × St)) (hk2 : ∀ (S : St) (x2 : Int32) (H : Heap) (locs : List Loc) (ls : Array Slot), k2 S x2 = some (r, S2) → PW D y ad S H → va_S (AA ad) s.heap H locs → lv_has ls 3 [(0, .ref (ad 28)), (1, .int x1), (2, .int x2)] → W p l e (headSpec wsX9_lettersIn ({ frames := 1, cells := 0, slots := 0, locals := 20 })).room s m ([.ref (ad 28), .int a1] : List Value).toArray below meth c H locs 0 0 (QI below r S2 D y ad ([.ref (ad 28), .int a1] : List Value).toArray s) (F0 m 2 ls [])), ∀ (S : St) (x2 : Int32) (H : Heap) (locs : List Loc) (ls : Array Slot), f_X9_lettersIn_2 n x1 k2 S x2 = some (r, S2) → PW D y ad S H → va_S (AA ad) s.heap H locs → lv_has ls 3 [(0, .ref (ad 28)), (1, .int x1), (2, .int x2)] → W p l e (headSpec wsX9_lettersIn ({ frames := 1, cells := 0, slots := 0, locals := 20 })).room s m ([.ref (ad 28), .int a1] : List Value).toArray below meth c H locs 0 0 (QI below r S2 D y ad ([.ref (ad 28), .int a1] : List Value).toArray s) (F0 m 2 ls []) := by
    intro x1 k2 hk2 S x2 H locs ls hf hP hS hl
    unfold f_X9_lettersIn_2 at hf
    refine lv_iload_n hx hb dX9_lettersIn_2 rfl (lv_at hl 2 rfl) ?_
    refine lv_iload_n hx hb dX9_lettersIn_3 rfl (lv_at hl 1 rfl) ?_
    refine lv_icmp_gt (tgt := 83) hx hb dX9_lettersIn_4 (by decide) (fun b_4 => ?_) (fun b_4 => ?_)
    · have hf := if_t b_4 hf
      refine lv_aload_n hx hb dX9_lettersIn_83 rfl (lv_at hl 0 rfl) ?_
      refine w_gR (z := 49) (C := RX9) (T := TX9) hx hb hts n9 hown hK hP t_28 rfl 46 (by decide) L71 rfl rfl dX9_lettersIn_84 ?_
      refine lv_iload_n hx hb dX9_lettersIn_87 rfl (lv_at hl 1 rfl) ?_
      obtain ⟨g_5, hf⟩ := gd_inv hf
      refine w_iald hx hb hK hP t_49 g_5 dX9_lettersIn_88 ?_
      exact w_iret hx hb hr hlocks hP hS (rt_inv hf) dX9_lettersIn_89
    · have hf := if_f b_4 hf
      refine lv_aload_n hx hb dX9_lettersIn_7 rfl (lv_at hl 0 rfl) ?_
      refine w_gR (z := 49) (C := RX9) (T := TX9) hx hb hts n9 hown hK hP t_28 rfl 46 (by decide) L71 rfl rfl dX9_lettersIn_8 ?_
      refine lv_iload_n hx hb dX9_lettersIn_11 rfl (lv_at hl 2 rfl) ?_
      refine lv_aload_n hx hb dX9_lettersIn_12 rfl (lv_at hl 0 rfl) ?_
      refine w_gR (z := 35) (C := RX9) (T := TX9) hx hb hts n9 hown hK hP t_28 rfl 19 (by decide) L28 rfl rfl dX9_lettersIn_13 ?_
      refine lv_iload_n hx hb dX9_lettersIn_16 rfl (lv_at hl 2 rfl) ?_
      obtain ⟨g_6, hf⟩ := gd_inv hf
      refine w_iald hx hb hK hP t_35 g_6 dX9_lettersIn_17 ?_
      refine lv_if_ne (tgt := 25) hx hb dX9_lettersIn_18 (by decide) (fun b_7 => ?_) (fun b_7 => ?_)
      · have hf := if_f b_7 hf
        refine lv_aload_n hx hb dX9_lettersIn_25 rfl (lv_at hl 0 rfl) ?_
        refine w_gR (z := 35) (C := RX9) (T := TX9) hx hb hts n9 hown hK hP t_28 rfl 19 (by decide) L28 rfl rfl dX9_lettersIn_26 ?_
        refine lv_iload_n hx hb dX9_lettersIn_29 rfl (lv_at hl 2 rfl) ?_
        obtain ⟨g_8, hf⟩ := gd_inv hf
        refine w_iald hx hb hK hP t_35 g_8 dX9_lettersIn_30 ?_
        refine lv_iconst (v := 1) hx hb dX9_lettersIn_31 (by decide) ?_
        refine lv_icmp_ne (tgt := 51) hx hb dX9_lettersIn_32 (by decide) (fun b_9 => ?_) (fun b_9 => ?_)
        · have hf := if_f b_9 hf
          refine lv_iconst (v := 4) hx hb dX9_lettersIn_51 (by decide) ?_
          refine lv_aload_n hx hb dX9_lettersIn_52 rfl (lv_at hl 0 rfl) ?_
          refine w_gR (z := 49) (C := RX9) (T := TX9) hx hb hts n9 hown hK hP t_28 rfl 46 (by decide) L71 rfl rfl dX9_lettersIn_53 ?_
          refine lv_aload_n hx hb dX9_lettersIn_56 rfl (lv_at hl 0 rfl) ?_
          refine w_gR (z := 36) (C := RX9) (T := TX9) hx hb hts n9 hown hK hP t_28 rfl 20 (by decide) L31 rfl rfl dX9_lettersIn_57 ?_
          refine lv_iload_n hx hb dX9_lettersIn_60 rfl (lv_at hl 2 rfl) ?_
          obtain ⟨g_10, hf⟩ := gd_inv hf
          refine w_iald hx hb hK hP t_36 g_10 dX9_lettersIn_61 ?_
          obtain ⟨g_11, hf⟩ := gd_inv hf
          refine w_iald hx hb hK hP t_49 g_11 dX9_lettersIn_62 ?_
          refine lv_iadd hx hb dX9_lettersIn_63 ?_
          refine lv_aload_n hx hb dX9_lettersIn_64 rfl (lv_at hl 0 rfl) ?_
          refine w_gR (z := 49) (C := RX9) (T := TX9) hx hb hts n9 hown hK hP t_28 rfl 46 (by decide) L71 rfl rfl dX9_lettersIn_65 ?_
          refine lv_aload_n hx hb dX9_lettersIn_68 rfl (lv_at hl 0 rfl) ?_
          refine w_gR (z := 37) (C := RX9) (T := TX9) hx hb hts n9 hown hK hP t_28 rfl 21 (by decide) L34 rfl rfl dX9_lettersIn_69 ?_
          refine lv_iload_n hx hb dX9_lettersIn_72 rfl (lv_at hl 2 rfl) ?_
          obtain ⟨g_12, hf⟩ := gd_inv hf
          refine w_iald hx hb hK hP t_37 g_12 dX9_lettersIn_73 ?_
          obtain ⟨g_13, hf⟩ := gd_inv hf
          refine w_iald hx hb hK hP t_49 g_13 dX9_lettersIn_74 ?_
          refine lv_iadd hx hb dX9_lettersIn_75 ?_
          exact j76 x1 k2 hk2 S x2 x2 ((((4 : Int32) + (S.1 49 ((S.1 36 (x2).toNatClampNeg)).toNatClampNeg)) + (S.1 49 ((S.1 37 (x2).toNatClampNeg)).toNatClampNeg))) _ _ _ hf hP hS (lv_sub hl [0, 1, 2] rfl)
        · have hf := if_t b_9 hf
          refine lv_iconst (v := 3) hx hb dX9_lettersIn_35 (by decide) ?_
          refine lv_aload_n hx hb dX9_lettersIn_36 rfl (lv_at hl 0 rfl) ?_
          refine w_gR (z := 49) (C := RX9) (T := TX9) hx hb hts n9 hown hK hP t_28 rfl 46 (by decide) L71 rfl rfl dX9_lettersIn_37 ?_
          refine lv_aload_n hx hb dX9_lettersIn_40 rfl (lv_at hl 0 rfl) ?_
          refine w_gR (z := 36) (C := RX9) (T := TX9) hx hb hts n9 hown hK hP t_28 rfl 20 (by decide) L31 rfl rfl dX9_lettersIn_41 ?_
          refine lv_iload_n hx hb dX9_lettersIn_44 rfl (lv_at hl 2 rfl) ?_
          obtain ⟨g_14, hf⟩ := gd_inv hf
          refine w_iald hx hb hK hP t_36 g_14 dX9_lettersIn_45 ?_
          obtain ⟨g_15, hf⟩ := gd_inv hf
          refine w_iald hx hb hK hP t_49 g_15 dX9_lettersIn_46 ?_
          refine lv_iadd hx hb dX9_lettersIn_47 ?_
          refine lv_goto (tgt := 76) hx hb dX9_lettersIn_48 (by decide) ?_
          exact j76 x1 k2 hk2 S x2 x2 (((3 : Int32) + (S.1 49 ((S.1 36 (x2).toNatClampNeg)).toNatClampNeg))) _ _ _ hf hP hS (lv_sub hl [0, 1, 2] rfl)
      · have hf := if_t b_7 hf
        refine lv_iconst (v := 1) hx hb dX9_lettersIn_21 (by decide) ?_
        refine lv_goto (tgt := 76) hx hb dX9_lettersIn_22 (by decide) ?_
        exact j76 x1 k2 hk2 S x2 x2 ((1 : Int32)) _ _ _ hf hP hS (lv_sub hl [0, 1, 2] rfl)
  have j2 : ∀ (x1 : Int32) (fu : Nat), ∀ (S : St) (x2 : Int32) (H : Heap) (locs : List Loc) (ls : Array Slot), fixF (fun _ _ => none) (f_X9_lettersIn_2 n x1) fu S x2 = some (r, S2) → PW D y ad S H → va_S (AA ad) s.heap H locs → lv_has ls 3 [(0, .ref (ad 28)), (1, .int x1), (2, .int x2)] → W p l e (headSpec wsX9_lettersIn ({ frames := 1, cells := 0, slots := 0, locals := 20 })).room s m ([.ref (ad 28), .int a1] : List Value).toArray below meth c H locs 0 0 (QI below r S2 D y ad ([.ref (ad 28), .int a1] : List Value).toArray s) (F0 m 2 ls []) := by
    intro x1  fu
    induction fu with
    | zero => intro S x2 H locs ls hf hP hS hl; cases hf
    | succ fu ih => exact b2 x1  (fixF (fun _ _ => none) (f_X9_lettersIn_2 n x1) fu) ih
  unfold f_X9_lettersIn at hf
  refine lv_iconst (v := 0) hx hb dX9_lettersIn_0 (by decide) ?_
  obtain ⟨x2_16, ex2_16, hf⟩ := bd_inv hf
  refine w_topI ex2_16 ?_
  refine lv_istore_n (lv' := [(2, .int x2_16), (0, .ref (ad 28)), (1, .int a1)]) hx hb dX9_lettersIn_1 rfl hl (by decide) rfl (fun ls hl => ?_)
  exact j2 a1  n S x2_16 _ _ _ hf hP hS (lv_sub hl [1, 2, 0] rfl)
set_option maxHeartbeats 4000000 in
set_option maxRecDepth 100000 in
theorem c_X9_sameAs (l : Launch) (D : va_G) (y : y4) (ad : Nat → Nat) (aL aU : Nat) (hI : Inj ad) (n : Nat) (S : St) (a1 : Int32) (r : Int32) (S2 : St) (hf : f_X9_sameAs n S a1 = some (r, S2)) : KI l D y ad aL aU yX9_sameAs wsX9_sameAs ({ frames := 4, cells := 0, slots := 0, locals := 91 }) [.ref (ad 28), .int a1] S r S2 := by
  refine Met.ofW (cc := cX9_sameAs) (maxL := 2) (ret := (some .int)) (by decide) rfl ?_
  intro p e s m args below meth c s₁ B hml hv
  obtain ⟨rfl, hP, hK, hZ⟩ := hv
  have hx := B.exec
  have hb := B.bytes
  have hr := B.returns
  have hts := atoms_spec (ws := wsX9_sameAs) B.pre
  have hown : s.vm.findClass RX9 = some m.cls := findClass_of_methodNamed B.named
  have hlocks := B.notSynchronized
  have hS : va_S (AA ad) s.heap s.heap [] := va_S.rf
  have L46 := hts (.fieldLink RX9 46 "JoinedTheoriesModel" "sameOf" "[I") (by decide +kernel)
  have n9 : ∀ w ∈ wsX90, w ∈ wsX9_sameAs := by decide +kernel
  have hl := lv_entry ([.ref (ad 28), .int a1]) (n := 2) (Nat.le_of_ble_eq_true rfl)
  rw [lg_entry_eq]
  generalize (lg_sl ([.ref (ad 28), .int a1]) ++ List.replicate (2 - (lg_sl ([.ref (ad 28), .int a1])).length) Slot.unset).toArray = ls at hl ⊢
  have hl : lv_has ls 2 [(0, .ref (ad 28)), (1, .int a1)] := hl
  unfold f_X9_sameAs at hf
  refine lv_aload_n hx hb dX9_sameAs_0 rfl (lv_at hl 0 rfl) ?_
  obtain ⟨r_1, S_2, hc_3, hf⟩ := bo_inv hf
  refine w_cv (va_runV (As := []) (rest := []) ⟨hx, hb, hml, hown, hts⟩ (c_X9_layExchange l D y ad aL aU hI n S  _ _ hc_3) (cwV 0 hts gX9_sameAs_X9_layExchange rfl rfl rfl (by decide +kernel) ⟨Nat.le_of_ble_eq_true rfl, Nat.le_of_ble_eq_true rfl⟩) (pwu_V t_28 rfl hP hK hZ hS) rfl rfl hl.1 rfl (lv_room (Nat.le_of_ble_eq_true rfl)) dX9_sameAs_1 ⟨Nat.zero_le _, Nat.zero_le _⟩) hS (fun H locs hP hS => ?_)
  refine lv_aload_n hx hb dX9_sameAs_4 rfl (lv_at hl 0 rfl) ?_
  refine w_gR (z := 41) (C := RX9) (T := TX9) hx hb hts n9 hown hK hP t_28 rfl 25 (by decide) L46 rfl rfl dX9_sameAs_5 ?_
  refine lv_iload_n hx hb dX9_sameAs_8 rfl (lv_at hl 1 rfl) ?_
  obtain ⟨g_4, hf⟩ := gd_inv hf
  refine w_iald hx hb hK hP t_41 g_4 dX9_sameAs_9 ?_
  exact w_iret hx hb hr hlocks hP hS (rt_inv hf) dX9_sameAs_10
set_option maxHeartbeats 4000000 in
set_option maxRecDepth 100000 in
theorem c_X9_literalsWith (l : Launch) (D : va_G) (y : y4) (ad : Nat → Nat) (aL aU : Nat) (hI : Inj ad) (n : Nat) (S : St) (a1 : Int32) (r : Int32) (S2 : St) (hf : f_X9_literalsWith n S a1 = some (r, S2)) : KI l D y ad aL aU yX9_literalsWith wsX9_literalsWith ({ frames := 1, cells := 0, slots := 0, locals := 20 }) [.ref (ad 28), .int a1] S r S2 := by
  refine Met.ofW (cc := cX9_literalsWith) (maxL := 4) (ret := (some .int)) (by decide) rfl ?_
  intro p e s m args below meth c s₁ B hml hv
  obtain ⟨rfl, hP, hK, hZ⟩ := hv
  have hx := B.exec
  have hb := B.bytes
  have hr := B.returns
  have hts := atoms_spec (ws := wsX9_literalsWith) B.pre
  have hown : s.vm.findClass RX9 = some m.cls := findClass_of_methodNamed B.named
  have hlocks := B.notSynchronized
  have hS : va_S (AA ad) s.heap s.heap [] := va_S.rf
  have L37 := hts (.fieldLink RX9 37 "JoinedTheoriesModel" "leftOf" "[I") (by decide +kernel)
  have L40 := hts (.fieldLink RX9 40 "JoinedTheoriesModel" "rightOf" "[I") (by decide +kernel)
  have L141 := hts (.fieldLink RX9 141 "JoinedTheoriesModel" "literals" "I") (by decide +kernel)
  have n9 : ∀ w ∈ wsX90, w ∈ wsX9_literalsWith := by decide +kernel
  have hl := lv_entry ([.ref (ad 28), .int a1]) (n := 4) (Nat.le_of_ble_eq_true rfl)
  rw [lg_entry_eq]
  generalize (lg_sl ([.ref (ad 28), .int a1]) ++ List.replicate (4 - (lg_sl ([.ref (ad 28), .int a1])).length) Slot.unset).toArray = ls at hl ⊢
  have hl : lv_has ls 4 [(0, .ref (ad 28)), (1, .int a1)] := hl
  have j38 : ∀ (x1 : Int32) (k4 : St → Int32 → Int32 → Option (Int32 × St)) (hk4 : ∀ (S : St) (x2 : Int32) (x3 : Int32) (H : Heap) (locs : List Loc) (ls : Array Slot), k4 S x2 x3 = some (r, S2) → PW D y ad S H → va_S (AA ad) s.heap H locs → lv_has ls 4 [(0, .ref (ad 28)), (1, .int x1), (2, .int x2), (3, .int x3)] → W p l e (headSpec wsX9_literalsWith ({ frames := 1, cells := 0, slots := 0, locals := 20 })).room s m ([.ref (ad 28), .int a1] : List Value).toArray below meth c H locs 0 0 (QI below r S2 D y ad ([.ref (ad 28), .int a1] : List Value).toArray s) (F0 m 4 ls [])), ∀ (S : St) (x3 : Int32) (t0 : Int32) (t1 : Int32) (H : Heap) (locs : List Loc) (ls : Array Slot), f_X9_literalsWith_38 n x1 k4 S x3 t0 t1 = some (r, S2) → PW D y ad S H → va_S (AA ad) s.heap H locs → lv_has ls 4 [(0, .ref (ad 28)), (1, .int x1), (3, .int x3)] → W p l e (headSpec wsX9_literalsWith ({ frames := 1, cells := 0, slots := 0, locals := 20 })).room s m ([.ref (ad 28), .int a1] : List Value).toArray below meth c H locs 0 0 (QI below r S2 D y ad ([.ref (ad 28), .int a1] : List Value).toArray s) (F0 m 38 ls [.int t1, .int t0]) := by
    intro x1 k4 hk4 S x3 t0 t1 H locs ls hf hP hS hl
    unfold f_X9_literalsWith_38 at hf
    refine lv_iadd hx hb dX9_literalsWith_38 ?_
    obtain ⟨x2_1, ex2_1, hf⟩ := bd_inv hf
    refine w_topI ex2_1 ?_
    refine lv_istore_n (lv' := [(2, .int x2_1), (0, .ref (ad 28)), (1, .int x1), (3, .int x3)]) hx hb dX9_literalsWith_39 rfl hl (by decide) rfl (fun ls hl => ?_)
    obtain ⟨x3_2, ex3_2, hf⟩ := bd_inv hf
    refine lv_iinc (v := x3_2) (lv' := [(3, .int x3_2), (2, .int x2_1), (0, .ref (ad 28)), (1, .int x1)]) hx hb dX9_literalsWith_40 hl (k := 3) rfl (by rw [ex3_2]; rfl) (by decide) rfl (fun ls hl => ?_)
    refine lv_goto (tgt := 4) hx hb dX9_literalsWith_43 (by decide) ?_
    exact hk4 S x2_1 x3_2 _ _ _ hf hP hS (lv_sub hl [2, 3, 1, 0] rfl)
  have j33 : ∀ (x1 : Int32) (k4 : St → Int32 → Int32 → Option (Int32 × St)) (hk4 : ∀ (S : St) (x2 : Int32) (x3 : Int32) (H : Heap) (locs : List Loc) (ls : Array Slot), k4 S x2 x3 = some (r, S2) → PW D y ad S H → va_S (AA ad) s.heap H locs → lv_has ls 4 [(0, .ref (ad 28)), (1, .int x1), (2, .int x2), (3, .int x3)] → W p l e (headSpec wsX9_literalsWith ({ frames := 1, cells := 0, slots := 0, locals := 20 })).room s m ([.ref (ad 28), .int a1] : List Value).toArray below meth c H locs 0 0 (QI below r S2 D y ad ([.ref (ad 28), .int a1] : List Value).toArray s) (F0 m 4 ls [])), ∀ (S : St) (x3 : Int32) (t0 : Int32) (H : Heap) (locs : List Loc) (ls : Array Slot), f_X9_literalsWith_33 n x1 k4 S x3 t0 = some (r, S2) → PW D y ad S H → va_S (AA ad) s.heap H locs → lv_has ls 4 [(0, .ref (ad 28)), (1, .int x1), (3, .int x3)] → W p l e (headSpec wsX9_literalsWith ({ frames := 1, cells := 0, slots := 0, locals := 20 })).room s m ([.ref (ad 28), .int a1] : List Value).toArray below meth c H locs 0 0 (QI below r S2 D y ad ([.ref (ad 28), .int a1] : List Value).toArray s) (F0 m 33 ls [.int t0]) := by
    intro x1 k4 hk4 S x3 t0 H locs ls hf hP hS hl
    unfold f_X9_literalsWith_33 at hf
    refine lv_iconst (v := 1) hx hb dX9_literalsWith_33 (by decide) ?_
    refine lv_goto (tgt := 38) hx hb dX9_literalsWith_34 (by decide) ?_
    exact j38 x1 k4 hk4 S x3 t0 ((1 : Int32)) _ _ _ hf hP hS (lv_sub hl [0, 1, 2] rfl)
  have b4 : ∀ (x1 : Int32) (k4 : St → Int32 → Int32 → Option (Int32 × St)) (hk4 : ∀ (S : St) (x2 : Int32) (x3 : Int32) (H : Heap) (locs : List Loc) (ls : Array Slot), k4 S x2 x3 = some (r, S2) → PW D y ad S H → va_S (AA ad) s.heap H locs → lv_has ls 4 [(0, .ref (ad 28)), (1, .int x1), (2, .int x2), (3, .int x3)] → W p l e (headSpec wsX9_literalsWith ({ frames := 1, cells := 0, slots := 0, locals := 20 })).room s m ([.ref (ad 28), .int a1] : List Value).toArray below meth c H locs 0 0 (QI below r S2 D y ad ([.ref (ad 28), .int a1] : List Value).toArray s) (F0 m 4 ls [])), ∀ (S : St) (x2 : Int32) (x3 : Int32) (H : Heap) (locs : List Loc) (ls : Array Slot), f_X9_literalsWith_4 n x1 k4 S x2 x3 = some (r, S2) → PW D y ad S H → va_S (AA ad) s.heap H locs → lv_has ls 4 [(0, .ref (ad 28)), (1, .int x1), (2, .int x2), (3, .int x3)] → W p l e (headSpec wsX9_literalsWith ({ frames := 1, cells := 0, slots := 0, locals := 20 })).room s m ([.ref (ad 28), .int a1] : List Value).toArray below meth c H locs 0 0 (QI below r S2 D y ad ([.ref (ad 28), .int a1] : List Value).toArray s) (F0 m 4 ls []) := by
    intro x1 k4 hk4 S x2 x3 H locs ls hf hP hS hl
    unfold f_X9_literalsWith_4 at hf
    refine lv_iload_n hx hb dX9_literalsWith_4 rfl (lv_at hl 3 rfl) ?_
    refine lv_aload_n hx hb dX9_literalsWith_5 rfl (lv_at hl 0 rfl) ?_
    refine w_gI (C := RX9) (T := TX9) hx hb hts n9 hown hK hP t_28 rfl 2 (by decide) L141 rfl dX9_literalsWith_6 ?_
    refine lv_icmp_ge (tgt := 46) hx hb dX9_literalsWith_9 (by decide) (fun b_3 => ?_) (fun b_3 => ?_)
    · have hf := if_t b_3 hf
      refine lv_iload_n hx hb dX9_literalsWith_46 rfl (lv_at hl 2 rfl) ?_
      exact w_iret hx hb hr hlocks hP hS (rt_inv hf) dX9_literalsWith_47
    · have hf := if_f b_3 hf
      refine lv_iload_n hx hb dX9_literalsWith_12 rfl (lv_at hl 2 rfl) ?_
      refine lv_aload_n hx hb dX9_literalsWith_13 rfl (lv_at hl 0 rfl) ?_
      refine w_gR (z := 38) (C := RX9) (T := TX9) hx hb hts n9 hown hK hP t_28 rfl 22 (by decide) L37 rfl rfl dX9_literalsWith_14 ?_
      refine lv_iload_n hx hb dX9_literalsWith_17 rfl (lv_at hl 3 rfl) ?_
      obtain ⟨g_4, hf⟩ := gd_inv hf
      refine w_iald hx hb hK hP t_38 g_4 dX9_literalsWith_18 ?_
      refine lv_iload_n hx hb dX9_literalsWith_19 rfl (lv_at hl 1 rfl) ?_
      refine lv_icmp_eq (tgt := 33) hx hb dX9_literalsWith_20 (by decide) (fun b_5 => ?_) (fun b_5 => ?_)
      · have hf := if_t b_5 hf
        exact j33 x1 k4 hk4 S x3 x2 _ _ _ hf hP hS (lv_sub hl [0, 1, 3] rfl)
      · have hf := if_f b_5 hf
        refine lv_aload_n hx hb dX9_literalsWith_23 rfl (lv_at hl 0 rfl) ?_
        refine w_gR (z := 39) (C := RX9) (T := TX9) hx hb hts n9 hown hK hP t_28 rfl 23 (by decide) L40 rfl rfl dX9_literalsWith_24 ?_
        refine lv_iload_n hx hb dX9_literalsWith_27 rfl (lv_at hl 3 rfl) ?_
        obtain ⟨g_6, hf⟩ := gd_inv hf
        refine w_iald hx hb hK hP t_39 g_6 dX9_literalsWith_28 ?_
        refine lv_iload_n hx hb dX9_literalsWith_29 rfl (lv_at hl 1 rfl) ?_
        refine lv_icmp_ne (tgt := 37) hx hb dX9_literalsWith_30 (by decide) (fun b_7 => ?_) (fun b_7 => ?_)
        · have hf := if_f b_7 hf
          refine lv_iconst (v := 0) hx hb dX9_literalsWith_37 (by decide) ?_
          exact j38 x1 k4 hk4 S x3 x2 ((0 : Int32)) _ _ _ hf hP hS (lv_sub hl [0, 1, 3] rfl)
        · have hf := if_t b_7 hf
          exact j33 x1 k4 hk4 S x3 x2 _ _ _ hf hP hS (lv_sub hl [0, 1, 3] rfl)
  have j4 : ∀ (x1 : Int32) (fu : Nat), ∀ (S : St) (x2 : Int32) (x3 : Int32) (H : Heap) (locs : List Loc) (ls : Array Slot), fixF (fun _ _ _ => none) (f_X9_literalsWith_4 n x1) fu S x2 x3 = some (r, S2) → PW D y ad S H → va_S (AA ad) s.heap H locs → lv_has ls 4 [(0, .ref (ad 28)), (1, .int x1), (2, .int x2), (3, .int x3)] → W p l e (headSpec wsX9_literalsWith ({ frames := 1, cells := 0, slots := 0, locals := 20 })).room s m ([.ref (ad 28), .int a1] : List Value).toArray below meth c H locs 0 0 (QI below r S2 D y ad ([.ref (ad 28), .int a1] : List Value).toArray s) (F0 m 4 ls []) := by
    intro x1  fu
    induction fu with
    | zero => intro S x2 x3 H locs ls hf hP hS hl; cases hf
    | succ fu ih => exact b4 x1  (fixF (fun _ _ _ => none) (f_X9_literalsWith_4 n x1) fu) ih
  unfold f_X9_literalsWith at hf
  refine lv_iconst (v := 0) hx hb dX9_literalsWith_0 (by decide) ?_
  obtain ⟨x2_8, ex2_8, hf⟩ := bd_inv hf
  refine w_topI ex2_8 ?_
  refine lv_istore_n (lv' := [(2, .int x2_8), (0, .ref (ad 28)), (1, .int a1)]) hx hb dX9_literalsWith_1 rfl hl (by decide) rfl (fun ls hl => ?_)
  refine lv_iconst (v := 0) hx hb dX9_literalsWith_2 (by decide) ?_
  obtain ⟨x3_9, ex3_9, hf⟩ := bd_inv hf
  refine w_topI ex3_9 ?_
  refine lv_istore_n (lv' := [(3, .int x3_9), (2, .int x2_8), (0, .ref (ad 28)), (1, .int a1)]) hx hb dX9_literalsWith_3 rfl hl (by decide) rfl (fun ls hl => ?_)
  exact j4 a1  n S x2_8 x3_9 _ _ _ hf hP hS (lv_sub hl [2, 3, 1, 0] rfl)
set_option maxHeartbeats 4000000 in
set_option maxRecDepth 100000 in
theorem c_X9_termNow (l : Launch) (D : va_G) (y : y4) (ad : Nat → Nat) (aL aU : Nat) (hI : Inj ad) (n : Nat) (S : St) (a1 : Int32) (a2 : Int32) (r : Int32) (S2 : St) (hf : f_X9_termNow n S a1 a2 = some (r, S2)) : KI l D y ad aL aU yX9_termNow wsX9_termNow ({ frames := 5, cells := 0, slots := 0, locals := 112 }) [.ref (ad 28), .int a1, .int a2] S r S2 := by
  refine Met.ofW (cc := cX9_termNow) (maxL := 3) (ret := (some .int)) (by decide) rfl ?_
  intro p e s m args below meth c s₁ B hml hv
  obtain ⟨rfl, hP, hK, hZ⟩ := hv
  have hx := B.exec
  have hb := B.bytes
  have hr := B.returns
  have hts := atoms_spec (ws := wsX9_termNow) B.pre
  have hown : s.vm.findClass RX9 = some m.cls := findClass_of_methodNamed B.named
  have hlocks := B.notSynchronized
  have hS : va_S (AA ad) s.heap s.heap [] := va_S.rf
  have L28 := hts (.fieldLink RX9 28 "JoinedTheoriesModel" "kindOf" "[I") (by decide +kernel)
  have L31 := hts (.fieldLink RX9 31 "JoinedTheoriesModel" "firstOf" "[I") (by decide +kernel)
  have L34 := hts (.fieldLink RX9 34 "JoinedTheoriesModel" "secondOf" "[I") (by decide +kernel)
  have n9 : ∀ w ∈ wsX90, w ∈ wsX9_termNow := by decide +kernel
  have hl := lv_entry ([.ref (ad 28), .int a1, .int a2]) (n := 3) (Nat.le_of_ble_eq_true rfl)
  rw [lg_entry_eq]
  generalize (lg_sl ([.ref (ad 28), .int a1, .int a2]) ++ List.replicate (3 - (lg_sl ([.ref (ad 28), .int a1, .int a2])).length) Slot.unset).toArray = ls at hl ⊢
  have hl : lv_has ls 3 [(0, .ref (ad 28)), (1, .int a1), (2, .int a2)] := hl
  unfold f_X9_termNow at hf
  refine lv_iload_n hx hb dX9_termNow_0 rfl (lv_at hl 2 rfl) ?_
  by_cases b_1 : a2 = (0 : Int32)
  · have hf := if_t b_1 hf
    refine lv_tableIn (tgt := 36) hx hb dX9_termNow_1 (by rw [b_1]; decide) (by rw [b_1]; decide) (by rw [b_1]; rfl) (by decide) ?_
    refine lv_aload_n hx hb dX9_termNow_36 rfl (lv_at hl 0 rfl) ?_
    refine w_gR (z := 35) (C := RX9) (T := TX9) hx hb hts n9 hown hK hP t_28 rfl 19 (by decide) L28 rfl rfl dX9_termNow_37 ?_
    refine lv_iload_n hx hb dX9_termNow_40 rfl (lv_at hl 1 rfl) ?_
    obtain ⟨g_2, hf⟩ := gd_inv hf
    refine w_iald hx hb hK hP t_35 g_2 dX9_termNow_41 ?_
    exact w_iret hx hb hr hlocks hP hS (rt_inv hf) dX9_termNow_42
  · have hf := if_f b_1 hf
    by_cases b_3 : a2 = (1 : Int32)
    · have hf := if_t b_3 hf
      refine lv_tableIn (tgt := 43) hx hb dX9_termNow_1 (by rw [b_3]; decide) (by rw [b_3]; decide) (by rw [b_3]; rfl) (by decide) ?_
      refine lv_aload_n hx hb dX9_termNow_43 rfl (lv_at hl 0 rfl) ?_
      refine w_gR (z := 36) (C := RX9) (T := TX9) hx hb hts n9 hown hK hP t_28 rfl 20 (by decide) L31 rfl rfl dX9_termNow_44 ?_
      refine lv_iload_n hx hb dX9_termNow_47 rfl (lv_at hl 1 rfl) ?_
      obtain ⟨g_4, hf⟩ := gd_inv hf
      refine w_iald hx hb hK hP t_36 g_4 dX9_termNow_48 ?_
      exact w_iret hx hb hr hlocks hP hS (rt_inv hf) dX9_termNow_49
    · have hf := if_f b_3 hf
      by_cases b_5 : a2 = (2 : Int32)
      · have hf := if_t b_5 hf
        refine lv_tableIn (tgt := 50) hx hb dX9_termNow_1 (by rw [b_5]; decide) (by rw [b_5]; decide) (by rw [b_5]; rfl) (by decide) ?_
        refine lv_aload_n hx hb dX9_termNow_50 rfl (lv_at hl 0 rfl) ?_
        refine w_gR (z := 37) (C := RX9) (T := TX9) hx hb hts n9 hown hK hP t_28 rfl 21 (by decide) L34 rfl rfl dX9_termNow_51 ?_
        refine lv_iload_n hx hb dX9_termNow_54 rfl (lv_at hl 1 rfl) ?_
        obtain ⟨g_6, hf⟩ := gd_inv hf
        refine w_iald hx hb hK hP t_37 g_6 dX9_termNow_55 ?_
        exact w_iret hx hb hr hlocks hP hS (rt_inv hf) dX9_termNow_56
      · have hf := if_f b_5 hf
        by_cases b_7 : a2 = (3 : Int32)
        · have hf := if_t b_7 hf
          refine lv_tableIn (tgt := 57) hx hb dX9_termNow_1 (by rw [b_7]; decide) (by rw [b_7]; decide) (by rw [b_7]; rfl) (by decide) ?_
          refine lv_aload_n hx hb dX9_termNow_57 rfl (lv_at hl 0 rfl) ?_
          refine lv_iload_n hx hb dX9_termNow_58 rfl (lv_at hl 1 rfl) ?_
          obtain ⟨r_8, S_9, hc_10, hf⟩ := bo_inv hf
          refine w_ci (va_runV (As := [.int a1]) (rest := []) ⟨hx, hb, hml, hown, hts⟩ (c_X9_lettersIn l D y ad aL aU hI n S a1 _ _ hc_10) (cwV 1 hts gX9_termNow_X9_lettersIn rfl rfl rfl (by decide +kernel) ⟨Nat.le_of_ble_eq_true rfl, Nat.le_of_ble_eq_true rfl⟩) (pwu_V t_28 rfl hP hK hZ hS) rfl rfl hl.1 rfl (lv_room (Nat.le_of_ble_eq_true rfl)) dX9_termNow_59 ⟨Nat.zero_le _, Nat.zero_le _⟩) hS (fun H locs hP hS => ?_)
          exact w_iret hx hb hr hlocks hP hS (rt_inv hf) dX9_termNow_62
        · have hf := if_f b_7 hf
          by_cases b_11 : a2 = (4 : Int32)
          · have hf := if_t b_11 hf
            refine lv_tableIn (tgt := 63) hx hb dX9_termNow_1 (by rw [b_11]; decide) (by rw [b_11]; decide) (by rw [b_11]; rfl) (by decide) ?_
            refine lv_aload_n hx hb dX9_termNow_63 rfl (lv_at hl 0 rfl) ?_
            refine lv_iload_n hx hb dX9_termNow_64 rfl (lv_at hl 1 rfl) ?_
            obtain ⟨r_12, S_13, hc_14, hf⟩ := bo_inv hf
            refine w_ci (va_runV (As := [.int a1]) (rest := []) ⟨hx, hb, hml, hown, hts⟩ (c_X9_sameAs l D y ad aL aU hI n S a1 _ _ hc_14) (cwV 1 hts gX9_termNow_X9_sameAs rfl rfl rfl (by decide +kernel) ⟨Nat.le_of_ble_eq_true rfl, Nat.le_of_ble_eq_true rfl⟩) (pwu_V t_28 rfl hP hK hZ hS) rfl rfl hl.1 rfl (lv_room (Nat.le_of_ble_eq_true rfl)) dX9_termNow_65 ⟨Nat.zero_le _, Nat.zero_le _⟩) hS (fun H locs hP hS => ?_)
            exact w_iret hx hb hr hlocks hP hS (rt_inv hf) dX9_termNow_68
          · have hf := if_f b_11 hf
            refine lv_tableOut (tgt := 69) hx hb dX9_termNow_1 (by have i0 : (a2).toInt ≠ (0 : Int) := ne_toInt b_1; have i1 : (a2).toInt ≠ (1 : Int) := ne_toInt b_3; have i2 : (a2).toInt ≠ (2 : Int) := ne_toInt b_5; have i3 : (a2).toInt ≠ (3 : Int) := ne_toInt b_7; have i4 : (a2).toInt ≠ (4 : Int) := ne_toInt b_11; omega) (by decide) ?_
            refine lv_aload_n hx hb dX9_termNow_69 rfl (lv_at hl 0 rfl) ?_
            refine lv_iload_n hx hb dX9_termNow_70 rfl (lv_at hl 1 rfl) ?_
            obtain ⟨r_15, S_16, hc_17, hf⟩ := bo_inv hf
            refine w_ci (va_runV (As := [.int a1]) (rest := []) ⟨hx, hb, hml, hown, hts⟩ (c_X9_literalsWith l D y ad aL aU hI n S a1 _ _ hc_17) (cwV 1 hts gX9_termNow_X9_literalsWith rfl rfl rfl (by decide +kernel) ⟨Nat.le_of_ble_eq_true rfl, Nat.le_of_ble_eq_true rfl⟩) (pwu_V t_28 rfl hP hK hZ hS) rfl rfl hl.1 rfl (lv_room (Nat.le_of_ble_eq_true rfl)) dX9_termNow_71 ⟨Nat.zero_le _, Nat.zero_le _⟩) hS (fun H locs hP hS => ?_)
            exact w_iret hx hb hr hlocks hP hS (rt_inv hf) dX9_termNow_74
set_option maxHeartbeats 4000000 in
set_option maxRecDepth 100000 in
theorem c_X9_term (l : Launch) (D : va_G) (y : y4) (ad : Nat → Nat) (aL aU : Nat) (hI : Inj ad) (n : Nat) (S : St) (a1 : Int32) (a2 : Int32) (r : Int32) (S2 : St) (hf : f_X9_term n S a1 a2 = some (r, S2)) : KI l D y ad aL aU yX9_term wsX9_term ({ frames := 6, cells := 0, slots := 0, locals := 134 }) [.ref (ad 28), .int a1, .int a2] S r S2 := by
  refine Met.ofW (cc := cX9_term) (maxL := 3) (ret := (some .int)) (by decide) rfl ?_
  intro p e s m args below meth c s₁ B hml hv
  obtain ⟨rfl, hP, hK, hZ⟩ := hv
  have hx := B.exec
  have hb := B.bytes
  have hr := B.returns
  have hts := atoms_spec (ws := wsX9_term) B.pre
  have hown : s.vm.findClass RX9 = some m.cls := findClass_of_methodNamed B.named
  have hlocks := B.notSynchronized
  have hS : va_S (AA ad) s.heap s.heap [] := va_S.rf
  have L133 := hts (.fieldLink RX9 133 "JoinedTheoriesModel" "terms" "I") (by decide +kernel)
  have K81 := hts (.constant RX9 81 (-2000000003)) (by decide +kernel)
  have K159 := hts (.constant RX9 159 (-2000000002)) (by decide +kernel)
  have n9 : ∀ w ∈ wsX90, w ∈ wsX9_term := by decide +kernel
  have hl := lv_entry ([.ref (ad 28), .int a1, .int a2]) (n := 3) (Nat.le_of_ble_eq_true rfl)
  rw [lg_entry_eq]
  generalize (lg_sl ([.ref (ad 28), .int a1, .int a2]) ++ List.replicate (3 - (lg_sl ([.ref (ad 28), .int a1, .int a2])).length) Slot.unset).toArray = ls at hl ⊢
  have hl : lv_has ls 3 [(0, .ref (ad 28)), (1, .int a1), (2, .int a2)] := hl
  unfold f_X9_term at hf
  refine lv_iload_n hx hb dX9_term_0 rfl (lv_at hl 1 rfl) ?_
  refine lv_iconst (v := 0) hx hb dX9_term_1 (by decide) ?_
  refine lv_aload_n hx hb dX9_term_2 rfl (lv_at hl 0 rfl) ?_
  refine w_gI (C := RX9) (T := TX9) hx hb hts n9 hown hK hP t_28 rfl 18 (by decide) L133 rfl dX9_term_3 ?_
  refine lv_iconst (v := 1) hx hb dX9_term_6 (by decide) ?_
  refine lv_isub hx hb dX9_term_7 ?_
  obtain ⟨r_1, S_2, hc_3, hf⟩ := bo_inv hf
  refine w_ci (va_runS (As := [.int a1, .int (0 : Int32), .int ((S.1 28 18) - (1 : Int32))]) (rest := []) ⟨hx, hb, hml, hown, hts⟩ (c_X9_within l D y ad aL aU hI n S a1 (0 : Int32) (((S.1 28 18) - (1 : Int32))) _ _ hc_3) (cwS 3 hts gX9_term_X9_within rfl rfl rfl (by decide +kernel) ⟨Nat.le_of_ble_eq_true rfl, Nat.le_of_ble_eq_true rfl⟩) (pwu_S hP hK hZ hS) rfl rfl hl.1 rfl (lv_room (Nat.le_of_ble_eq_true rfl)) dX9_term_8 ⟨Nat.zero_le _, Nat.zero_le _⟩) hS (fun H locs hP hS => ?_)
  refine lv_if_ne (tgt := 17) hx hb dX9_term_11 (by decide) (fun b_4 => ?_) (fun b_4 => ?_)
  · have hf := if_f b_4 hf
    refine lv_iload_n hx hb dX9_term_17 rfl (lv_at hl 2 rfl) ?_
    refine lv_iconst (v := 0) hx hb dX9_term_18 (by decide) ?_
    refine lv_iconst (v := 5) hx hb dX9_term_19 (by decide) ?_
    obtain ⟨r_5, S_6, hc_7, hf⟩ := bo_inv hf
    refine w_ci (va_runS (As := [.int a2, .int (0 : Int32), .int (5 : Int32)]) (rest := []) ⟨hx, hb, hml, hown, hts⟩ (c_X9_within l D y ad aL aU hI n S_2 a2 (0 : Int32) (5 : Int32) _ _ hc_7) (cwS 3 hts gX9_term_X9_within rfl rfl rfl (by decide +kernel) ⟨Nat.le_of_ble_eq_true rfl, Nat.le_of_ble_eq_true rfl⟩) (pwu_S hP hK hZ hS) rfl rfl hl.1 rfl (lv_room (Nat.le_of_ble_eq_true rfl)) dX9_term_20 ⟨Nat.zero_le _, Nat.zero_le _⟩) hS (fun H locs hP hS => ?_)
    refine lv_if_eq (tgt := 35) hx hb dX9_term_23 (by decide) (fun b_8 => ?_) (fun b_8 => ?_)
    · have hf := if_t b_8 hf
      refine lv_ldc (v := (-2000000003)) hx hb hown K81 dX9_term_35 ?_
      exact w_iret hx hb hr hlocks hP hS (rt_inv hf) dX9_term_37
    · have hf := if_f b_8 hf
      refine lv_aload_n hx hb dX9_term_26 rfl (lv_at hl 0 rfl) ?_
      refine lv_iload_n hx hb dX9_term_27 rfl (lv_at hl 1 rfl) ?_
      refine lv_iload_n hx hb dX9_term_28 rfl (lv_at hl 2 rfl) ?_
      obtain ⟨r_9, S_10, hc_11, hf⟩ := bo_inv hf
      refine w_ci (va_runV (As := [.int a1, .int a2]) (rest := []) ⟨hx, hb, hml, hown, hts⟩ (c_X9_termNow l D y ad aL aU hI n S_6 a1 a2 _ _ hc_11) (cwV 2 hts gX9_term_X9_termNow rfl rfl rfl (by decide +kernel) ⟨Nat.le_of_ble_eq_true rfl, Nat.le_of_ble_eq_true rfl⟩) (pwu_V t_28 rfl hP hK hZ hS) rfl rfl hl.1 rfl (lv_room (Nat.le_of_ble_eq_true rfl)) dX9_term_29 ⟨Nat.zero_le _, Nat.zero_le _⟩) hS (fun H locs hP hS => ?_)
      refine lv_goto (tgt := 37) hx hb dX9_term_32 (by decide) ?_
      exact w_iret hx hb hr hlocks hP hS (rt_inv hf) dX9_term_37
  · have hf := if_t b_4 hf
    refine lv_ldc (v := (-2000000002)) hx hb hown K159 dX9_term_14 ?_
    exact w_iret hx hb hr hlocks hP hS (rt_inv hf) dX9_term_16
set_option maxHeartbeats 4000000 in
set_option maxRecDepth 100000 in
theorem c_X9_howMany (l : Launch) (D : va_G) (y : y4) (ad : Nat → Nat) (aL aU : Nat) (hI : Inj ad) (n : Nat) (S : St) (a1 : Int32) (r : Int32) (S2 : St) (hf : f_X9_howMany n S a1 = some (r, S2)) : KI l D y ad aL aU yX9_howMany wsX9_howMany ({ frames := 1, cells := 0, slots := 0, locals := 20 }) [.ref (ad 28), .int a1] S r S2 := by
  refine Met.ofW (cc := cX9_howMany) (maxL := 2) (ret := (some .int)) (by decide) rfl ?_
  intro p e s m args below meth c s₁ B hml hv
  obtain ⟨rfl, hP, hK, hZ⟩ := hv
  have hx := B.exec
  have hb := B.bytes
  have hr := B.returns
  have hts := atoms_spec (ws := wsX9_howMany) B.pre
  have hown : s.vm.findClass RX9 = some m.cls := findClass_of_methodNamed B.named
  have hlocks := B.notSynchronized
  have hS : va_S (AA ad) s.heap s.heap [] := va_S.rf
  have L82 := hts (.fieldLink RX9 82 "JoinedTheoriesModel" "pageLength" "I") (by decide +kernel)
  have L133 := hts (.fieldLink RX9 133 "JoinedTheoriesModel" "terms" "I") (by decide +kernel)
  have L141 := hts (.fieldLink RX9 141 "JoinedTheoriesModel" "literals" "I") (by decide +kernel)
  have L153 := hts (.fieldLink RX9 153 "JoinedTheoriesModel" "cameEver" "I") (by decide +kernel)
  have L160 := hts (.fieldLink RX9 160 "JoinedTheoriesModel" "wentEver" "I") (by decide +kernel)
  have L331 := hts (.fieldLink RX9 331 "JoinedTheoriesModel" "asks" "I") (by decide +kernel)
  have K81 := hts (.constant RX9 81 (-2000000003)) (by decide +kernel)
  have n9 : ∀ w ∈ wsX90, w ∈ wsX9_howMany := by decide +kernel
  have hl := lv_entry ([.ref (ad 28), .int a1]) (n := 2) (Nat.le_of_ble_eq_true rfl)
  rw [lg_entry_eq]
  generalize (lg_sl ([.ref (ad 28), .int a1]) ++ List.replicate (2 - (lg_sl ([.ref (ad 28), .int a1])).length) Slot.unset).toArray = ls at hl ⊢
  have hl : lv_has ls 2 [(0, .ref (ad 28)), (1, .int a1)] := hl
  unfold f_X9_howMany at hf
  refine lv_iload_n hx hb dX9_howMany_0 rfl (lv_at hl 1 rfl) ?_
  by_cases b_1 : a1 = (0 : Int32)
  · have hf := if_t b_1 hf
    refine lv_tableIn (tgt := 40) hx hb dX9_howMany_1 (by rw [b_1]; decide) (by rw [b_1]; decide) (by rw [b_1]; rfl) (by decide) ?_
    refine lv_aload_n hx hb dX9_howMany_40 rfl (lv_at hl 0 rfl) ?_
    refine w_gI (C := RX9) (T := TX9) hx hb hts n9 hown hK hP t_28 rfl 2 (by decide) L141 rfl dX9_howMany_41 ?_
    exact w_iret hx hb hr hlocks hP hS (rt_inv hf) dX9_howMany_44
  · have hf := if_f b_1 hf
    by_cases b_2 : a1 = (1 : Int32)
    · have hf := if_t b_2 hf
      refine lv_tableIn (tgt := 45) hx hb dX9_howMany_1 (by rw [b_2]; decide) (by rw [b_2]; decide) (by rw [b_2]; rfl) (by decide) ?_
      refine lv_aload_n hx hb dX9_howMany_45 rfl (lv_at hl 0 rfl) ?_
      refine w_gI (C := RX9) (T := TX9) hx hb hts n9 hown hK hP t_28 rfl 18 (by decide) L133 rfl dX9_howMany_46 ?_
      exact w_iret hx hb hr hlocks hP hS (rt_inv hf) dX9_howMany_49
    · have hf := if_f b_2 hf
      by_cases b_3 : a1 = (2 : Int32)
      · have hf := if_t b_3 hf
        refine lv_tableIn (tgt := 50) hx hb dX9_howMany_1 (by rw [b_3]; decide) (by rw [b_3]; decide) (by rw [b_3]; rfl) (by decide) ?_
        refine lv_aload_n hx hb dX9_howMany_50 rfl (lv_at hl 0 rfl) ?_
        refine w_gI (C := RX9) (T := TX9) hx hb hts n9 hown hK hP t_28 rfl 0 (by decide) L82 rfl dX9_howMany_51 ?_
        exact w_iret hx hb hr hlocks hP hS (rt_inv hf) dX9_howMany_54
      · have hf := if_f b_3 hf
        by_cases b_4 : a1 = (3 : Int32)
        · have hf := if_t b_4 hf
          refine lv_tableIn (tgt := 55) hx hb dX9_howMany_1 (by rw [b_4]; decide) (by rw [b_4]; decide) (by rw [b_4]; rfl) (by decide) ?_
          refine lv_aload_n hx hb dX9_howMany_55 rfl (lv_at hl 0 rfl) ?_
          refine w_gI (C := RX9) (T := TX9) hx hb hts n9 hown hK hP t_28 rfl 7 (by decide) L153 rfl dX9_howMany_56 ?_
          exact w_iret hx hb hr hlocks hP hS (rt_inv hf) dX9_howMany_59
        · have hf := if_f b_4 hf
          by_cases b_5 : a1 = (4 : Int32)
          · have hf := if_t b_5 hf
            refine lv_tableIn (tgt := 60) hx hb dX9_howMany_1 (by rw [b_5]; decide) (by rw [b_5]; decide) (by rw [b_5]; rfl) (by decide) ?_
            refine lv_aload_n hx hb dX9_howMany_60 rfl (lv_at hl 0 rfl) ?_
            refine w_gI (C := RX9) (T := TX9) hx hb hts n9 hown hK hP t_28 rfl 8 (by decide) L160 rfl dX9_howMany_61 ?_
            exact w_iret hx hb hr hlocks hP hS (rt_inv hf) dX9_howMany_64
          · have hf := if_f b_5 hf
            by_cases b_6 : a1 = (5 : Int32)
            · have hf := if_t b_6 hf
              refine lv_tableIn (tgt := 65) hx hb dX9_howMany_1 (by rw [b_6]; decide) (by rw [b_6]; decide) (by rw [b_6]; rfl) (by decide) ?_
              refine lv_aload_n hx hb dX9_howMany_65 rfl (lv_at hl 0 rfl) ?_
              refine w_gI (C := RX9) (T := TX9) hx hb hts n9 hown hK hP t_28 rfl 9 (by decide) L331 rfl dX9_howMany_66 ?_
              exact w_iret hx hb hr hlocks hP hS (rt_inv hf) dX9_howMany_69
            · have hf := if_f b_6 hf
              refine lv_tableOut (tgt := 70) hx hb dX9_howMany_1 (by have i0 : (a1).toInt ≠ (0 : Int) := ne_toInt b_1; have i1 : (a1).toInt ≠ (1 : Int) := ne_toInt b_2; have i2 : (a1).toInt ≠ (2 : Int) := ne_toInt b_3; have i3 : (a1).toInt ≠ (3 : Int) := ne_toInt b_4; have i4 : (a1).toInt ≠ (4 : Int) := ne_toInt b_5; have i5 : (a1).toInt ≠ (5 : Int) := ne_toInt b_6; omega) (by decide) ?_
              refine lv_ldc (v := (-2000000003)) hx hb hown K81 dX9_howMany_70 ?_
              exact w_iret hx hb hr hlocks hP hS (rt_inv hf) dX9_howMany_72
set_option maxHeartbeats 4000000 in
set_option maxRecDepth 100000 in
theorem c_X9_count (l : Launch) (D : va_G) (y : y4) (ad : Nat → Nat) (aL aU : Nat) (hI : Inj ad) (n : Nat) (S : St) (a1 : Int32) (r : Int32) (S2 : St) (hf : f_X9_count n S a1 = some (r, S2)) : KI l D y ad aL aU yX9_count wsX9_count ({ frames := 2, cells := 0, slots := 0, locals := 41 }) [.ref (ad 28), .int a1] S r S2 := by
  refine Met.ofW (cc := cX9_count) (maxL := 2) (ret := (some .int)) (by decide) rfl ?_
  intro p e s m args below meth c s₁ B hml hv
  obtain ⟨rfl, hP, hK, hZ⟩ := hv
  have hx := B.exec
  have hb := B.bytes
  have hr := B.returns
  have hts := atoms_spec (ws := wsX9_count) B.pre
  have hown : s.vm.findClass RX9 = some m.cls := findClass_of_methodNamed B.named
  have hlocks := B.notSynchronized
  have hS : va_S (AA ad) s.heap s.heap [] := va_S.rf
  have hl := lv_entry ([.ref (ad 28), .int a1]) (n := 2) (Nat.le_of_ble_eq_true rfl)
  rw [lg_entry_eq]
  generalize (lg_sl ([.ref (ad 28), .int a1]) ++ List.replicate (2 - (lg_sl ([.ref (ad 28), .int a1])).length) Slot.unset).toArray = ls at hl ⊢
  have hl : lv_has ls 2 [(0, .ref (ad 28)), (1, .int a1)] := hl
  unfold f_X9_count at hf
  refine lv_aload_n hx hb dX9_count_0 rfl (lv_at hl 0 rfl) ?_
  refine lv_iload_n hx hb dX9_count_1 rfl (lv_at hl 1 rfl) ?_
  obtain ⟨r_1, S_2, hc_3, hf⟩ := bo_inv hf
  refine w_ci (va_runV (As := [.int a1]) (rest := []) ⟨hx, hb, hml, hown, hts⟩ (c_X9_howMany l D y ad aL aU hI n S a1 _ _ hc_3) (cwV 1 hts gX9_count_X9_howMany rfl rfl rfl (by decide +kernel) ⟨Nat.le_of_ble_eq_true rfl, Nat.le_of_ble_eq_true rfl⟩) (pwu_V t_28 rfl hP hK hZ hS) rfl rfl hl.1 rfl (lv_room (Nat.le_of_ble_eq_true rfl)) dX9_count_2 ⟨Nat.zero_le _, Nat.zero_le _⟩) hS (fun H locs hP hS => ?_)
  exact w_iret hx hb hr hlocks hP hS (rt_inv hf) dX9_count_5
set_option maxHeartbeats 4000000 in
set_option maxRecDepth 100000 in
theorem c_X9_mix (l : Launch) (D : va_G) (y : y4) (ad : Nat → Nat) (aL aU : Nat) (hI : Inj ad) (n : Nat) (S : St) (a1 : Int64) (r : Unit) (S2 : St) (hf : f_X9_mix n S a1 = some (r, S2)) : KV l D y ad aL aU yX9_mix wsX9_mix ({ frames := 1, cells := 0, slots := 0, locals := 20 }) [.ref (ad 28), .long a1] S r S2 := by
  refine Met.ofW (cc := cX9_mix) (maxL := 3) (ret := none) (by decide) rfl ?_
  intro p e s m args below meth c s₁ B hml hv
  obtain ⟨rfl, hP, hK, hZ⟩ := hv
  have hx := B.exec
  have hb := B.bytes
  have hr := B.returns
  have hts := atoms_spec (ws := wsX9_mix) B.pre
  have hown : s.vm.findClass RX9 = some m.cls := findClass_of_methodNamed B.named
  have hlocks := B.notSynchronized
  have hS : va_S (AA ad) s.heap s.heap [] := va_S.rf
  have L357 := hts (.fieldLink RX9 357 "JoinedTheoriesModel" "h" "J") (by decide +kernel)
  have K355 := hts (.constantLong RX9 355 (31)) (by decide +kernel)
  have n9 : ∀ w ∈ wsX90, w ∈ wsX9_mix := by decide +kernel
  have hl := lv_entry ([.ref (ad 28), .long a1]) (n := 3) (Nat.le_of_ble_eq_true rfl)
  rw [lg_entry_eq]
  generalize (lg_sl ([.ref (ad 28), .long a1]) ++ List.replicate (3 - (lg_sl ([.ref (ad 28), .long a1])).length) Slot.unset).toArray = ls at hl ⊢
  have hl : lv_has ls 3 [(0, .ref (ad 28)), (1, .long a1)] := hl
  unfold f_X9_mix at hf
  refine lv_aload_n hx hb dX9_mix_0 rfl (lv_at hl 0 rfl) ?_
  refine lv_ldc2 (v := (31)) hx hb hown K355 dX9_mix_1 ?_
  refine lv_aload_n hx hb dX9_mix_4 rfl (lv_at hl 0 rfl) ?_
  refine w_gL (C := RX9) (T := TX9) hx hb hts n9 hown hK hP t_28 rfl 47 (by decide) L357 rfl dX9_mix_5 ?_
  refine lv_lmul hx hb dX9_mix_8 ?_
  refine lv_lload_n hx hb dX9_mix_9 rfl (lv_at hl 1 rfl) ?_
  refine lv_ladd hx hb dX9_mix_10 ?_
  obtain ⟨S_1, eS_1, hf⟩ := bd_inv hf
  refine w_pL (C := RX9) (T := TX9) hx hb hts n9 tyX9 tyX9_ok nmX9 hown hK hI hP hS t_28 rfl 47 (by decide) L357 rfl rfl rfl dX9_mix_11 (fun H locs hP hS => ?_)
  rw [← eS_1] at hP
  exact w_vret hx hb hr hlocks hP hS (rt_inv hf) dX9_mix_14
set_option maxHeartbeats 4000000 in
set_option maxRecDepth 100000 in
theorem c_X9_digest (l : Launch) (D : va_G) (y : y4) (ad : Nat → Nat) (aL aU : Nat) (hI : Inj ad) (n : Nat) (S : St) (r : Int64) (S2 : St) (hf : f_X9_digest n S = some (r, S2)) : KL l D y ad aL aU yX9_digest wsX9_digest ({ frames := 9, cells := 0, slots := 0, locals := 210 }) [.ref (ad 28)] S r S2 := by
  refine Met.ofW (cc := cX9_digest) (maxL := 2) (ret := (some .long)) (by decide) rfl ?_
  intro p e s m args below meth c s₁ B hml hv
  obtain ⟨rfl, hP, hK, hZ⟩ := hv
  have hx := B.exec
  have hb := B.bytes
  have hr := B.returns
  have hts := atoms_spec (ws := wsX9_digest) B.pre
  have hown : s.vm.findClass RX9 = some m.cls := findClass_of_methodNamed B.named
  have hlocks := B.notSynchronized
  have hS : va_S (AA ad) s.heap s.heap [] := va_S.rf
  have L7 := hts (.fieldLink RX9 7 "JoinedTheoriesModel" "page" "[I") (by decide +kernel)
  have L82 := hts (.fieldLink RX9 82 "JoinedTheoriesModel" "pageLength" "I") (by decide +kernel)
  have L133 := hts (.fieldLink RX9 133 "JoinedTheoriesModel" "terms" "I") (by decide +kernel)
  have L141 := hts (.fieldLink RX9 141 "JoinedTheoriesModel" "literals" "I") (by decide +kernel)
  have L357 := hts (.fieldLink RX9 357 "JoinedTheoriesModel" "h" "J") (by decide +kernel)
  have K360 := hts (.constantLong RX9 360 (1609)) (by decide +kernel)
  have n9 : ∀ w ∈ wsX90, w ∈ wsX9_digest := by decide +kernel
  have hl := lv_entry ([.ref (ad 28)]) (n := 2) (Nat.le_of_ble_eq_true rfl)
  rw [lg_entry_eq]
  generalize (lg_sl ([.ref (ad 28)]) ++ List.replicate (2 - (lg_sl ([.ref (ad 28)])).length) Slot.unset).toArray = ls at hl ⊢
  have hl : lv_has ls 2 [(0, .ref (ad 28))] := hl
  have b137 : ∀ (k137 : St → Int32 → Option (Int64 × St)) (hk137 : ∀ (S : St) (x1 : Int32) (H : Heap) (locs : List Loc) (ls : Array Slot), k137 S x1 = some (r, S2) → PW D y ad S H → va_S (AA ad) s.heap H locs → lv_has ls 2 [(0, .ref (ad 28)), (1, .int x1)] → W p l e (headSpec wsX9_digest ({ frames := 9, cells := 0, slots := 0, locals := 210 })).room s m ([.ref (ad 28)] : List Value).toArray below meth c H locs 0 0 (QL below r S2 D y ad ([.ref (ad 28)] : List Value).toArray s) (F0 m 137 ls [])), ∀ (S : St) (x1 : Int32) (H : Heap) (locs : List Loc) (ls : Array Slot), f_X9_digest_137 n k137 S x1 = some (r, S2) → PW D y ad S H → va_S (AA ad) s.heap H locs → lv_has ls 2 [(0, .ref (ad 28)), (1, .int x1)] → W p l e (headSpec wsX9_digest ({ frames := 9, cells := 0, slots := 0, locals := 210 })).room s m ([.ref (ad 28)] : List Value).toArray below meth c H locs 0 0 (QL below r S2 D y ad ([.ref (ad 28)] : List Value).toArray s) (F0 m 137 ls []) := by
    intro  k137 hk137 S x1 H locs ls hf hP hS hl
    unfold f_X9_digest_137 at hf
    refine lv_iload_n hx hb dX9_digest_137 rfl (lv_at hl 1 rfl) ?_
    refine lv_bipush (v := (6)) hx hb dX9_digest_138 (by decide) ?_
    refine lv_icmp_ge (tgt := 159) hx hb dX9_digest_140 (by decide) (fun b_1 => ?_) (fun b_1 => ?_)
    · have hf := if_t b_1 hf
      refine lv_aload_n hx hb dX9_digest_159 rfl (lv_at hl 0 rfl) ?_
      refine w_gL (C := RX9) (T := TX9) hx hb hts n9 hown hK hP t_28 rfl 47 (by decide) L357 rfl dX9_digest_160 ?_
      exact w_lret hx hb hr hlocks hP hS (rt_inv hf) dX9_digest_163
    · have hf := if_f b_1 hf
      refine lv_aload_n hx hb dX9_digest_143 rfl (lv_at hl 0 rfl) ?_
      refine lv_aload_n hx hb dX9_digest_144 rfl (lv_at hl 0 rfl) ?_
      refine lv_iload_n hx hb dX9_digest_145 rfl (lv_at hl 1 rfl) ?_
      obtain ⟨r_2, S_3, hc_4, hf⟩ := bo_inv hf
      refine w_ci (va_runV (As := [.int x1]) (rest := [.ref (ad 28)]) ⟨hx, hb, hml, hown, hts⟩ (c_X9_howMany l D y ad aL aU hI n S x1 _ _ hc_4) (cwV 1 hts gX9_digest_X9_howMany rfl rfl rfl (by decide +kernel) ⟨Nat.le_of_ble_eq_true rfl, Nat.le_of_ble_eq_true rfl⟩) (pwu_V t_28 rfl hP hK hZ hS) rfl rfl hl.1 rfl (lv_room (Nat.le_of_ble_eq_true rfl)) dX9_digest_146 ⟨Nat.zero_le _, Nat.zero_le _⟩) hS (fun H locs hP hS => ?_)
      refine lv_i2l hx hb dX9_digest_149 rfl ?_
      obtain ⟨r_5, S_6, hc_7, hf⟩ := bo_inv hf
      refine w_cv (va_runV (As := [.long (r_2).toInt64]) (rest := []) ⟨hx, hb, hml, hown, hts⟩ (c_X9_mix l D y ad aL aU hI n S_3 (r_2).toInt64 _ _ hc_7) (cwV 1 hts gX9_digest_X9_mix rfl rfl rfl (by decide +kernel) ⟨Nat.le_of_ble_eq_true rfl, Nat.le_of_ble_eq_true rfl⟩) (pwu_V t_28 rfl hP hK hZ hS) rfl rfl hl.1 rfl (lv_room (Nat.le_of_ble_eq_true rfl)) dX9_digest_150 ⟨Nat.zero_le _, Nat.zero_le _⟩) hS (fun H locs hP hS => ?_)
      obtain ⟨x1_8, ex1_8, hf⟩ := bd_inv hf
      refine lv_iinc (v := x1_8) (lv' := [(1, .int x1_8), (0, .ref (ad 28))]) hx hb dX9_digest_153 hl (k := 1) rfl (by rw [ex1_8]; rfl) (by decide) rfl (fun ls hl => ?_)
      refine lv_goto (tgt := 137) hx hb dX9_digest_156 (by decide) ?_
      exact hk137 S_6 x1_8 _ _ _ hf hP hS (lv_sub hl [1, 0] rfl)
  have j137 : ∀ (fu : Nat), ∀ (S : St) (x1 : Int32) (H : Heap) (locs : List Loc) (ls : Array Slot), fixF (fun _ _ => none) (f_X9_digest_137 n) fu S x1 = some (r, S2) → PW D y ad S H → va_S (AA ad) s.heap H locs → lv_has ls 2 [(0, .ref (ad 28)), (1, .int x1)] → W p l e (headSpec wsX9_digest ({ frames := 9, cells := 0, slots := 0, locals := 210 })).room s m ([.ref (ad 28)] : List Value).toArray below meth c H locs 0 0 (QL below r S2 D y ad ([.ref (ad 28)] : List Value).toArray s) (F0 m 137 ls []) := by
    intro   fu
    induction fu with
    | zero => intro S x1 H locs ls hf hP hS hl; cases hf
    | succ fu ih => exact b137   (fixF (fun _ _ => none) (f_X9_digest_137 n) fu) ih
  have b110 : ∀ (k110 : St → Int32 → Option (Int64 × St)) (hk110 : ∀ (S : St) (x1 : Int32) (H : Heap) (locs : List Loc) (ls : Array Slot), k110 S x1 = some (r, S2) → PW D y ad S H → va_S (AA ad) s.heap H locs → lv_has ls 2 [(0, .ref (ad 28)), (1, .int x1)] → W p l e (headSpec wsX9_digest ({ frames := 9, cells := 0, slots := 0, locals := 210 })).room s m ([.ref (ad 28)] : List Value).toArray below meth c H locs 0 0 (QL below r S2 D y ad ([.ref (ad 28)] : List Value).toArray s) (F0 m 110 ls [])), ∀ (S : St) (x1 : Int32) (H : Heap) (locs : List Loc) (ls : Array Slot), f_X9_digest_110 n k110 S x1 = some (r, S2) → PW D y ad S H → va_S (AA ad) s.heap H locs → lv_has ls 2 [(0, .ref (ad 28)), (1, .int x1)] → W p l e (headSpec wsX9_digest ({ frames := 9, cells := 0, slots := 0, locals := 210 })).room s m ([.ref (ad 28)] : List Value).toArray below meth c H locs 0 0 (QL below r S2 D y ad ([.ref (ad 28)] : List Value).toArray s) (F0 m 110 ls []) := by
    intro  k110 hk110 S x1 H locs ls hf hP hS hl
    unfold f_X9_digest_110 at hf
    refine lv_iload_n hx hb dX9_digest_110 rfl (lv_at hl 1 rfl) ?_
    refine lv_aload_n hx hb dX9_digest_111 rfl (lv_at hl 0 rfl) ?_
    refine w_gI (C := RX9) (T := TX9) hx hb hts n9 hown hK hP t_28 rfl 0 (by decide) L82 rfl dX9_digest_112 ?_
    refine lv_icmp_ge (tgt := 135) hx hb dX9_digest_115 (by decide) (fun b_9 => ?_) (fun b_9 => ?_)
    · have hf := if_t b_9 hf
      refine lv_iconst (v := 0) hx hb dX9_digest_135 (by decide) ?_
      obtain ⟨x1_10, ex1_10, hf⟩ := bd_inv hf
      refine w_topI ex1_10 ?_
      refine lv_istore_n (lv' := [(1, .int x1_10), (0, .ref (ad 28))]) hx hb dX9_digest_136 rfl hl (by decide) rfl (fun ls hl => ?_)
      exact j137   n S x1_10 _ _ _ hf hP hS (lv_sub hl [1, 0] rfl)
    · have hf := if_f b_9 hf
      refine lv_aload_n hx hb dX9_digest_118 rfl (lv_at hl 0 rfl) ?_
      refine lv_aload_n hx hb dX9_digest_119 rfl (lv_at hl 0 rfl) ?_
      refine w_gR (z := 29) (C := RX9) (T := TX9) hx hb hts n9 hown hK hP t_28 rfl 1 (by decide) L7 rfl rfl dX9_digest_120 ?_
      refine lv_iload_n hx hb dX9_digest_123 rfl (lv_at hl 1 rfl) ?_
      obtain ⟨g_11, hf⟩ := gd_inv hf
      refine w_iald hx hb hK hP t_29 g_11 dX9_digest_124 ?_
      refine lv_i2l hx hb dX9_digest_125 rfl ?_
      obtain ⟨r_12, S_13, hc_14, hf⟩ := bo_inv hf
      refine w_cv (va_runV (As := [.long ((S.1 29 (x1).toNatClampNeg)).toInt64]) (rest := []) ⟨hx, hb, hml, hown, hts⟩ (c_X9_mix l D y ad aL aU hI n S (((S.1 29 (x1).toNatClampNeg)).toInt64) _ _ hc_14) (cwV 1 hts gX9_digest_X9_mix rfl rfl rfl (by decide +kernel) ⟨Nat.le_of_ble_eq_true rfl, Nat.le_of_ble_eq_true rfl⟩) (pwu_V t_28 rfl hP hK hZ hS) rfl rfl hl.1 rfl (lv_room (Nat.le_of_ble_eq_true rfl)) dX9_digest_126 ⟨Nat.zero_le _, Nat.zero_le _⟩) hS (fun H locs hP hS => ?_)
      obtain ⟨x1_15, ex1_15, hf⟩ := bd_inv hf
      refine lv_iinc (v := x1_15) (lv' := [(1, .int x1_15), (0, .ref (ad 28))]) hx hb dX9_digest_129 hl (k := 1) rfl (by rw [ex1_15]; rfl) (by decide) rfl (fun ls hl => ?_)
      refine lv_goto (tgt := 110) hx hb dX9_digest_132 (by decide) ?_
      exact hk110 S_13 x1_15 _ _ _ hf hP hS (lv_sub hl [1, 0] rfl)
  have j110 : ∀ (fu : Nat), ∀ (S : St) (x1 : Int32) (H : Heap) (locs : List Loc) (ls : Array Slot), fixF (fun _ _ => none) (f_X9_digest_110 n) fu S x1 = some (r, S2) → PW D y ad S H → va_S (AA ad) s.heap H locs → lv_has ls 2 [(0, .ref (ad 28)), (1, .int x1)] → W p l e (headSpec wsX9_digest ({ frames := 9, cells := 0, slots := 0, locals := 210 })).room s m ([.ref (ad 28)] : List Value).toArray below meth c H locs 0 0 (QL below r S2 D y ad ([.ref (ad 28)] : List Value).toArray s) (F0 m 110 ls []) := by
    intro   fu
    induction fu with
    | zero => intro S x1 H locs ls hf hP hS hl; cases hf
    | succ fu ih => exact b110   (fixF (fun _ _ => none) (f_X9_digest_110 n) fu) ih
  have b78 : ∀ (k78 : St → Int32 → Option (Int64 × St)) (hk78 : ∀ (S : St) (x1 : Int32) (H : Heap) (locs : List Loc) (ls : Array Slot), k78 S x1 = some (r, S2) → PW D y ad S H → va_S (AA ad) s.heap H locs → lv_has ls 2 [(0, .ref (ad 28)), (1, .int x1)] → W p l e (headSpec wsX9_digest ({ frames := 9, cells := 0, slots := 0, locals := 210 })).room s m ([.ref (ad 28)] : List Value).toArray below meth c H locs 0 0 (QL below r S2 D y ad ([.ref (ad 28)] : List Value).toArray s) (F0 m 78 ls [])), ∀ (S : St) (x1 : Int32) (H : Heap) (locs : List Loc) (ls : Array Slot), f_X9_digest_78 n k78 S x1 = some (r, S2) → PW D y ad S H → va_S (AA ad) s.heap H locs → lv_has ls 2 [(0, .ref (ad 28)), (1, .int x1)] → W p l e (headSpec wsX9_digest ({ frames := 9, cells := 0, slots := 0, locals := 210 })).room s m ([.ref (ad 28)] : List Value).toArray below meth c H locs 0 0 (QL below r S2 D y ad ([.ref (ad 28)] : List Value).toArray s) (F0 m 78 ls []) := by
    intro  k78 hk78 S x1 H locs ls hf hP hS hl
    unfold f_X9_digest_78 at hf
    refine lv_iload_n hx hb dX9_digest_78 rfl (lv_at hl 1 rfl) ?_
    refine lv_iconst (v := 3) hx hb dX9_digest_79 (by decide) ?_
    refine lv_icmp_ge (tgt := 99) hx hb dX9_digest_80 (by decide) (fun b_16 => ?_) (fun b_16 => ?_)
    · have hf := if_t b_16 hf
      refine lv_aload_n hx hb dX9_digest_99 rfl (lv_at hl 0 rfl) ?_
      refine lv_aload_n hx hb dX9_digest_100 rfl (lv_at hl 0 rfl) ?_
      obtain ⟨r_17, S_18, hc_19, hf⟩ := bo_inv hf
      refine w_ci (va_runV (As := []) (rest := [.ref (ad 28)]) ⟨hx, hb, hml, hown, hts⟩ (c_X9_holds l D y ad aL aU hI n S  _ _ hc_19) (cwV 0 hts gX9_digest_X9_holds rfl rfl rfl (by decide +kernel) ⟨Nat.le_of_ble_eq_true rfl, Nat.le_of_ble_eq_true rfl⟩) (pwu_V t_28 rfl hP hK hZ hS) rfl rfl hl.1 rfl (lv_room (Nat.le_of_ble_eq_true rfl)) dX9_digest_101 ⟨Nat.zero_le _, Nat.zero_le _⟩) hS (fun H locs hP hS => ?_)
      refine lv_i2l hx hb dX9_digest_104 rfl ?_
      obtain ⟨r_20, S_21, hc_22, hf⟩ := bo_inv hf
      refine w_cv (va_runV (As := [.long (r_17).toInt64]) (rest := []) ⟨hx, hb, hml, hown, hts⟩ (c_X9_mix l D y ad aL aU hI n S_18 (r_17).toInt64 _ _ hc_22) (cwV 1 hts gX9_digest_X9_mix rfl rfl rfl (by decide +kernel) ⟨Nat.le_of_ble_eq_true rfl, Nat.le_of_ble_eq_true rfl⟩) (pwu_V t_28 rfl hP hK hZ hS) rfl rfl hl.1 rfl (lv_room (Nat.le_of_ble_eq_true rfl)) dX9_digest_105 ⟨Nat.zero_le _, Nat.zero_le _⟩) hS (fun H locs hP hS => ?_)
      refine lv_iconst (v := 0) hx hb dX9_digest_108 (by decide) ?_
      obtain ⟨x1_23, ex1_23, hf⟩ := bd_inv hf
      refine w_topI ex1_23 ?_
      refine lv_istore_n (lv' := [(1, .int x1_23), (0, .ref (ad 28))]) hx hb dX9_digest_109 rfl hl (by decide) rfl (fun ls hl => ?_)
      exact j110   n S_21 x1_23 _ _ _ hf hP hS (lv_sub hl [1, 0] rfl)
    · have hf := if_f b_16 hf
      refine lv_aload_n hx hb dX9_digest_83 rfl (lv_at hl 0 rfl) ?_
      refine lv_aload_n hx hb dX9_digest_84 rfl (lv_at hl 0 rfl) ?_
      refine lv_iload_n hx hb dX9_digest_85 rfl (lv_at hl 1 rfl) ?_
      obtain ⟨r_24, S_25, hc_26, hf⟩ := bo_inv hf
      refine w_ci (va_runV (As := [.int x1]) (rest := [.ref (ad 28)]) ⟨hx, hb, hml, hown, hts⟩ (c_X9_exchangeNow l D y ad aL aU hI n S x1 _ _ hc_26) (cwV 1 hts gX9_digest_X9_exchangeNow rfl rfl rfl (by decide +kernel) ⟨Nat.le_of_ble_eq_true rfl, Nat.le_of_ble_eq_true rfl⟩) (pwu_V t_28 rfl hP hK hZ hS) rfl rfl hl.1 rfl (lv_room (Nat.le_of_ble_eq_true rfl)) dX9_digest_86 ⟨Nat.zero_le _, Nat.zero_le _⟩) hS (fun H locs hP hS => ?_)
      refine lv_i2l hx hb dX9_digest_89 rfl ?_
      obtain ⟨r_27, S_28, hc_29, hf⟩ := bo_inv hf
      refine w_cv (va_runV (As := [.long (r_24).toInt64]) (rest := []) ⟨hx, hb, hml, hown, hts⟩ (c_X9_mix l D y ad aL aU hI n S_25 (r_24).toInt64 _ _ hc_29) (cwV 1 hts gX9_digest_X9_mix rfl rfl rfl (by decide +kernel) ⟨Nat.le_of_ble_eq_true rfl, Nat.le_of_ble_eq_true rfl⟩) (pwu_V t_28 rfl hP hK hZ hS) rfl rfl hl.1 rfl (lv_room (Nat.le_of_ble_eq_true rfl)) dX9_digest_90 ⟨Nat.zero_le _, Nat.zero_le _⟩) hS (fun H locs hP hS => ?_)
      obtain ⟨x1_30, ex1_30, hf⟩ := bd_inv hf
      refine lv_iinc (v := x1_30) (lv' := [(1, .int x1_30), (0, .ref (ad 28))]) hx hb dX9_digest_93 hl (k := 1) rfl (by rw [ex1_30]; rfl) (by decide) rfl (fun ls hl => ?_)
      refine lv_goto (tgt := 78) hx hb dX9_digest_96 (by decide) ?_
      exact hk78 S_28 x1_30 _ _ _ hf hP hS (lv_sub hl [1, 0] rfl)
  have j78 : ∀ (fu : Nat), ∀ (S : St) (x1 : Int32) (H : Heap) (locs : List Loc) (ls : Array Slot), fixF (fun _ _ => none) (f_X9_digest_78 n) fu S x1 = some (r, S2) → PW D y ad S H → va_S (AA ad) s.heap H locs → lv_has ls 2 [(0, .ref (ad 28)), (1, .int x1)] → W p l e (headSpec wsX9_digest ({ frames := 9, cells := 0, slots := 0, locals := 210 })).room s m ([.ref (ad 28)] : List Value).toArray below meth c H locs 0 0 (QL below r S2 D y ad ([.ref (ad 28)] : List Value).toArray s) (F0 m 78 ls []) := by
    intro   fu
    induction fu with
    | zero => intro S x1 H locs ls hf hP hS hl; cases hf
    | succ fu ih => exact b78   (fixF (fun _ _ => none) (f_X9_digest_78 n) fu) ih
  have b42 : ∀ (k42 : St → Int32 → Option (Int64 × St)) (hk42 : ∀ (S : St) (x1 : Int32) (H : Heap) (locs : List Loc) (ls : Array Slot), k42 S x1 = some (r, S2) → PW D y ad S H → va_S (AA ad) s.heap H locs → lv_has ls 2 [(0, .ref (ad 28)), (1, .int x1)] → W p l e (headSpec wsX9_digest ({ frames := 9, cells := 0, slots := 0, locals := 210 })).room s m ([.ref (ad 28)] : List Value).toArray below meth c H locs 0 0 (QL below r S2 D y ad ([.ref (ad 28)] : List Value).toArray s) (F0 m 42 ls [])), ∀ (S : St) (x1 : Int32) (H : Heap) (locs : List Loc) (ls : Array Slot), f_X9_digest_42 n k42 S x1 = some (r, S2) → PW D y ad S H → va_S (AA ad) s.heap H locs → lv_has ls 2 [(0, .ref (ad 28)), (1, .int x1)] → W p l e (headSpec wsX9_digest ({ frames := 9, cells := 0, slots := 0, locals := 210 })).room s m ([.ref (ad 28)] : List Value).toArray below meth c H locs 0 0 (QL below r S2 D y ad ([.ref (ad 28)] : List Value).toArray s) (F0 m 42 ls []) := by
    intro  k42 hk42 S x1 H locs ls hf hP hS hl
    unfold f_X9_digest_42 at hf
    refine lv_iload_n hx hb dX9_digest_42 rfl (lv_at hl 1 rfl) ?_
    refine lv_bipush (v := (6)) hx hb dX9_digest_43 (by decide) ?_
    refine lv_aload_n hx hb dX9_digest_45 rfl (lv_at hl 0 rfl) ?_
    refine w_gI (C := RX9) (T := TX9) hx hb hts n9 hown hK hP t_28 rfl 18 (by decide) L133 rfl dX9_digest_46 ?_
    refine lv_imul hx hb dX9_digest_49 ?_
    refine lv_icmp_ge (tgt := 76) hx hb dX9_digest_50 (by decide) (fun b_31 => ?_) (fun b_31 => ?_)
    · have hf := if_t b_31 hf
      refine lv_iconst (v := 0) hx hb dX9_digest_76 (by decide) ?_
      obtain ⟨x1_32, ex1_32, hf⟩ := bd_inv hf
      refine w_topI ex1_32 ?_
      refine lv_istore_n (lv' := [(1, .int x1_32), (0, .ref (ad 28))]) hx hb dX9_digest_77 rfl hl (by decide) rfl (fun ls hl => ?_)
      exact j78   n S x1_32 _ _ _ hf hP hS (lv_sub hl [1, 0] rfl)
    · have hf := if_f b_31 hf
      refine lv_aload_n hx hb dX9_digest_53 rfl (lv_at hl 0 rfl) ?_
      refine lv_aload_n hx hb dX9_digest_54 rfl (lv_at hl 0 rfl) ?_
      refine lv_iload_n hx hb dX9_digest_55 rfl (lv_at hl 1 rfl) ?_
      refine lv_bipush (v := (6)) hx hb dX9_digest_56 (by decide) ?_
      refine lv_idiv hx hb dX9_digest_58 (by decide) ?_
      refine lv_iload_n hx hb dX9_digest_59 rfl (lv_at hl 1 rfl) ?_
      refine lv_bipush (v := (6)) hx hb dX9_digest_60 (by decide) ?_
      refine lv_irem hx hb dX9_digest_62 (by decide) ?_
      obtain ⟨r_33, S_34, hc_35, hf⟩ := bo_inv hf
      refine w_ci (va_runV (As := [.int (x1 / (6 : Int32)), .int (x1 - x1 / (6 : Int32) * (6 : Int32))]) (rest := [.ref (ad 28)]) ⟨hx, hb, hml, hown, hts⟩ (c_X9_termNow l D y ad aL aU hI n S ((x1 / (6 : Int32))) ((x1 - x1 / (6 : Int32) * (6 : Int32))) _ _ hc_35) (cwV 2 hts gX9_digest_X9_termNow rfl rfl rfl (by decide +kernel) ⟨Nat.le_of_ble_eq_true rfl, Nat.le_of_ble_eq_true rfl⟩) (pwu_V t_28 rfl hP hK hZ hS) rfl rfl hl.1 rfl (lv_room (Nat.le_of_ble_eq_true rfl)) dX9_digest_63 ⟨Nat.zero_le _, Nat.zero_le _⟩) hS (fun H locs hP hS => ?_)
      refine lv_i2l hx hb dX9_digest_66 rfl ?_
      obtain ⟨r_36, S_37, hc_38, hf⟩ := bo_inv hf
      refine w_cv (va_runV (As := [.long (r_33).toInt64]) (rest := []) ⟨hx, hb, hml, hown, hts⟩ (c_X9_mix l D y ad aL aU hI n S_34 (r_33).toInt64 _ _ hc_38) (cwV 1 hts gX9_digest_X9_mix rfl rfl rfl (by decide +kernel) ⟨Nat.le_of_ble_eq_true rfl, Nat.le_of_ble_eq_true rfl⟩) (pwu_V t_28 rfl hP hK hZ hS) rfl rfl hl.1 rfl (lv_room (Nat.le_of_ble_eq_true rfl)) dX9_digest_67 ⟨Nat.zero_le _, Nat.zero_le _⟩) hS (fun H locs hP hS => ?_)
      obtain ⟨x1_39, ex1_39, hf⟩ := bd_inv hf
      refine lv_iinc (v := x1_39) (lv' := [(1, .int x1_39), (0, .ref (ad 28))]) hx hb dX9_digest_70 hl (k := 1) rfl (by rw [ex1_39]; rfl) (by decide) rfl (fun ls hl => ?_)
      refine lv_goto (tgt := 42) hx hb dX9_digest_73 (by decide) ?_
      exact hk42 S_37 x1_39 _ _ _ hf hP hS (lv_sub hl [1, 0] rfl)
  have j42 : ∀ (fu : Nat), ∀ (S : St) (x1 : Int32) (H : Heap) (locs : List Loc) (ls : Array Slot), fixF (fun _ _ => none) (f_X9_digest_42 n) fu S x1 = some (r, S2) → PW D y ad S H → va_S (AA ad) s.heap H locs → lv_has ls 2 [(0, .ref (ad 28)), (1, .int x1)] → W p l e (headSpec wsX9_digest ({ frames := 9, cells := 0, slots := 0, locals := 210 })).room s m ([.ref (ad 28)] : List Value).toArray below meth c H locs 0 0 (QL below r S2 D y ad ([.ref (ad 28)] : List Value).toArray s) (F0 m 42 ls []) := by
    intro   fu
    induction fu with
    | zero => intro S x1 H locs ls hf hP hS hl; cases hf
    | succ fu ih => exact b42   (fixF (fun _ _ => none) (f_X9_digest_42 n) fu) ih
  have b9 : ∀ (k9 : St → Int32 → Option (Int64 × St)) (hk9 : ∀ (S : St) (x1 : Int32) (H : Heap) (locs : List Loc) (ls : Array Slot), k9 S x1 = some (r, S2) → PW D y ad S H → va_S (AA ad) s.heap H locs → lv_has ls 2 [(0, .ref (ad 28)), (1, .int x1)] → W p l e (headSpec wsX9_digest ({ frames := 9, cells := 0, slots := 0, locals := 210 })).room s m ([.ref (ad 28)] : List Value).toArray below meth c H locs 0 0 (QL below r S2 D y ad ([.ref (ad 28)] : List Value).toArray s) (F0 m 9 ls [])), ∀ (S : St) (x1 : Int32) (H : Heap) (locs : List Loc) (ls : Array Slot), f_X9_digest_9 n k9 S x1 = some (r, S2) → PW D y ad S H → va_S (AA ad) s.heap H locs → lv_has ls 2 [(0, .ref (ad 28)), (1, .int x1)] → W p l e (headSpec wsX9_digest ({ frames := 9, cells := 0, slots := 0, locals := 210 })).room s m ([.ref (ad 28)] : List Value).toArray below meth c H locs 0 0 (QL below r S2 D y ad ([.ref (ad 28)] : List Value).toArray s) (F0 m 9 ls []) := by
    intro  k9 hk9 S x1 H locs ls hf hP hS hl
    unfold f_X9_digest_9 at hf
    refine lv_iload_n hx hb dX9_digest_9 rfl (lv_at hl 1 rfl) ?_
    refine lv_iconst (v := 4) hx hb dX9_digest_10 (by decide) ?_
    refine lv_aload_n hx hb dX9_digest_11 rfl (lv_at hl 0 rfl) ?_
    refine w_gI (C := RX9) (T := TX9) hx hb hts n9 hown hK hP t_28 rfl 2 (by decide) L141 rfl dX9_digest_12 ?_
    refine lv_imul hx hb dX9_digest_15 ?_
    refine lv_icmp_ge (tgt := 40) hx hb dX9_digest_16 (by decide) (fun b_40 => ?_) (fun b_40 => ?_)
    · have hf := if_t b_40 hf
      refine lv_iconst (v := 0) hx hb dX9_digest_40 (by decide) ?_
      obtain ⟨x1_41, ex1_41, hf⟩ := bd_inv hf
      refine w_topI ex1_41 ?_
      refine lv_istore_n (lv' := [(1, .int x1_41), (0, .ref (ad 28))]) hx hb dX9_digest_41 rfl hl (by decide) rfl (fun ls hl => ?_)
      exact j42   n S x1_41 _ _ _ hf hP hS (lv_sub hl [1, 0] rfl)
    · have hf := if_f b_40 hf
      refine lv_aload_n hx hb dX9_digest_19 rfl (lv_at hl 0 rfl) ?_
      refine lv_aload_n hx hb dX9_digest_20 rfl (lv_at hl 0 rfl) ?_
      refine lv_iload_n hx hb dX9_digest_21 rfl (lv_at hl 1 rfl) ?_
      refine lv_iconst (v := 4) hx hb dX9_digest_22 (by decide) ?_
      refine lv_idiv hx hb dX9_digest_23 (by decide) ?_
      refine lv_iload_n hx hb dX9_digest_24 rfl (lv_at hl 1 rfl) ?_
      refine lv_iconst (v := 4) hx hb dX9_digest_25 (by decide) ?_
      refine lv_irem hx hb dX9_digest_26 (by decide) ?_
      obtain ⟨r_42, S_43, hc_44, hf⟩ := bo_inv hf
      refine w_ci (va_runV (As := [.int (x1 / (4 : Int32)), .int (x1 - x1 / (4 : Int32) * (4 : Int32))]) (rest := [.ref (ad 28)]) ⟨hx, hb, hml, hown, hts⟩ (c_X9_literalNow l D y ad aL aU hI n S ((x1 / (4 : Int32))) ((x1 - x1 / (4 : Int32) * (4 : Int32))) _ _ hc_44) (cwV 2 hts gX9_digest_X9_literalNow rfl rfl rfl (by decide +kernel) ⟨Nat.le_of_ble_eq_true rfl, Nat.le_of_ble_eq_true rfl⟩) (pwu_V t_28 rfl hP hK hZ hS) rfl rfl hl.1 rfl (lv_room (Nat.le_of_ble_eq_true rfl)) dX9_digest_27 ⟨Nat.zero_le _, Nat.zero_le _⟩) hS (fun H locs hP hS => ?_)
      refine lv_i2l hx hb dX9_digest_30 rfl ?_
      obtain ⟨r_45, S_46, hc_47, hf⟩ := bo_inv hf
      refine w_cv (va_runV (As := [.long (r_42).toInt64]) (rest := []) ⟨hx, hb, hml, hown, hts⟩ (c_X9_mix l D y ad aL aU hI n S_43 (r_42).toInt64 _ _ hc_47) (cwV 1 hts gX9_digest_X9_mix rfl rfl rfl (by decide +kernel) ⟨Nat.le_of_ble_eq_true rfl, Nat.le_of_ble_eq_true rfl⟩) (pwu_V t_28 rfl hP hK hZ hS) rfl rfl hl.1 rfl (lv_room (Nat.le_of_ble_eq_true rfl)) dX9_digest_31 ⟨Nat.zero_le _, Nat.zero_le _⟩) hS (fun H locs hP hS => ?_)
      obtain ⟨x1_48, ex1_48, hf⟩ := bd_inv hf
      refine lv_iinc (v := x1_48) (lv' := [(1, .int x1_48), (0, .ref (ad 28))]) hx hb dX9_digest_34 hl (k := 1) rfl (by rw [ex1_48]; rfl) (by decide) rfl (fun ls hl => ?_)
      refine lv_goto (tgt := 9) hx hb dX9_digest_37 (by decide) ?_
      exact hk9 S_46 x1_48 _ _ _ hf hP hS (lv_sub hl [1, 0] rfl)
  have j9 : ∀ (fu : Nat), ∀ (S : St) (x1 : Int32) (H : Heap) (locs : List Loc) (ls : Array Slot), fixF (fun _ _ => none) (f_X9_digest_9 n) fu S x1 = some (r, S2) → PW D y ad S H → va_S (AA ad) s.heap H locs → lv_has ls 2 [(0, .ref (ad 28)), (1, .int x1)] → W p l e (headSpec wsX9_digest ({ frames := 9, cells := 0, slots := 0, locals := 210 })).room s m ([.ref (ad 28)] : List Value).toArray below meth c H locs 0 0 (QL below r S2 D y ad ([.ref (ad 28)] : List Value).toArray s) (F0 m 9 ls []) := by
    intro   fu
    induction fu with
    | zero => intro S x1 H locs ls hf hP hS hl; cases hf
    | succ fu ih => exact b9   (fixF (fun _ _ => none) (f_X9_digest_9 n) fu) ih
  unfold f_X9_digest at hf
  refine lv_aload_n hx hb dX9_digest_0 rfl (lv_at hl 0 rfl) ?_
  refine lv_ldc2 (v := (1609)) hx hb hown K360 dX9_digest_1 ?_
  obtain ⟨S_49, eS_49, hf⟩ := bd_inv hf
  refine w_pL (C := RX9) (T := TX9) hx hb hts n9 tyX9 tyX9_ok nmX9 hown hK hI hP hS t_28 rfl 47 (by decide) L357 rfl rfl rfl dX9_digest_4 (fun H locs hP hS => ?_)
  rw [← eS_49] at hP
  refine lv_iconst (v := 0) hx hb dX9_digest_7 (by decide) ?_
  obtain ⟨x1_50, ex1_50, hf⟩ := bd_inv hf
  refine w_topI ex1_50 ?_
  refine lv_istore_n (lv' := [(1, .int x1_50), (0, .ref (ad 28))]) hx hb dX9_digest_8 rfl hl (by decide) rfl (fun ls hl => ?_)
  exact j9   n S_49 x1_50 _ _ _ hf hP hS (lv_sub hl [1, 0] rfl)
