set_option maxHeartbeats 4000000 in
set_option maxRecDepth 100000 in
theorem c_X3_howManyHave (l : Launch) (D : va_G) (y : y4) (ad : Nat → Nat) (aL aU : Nat) (hI : Inj ad) (n : Nat) (S : St) (a1 : Int32) (r : Int32) (S2 : St) (hf : f_X3_howManyHave n S a1 = some (r, S2)) : KI l D y ad aL aU yX3_howManyHave wsX3_howManyHave ({ frames := 1, cells := 0, slots := 0, locals := 20 }) [.ref (ad 16), .int a1] S r S2 := by
  refine Met.ofW (cc := cX3_howManyHave) (maxL := 4) (ret := (some .int)) (by decide) rfl ?_
  intro p e s m args below meth c s₁ B hml hv
  obtain ⟨rfl, hP, hK, hZ⟩ := hv
  have hx := B.exec
  have hb := B.bytes
  have hr := B.returns
  have hts := atoms_spec (ws := wsX3_howManyHave) B.pre
  have hown : s.vm.findClass RX3 = some m.cls := findClass_of_methodNamed B.named
  have hlocks := B.notSynchronized
  have hS : va_S (AA ad) s.heap s.heap [] := va_S.rf
  have L15 := hts (.fieldLink RX3 15 "JoinedTheories$Literals" "lefts" "[I") (by decide +kernel)
  have L18 := hts (.fieldLink RX3 18 "JoinedTheories$Literals" "rights" "[I") (by decide +kernel)
  have L24 := hts (.fieldLink RX3 24 "JoinedTheories$Literals" "size" "I") (by decide +kernel)
  have n3 : ∀ w ∈ wsX30, w ∈ wsX3_howManyHave := by decide +kernel
  have hl := lv_entry ([.ref (ad 16), .int a1]) (n := 4) (Nat.le_of_ble_eq_true rfl)
  rw [lg_entry_eq]
  generalize (lg_sl ([.ref (ad 16), .int a1]) ++ List.replicate (4 - (lg_sl ([.ref (ad 16), .int a1])).length) Slot.unset).toArray = ls at hl ⊢
  have hl : lv_has ls 4 [(0, .ref (ad 16)), (1, .int a1)] := hl
  have j41 : ∀ (x1 : Int32) (k4 : St → Int32 → Int32 → Option (Int32 × St)) (hk4 : ∀ (S : St) (x2 : Int32) (x3 : Int32) (H : Heap) (locs : List Loc) (ls : Array Slot), k4 S x2 x3 = some (r, S2) → PW D y ad S H → va_S (AA ad) s.heap H locs → lv_has ls 4 [(0, .ref (ad 16)), (1, .int x1), (2, .int x2), (3, .int x3)] → W p l e (headSpec wsX3_howManyHave ({ frames := 1, cells := 0, slots := 0, locals := 20 })).room s m ([.ref (ad 16), .int a1] : List Value).toArray below meth c H locs 0 0 (QI below r S2 D y ad ([.ref (ad 16), .int a1] : List Value).toArray s) (F0 m 4 ls [])), ∀ (S : St) (x2 : Int32) (x3 : Int32) (H : Heap) (locs : List Loc) (ls : Array Slot), f_X3_howManyHave_41 n x1 k4 S x2 x3 = some (r, S2) → PW D y ad S H → va_S (AA ad) s.heap H locs → lv_has ls 4 [(0, .ref (ad 16)), (1, .int x1), (2, .int x2), (3, .int x3)] → W p l e (headSpec wsX3_howManyHave ({ frames := 1, cells := 0, slots := 0, locals := 20 })).room s m ([.ref (ad 16), .int a1] : List Value).toArray below meth c H locs 0 0 (QI below r S2 D y ad ([.ref (ad 16), .int a1] : List Value).toArray s) (F0 m 41 ls []) := by
    intro x1 k4 hk4 S x2 x3 H locs ls hf hP hS hl
    unfold f_X3_howManyHave_41 at hf
    obtain ⟨x3_1, ex3_1, hf⟩ := bd_inv hf
    refine lv_iinc (v := x3_1) (lv' := [(3, .int x3_1), (0, .ref (ad 16)), (1, .int x1), (2, .int x2)]) hx hb dX3_howManyHave_41 hl (k := 3) rfl (by rw [ex3_1]; rfl) (by decide) rfl (fun ls hl => ?_)
    refine lv_goto (tgt := 4) hx hb dX3_howManyHave_44 (by decide) ?_
    exact hk4 S x2 x3_1 _ _ _ hf hP hS (lv_sub hl [1, 2, 3, 0] rfl)
  have j38 : ∀ (x1 : Int32) (k4 : St → Int32 → Int32 → Option (Int32 × St)) (hk4 : ∀ (S : St) (x2 : Int32) (x3 : Int32) (H : Heap) (locs : List Loc) (ls : Array Slot), k4 S x2 x3 = some (r, S2) → PW D y ad S H → va_S (AA ad) s.heap H locs → lv_has ls 4 [(0, .ref (ad 16)), (1, .int x1), (2, .int x2), (3, .int x3)] → W p l e (headSpec wsX3_howManyHave ({ frames := 1, cells := 0, slots := 0, locals := 20 })).room s m ([.ref (ad 16), .int a1] : List Value).toArray below meth c H locs 0 0 (QI below r S2 D y ad ([.ref (ad 16), .int a1] : List Value).toArray s) (F0 m 4 ls [])), ∀ (S : St) (x2 : Int32) (x3 : Int32) (H : Heap) (locs : List Loc) (ls : Array Slot), f_X3_howManyHave_38 n x1 k4 S x2 x3 = some (r, S2) → PW D y ad S H → va_S (AA ad) s.heap H locs → lv_has ls 4 [(0, .ref (ad 16)), (1, .int x1), (2, .int x2), (3, .int x3)] → W p l e (headSpec wsX3_howManyHave ({ frames := 1, cells := 0, slots := 0, locals := 20 })).room s m ([.ref (ad 16), .int a1] : List Value).toArray below meth c H locs 0 0 (QI below r S2 D y ad ([.ref (ad 16), .int a1] : List Value).toArray s) (F0 m 38 ls []) := by
    intro x1 k4 hk4 S x2 x3 H locs ls hf hP hS hl
    unfold f_X3_howManyHave_38 at hf
    obtain ⟨x2_2, ex2_2, hf⟩ := bd_inv hf
    refine lv_iinc (v := x2_2) (lv' := [(2, .int x2_2), (0, .ref (ad 16)), (1, .int x1), (3, .int x3)]) hx hb dX3_howManyHave_38 hl (k := 2) rfl (by rw [ex2_2]; rfl) (by decide) rfl (fun ls hl => ?_)
    exact j41 x1 k4 hk4 S x2_2 x3 _ _ _ hf hP hS (lv_sub hl [1, 2, 0, 3] rfl)
  have b4 : ∀ (x1 : Int32) (k4 : St → Int32 → Int32 → Option (Int32 × St)) (hk4 : ∀ (S : St) (x2 : Int32) (x3 : Int32) (H : Heap) (locs : List Loc) (ls : Array Slot), k4 S x2 x3 = some (r, S2) → PW D y ad S H → va_S (AA ad) s.heap H locs → lv_has ls 4 [(0, .ref (ad 16)), (1, .int x1), (2, .int x2), (3, .int x3)] → W p l e (headSpec wsX3_howManyHave ({ frames := 1, cells := 0, slots := 0, locals := 20 })).room s m ([.ref (ad 16), .int a1] : List Value).toArray below meth c H locs 0 0 (QI below r S2 D y ad ([.ref (ad 16), .int a1] : List Value).toArray s) (F0 m 4 ls [])), ∀ (S : St) (x2 : Int32) (x3 : Int32) (H : Heap) (locs : List Loc) (ls : Array Slot), f_X3_howManyHave_4 n x1 k4 S x2 x3 = some (r, S2) → PW D y ad S H → va_S (AA ad) s.heap H locs → lv_has ls 4 [(0, .ref (ad 16)), (1, .int x1), (2, .int x2), (3, .int x3)] → W p l e (headSpec wsX3_howManyHave ({ frames := 1, cells := 0, slots := 0, locals := 20 })).room s m ([.ref (ad 16), .int a1] : List Value).toArray below meth c H locs 0 0 (QI below r S2 D y ad ([.ref (ad 16), .int a1] : List Value).toArray s) (F0 m 4 ls []) := by
    intro x1 k4 hk4 S x2 x3 H locs ls hf hP hS hl
    unfold f_X3_howManyHave_4 at hf
    refine lv_iload_n hx hb dX3_howManyHave_4 rfl (lv_at hl 3 rfl) ?_
    refine lv_aload_n hx hb dX3_howManyHave_5 rfl (lv_at hl 0 rfl) ?_
    refine w_gI (C := RX3) (T := TX3) hx hb hts n3 hown hK hP t_16 rfl 4 (by decide) L24 rfl dX3_howManyHave_6 ?_
    refine lv_icmp_ge (tgt := 47) hx hb dX3_howManyHave_9 (by decide) (fun b_3 => ?_) (fun b_3 => ?_)
    · have hf := if_t b_3 hf
      refine lv_iload_n hx hb dX3_howManyHave_47 rfl (lv_at hl 2 rfl) ?_
      exact w_iret hx hb hr hlocks hP hS (rt_inv hf) dX3_howManyHave_48
    · have hf := if_f b_3 hf
      refine lv_iload_n hx hb dX3_howManyHave_12 rfl (lv_at hl 3 rfl) ?_
      refine lv_bipush (v := (10)) hx hb dX3_howManyHave_13 (by decide) ?_
      refine lv_icmp_ge (tgt := 47) hx hb dX3_howManyHave_15 (by decide) (fun b_4 => ?_) (fun b_4 => ?_)
      · have hf := if_t b_4 hf
        refine lv_iload_n hx hb dX3_howManyHave_47 rfl (lv_at hl 2 rfl) ?_
        exact w_iret hx hb hr hlocks hP hS (rt_inv hf) dX3_howManyHave_48
      · have hf := if_f b_4 hf
        refine lv_aload_n hx hb dX3_howManyHave_18 rfl (lv_at hl 0 rfl) ?_
        refine w_gR (z := 18) (C := RX3) (T := TX3) hx hb hts n3 hown hK hP t_16 rfl 1 (by decide) L15 rfl rfl dX3_howManyHave_19 ?_
        refine lv_iload_n hx hb dX3_howManyHave_22 rfl (lv_at hl 3 rfl) ?_
        obtain ⟨g_5, hf⟩ := gd_inv hf
        refine w_iald hx hb hK hP t_18 g_5 dX3_howManyHave_23 ?_
        refine lv_iload_n hx hb dX3_howManyHave_24 rfl (lv_at hl 1 rfl) ?_
        refine lv_icmp_eq (tgt := 38) hx hb dX3_howManyHave_25 (by decide) (fun b_6 => ?_) (fun b_6 => ?_)
        · have hf := if_t b_6 hf
          exact j38 x1 k4 hk4 S x2 x3 _ _ _ hf hP hS (lv_sub hl [0, 1, 2, 3] rfl)
        · have hf := if_f b_6 hf
          refine lv_aload_n hx hb dX3_howManyHave_28 rfl (lv_at hl 0 rfl) ?_
          refine w_gR (z := 19) (C := RX3) (T := TX3) hx hb hts n3 hown hK hP t_16 rfl 2 (by decide) L18 rfl rfl dX3_howManyHave_29 ?_
          refine lv_iload_n hx hb dX3_howManyHave_32 rfl (lv_at hl 3 rfl) ?_
          obtain ⟨g_7, hf⟩ := gd_inv hf
          refine w_iald hx hb hK hP t_19 g_7 dX3_howManyHave_33 ?_
          refine lv_iload_n hx hb dX3_howManyHave_34 rfl (lv_at hl 1 rfl) ?_
          refine lv_icmp_ne (tgt := 41) hx hb dX3_howManyHave_35 (by decide) (fun b_8 => ?_) (fun b_8 => ?_)
          · have hf := if_f b_8 hf
            exact j41 x1 k4 hk4 S x2 x3 _ _ _ hf hP hS (lv_sub hl [0, 1, 2, 3] rfl)
          · have hf := if_t b_8 hf
            exact j38 x1 k4 hk4 S x2 x3 _ _ _ hf hP hS (lv_sub hl [0, 1, 2, 3] rfl)
  have j4 : ∀ (x1 : Int32) (fu : Nat), ∀ (S : St) (x2 : Int32) (x3 : Int32) (H : Heap) (locs : List Loc) (ls : Array Slot), fixF (fun _ _ _ => none) (f_X3_howManyHave_4 n x1) fu S x2 x3 = some (r, S2) → PW D y ad S H → va_S (AA ad) s.heap H locs → lv_has ls 4 [(0, .ref (ad 16)), (1, .int x1), (2, .int x2), (3, .int x3)] → W p l e (headSpec wsX3_howManyHave ({ frames := 1, cells := 0, slots := 0, locals := 20 })).room s m ([.ref (ad 16), .int a1] : List Value).toArray below meth c H locs 0 0 (QI below r S2 D y ad ([.ref (ad 16), .int a1] : List Value).toArray s) (F0 m 4 ls []) := by
    intro x1  fu
    induction fu with
    | zero => intro S x2 x3 H locs ls hf hP hS hl; cases hf
    | succ fu ih => exact b4 x1  (fixF (fun _ _ _ => none) (f_X3_howManyHave_4 n x1) fu) ih
  unfold f_X3_howManyHave at hf
  refine lv_iconst (v := 0) hx hb dX3_howManyHave_0 (by decide) ?_
  obtain ⟨x2_9, ex2_9, hf⟩ := bd_inv hf
  refine w_topI ex2_9 ?_
  refine lv_istore_n (lv' := [(2, .int x2_9), (0, .ref (ad 16)), (1, .int a1)]) hx hb dX3_howManyHave_1 rfl hl (by decide) rfl (fun ls hl => ?_)
  refine lv_iconst (v := 0) hx hb dX3_howManyHave_2 (by decide) ?_
  obtain ⟨x3_10, ex3_10, hf⟩ := bd_inv hf
  refine w_topI ex3_10 ?_
  refine lv_istore_n (lv' := [(3, .int x3_10), (2, .int x2_9), (0, .ref (ad 16)), (1, .int a1)]) hx hb dX3_howManyHave_3 rfl hl (by decide) rfl (fun ls hl => ?_)
  exact j4 a1  n S x2_9 x3_10 _ _ _ hf hP hS (lv_sub hl [2, 3, 1, 0] rfl)
set_option maxHeartbeats 4000000 in
set_option maxRecDepth 100000 in
theorem c_X3_append (l : Launch) (D : va_G) (y : y4) (ad : Nat → Nat) (aL aU : Nat) (hI : Inj ad) (n : Nat) (S : St) (a1 : Int32) (a2 : Int32) (a3 : Int32) (a4 : Int32) (r : Unit) (S2 : St) (hf : f_X3_append n S a1 a2 a3 a4 = some (r, S2)) : KV l D y ad aL aU yX3_append wsX3_append ({ frames := 1, cells := 0, slots := 0, locals := 20 }) [.ref (ad 16), .int a1, .int a2, .int a3, .int a4] S r S2 := by
  refine Met.ofW (cc := cX3_append) (maxL := 5) (ret := none) (by decide) rfl ?_
  intro p e s m args below meth c s₁ B hml hv
  obtain ⟨rfl, hP, hK, hZ⟩ := hv
  have hx := B.exec
  have hb := B.bytes
  have hr := B.returns
  have hts := atoms_spec (ws := wsX3_append) B.pre
  have hown : s.vm.findClass RX3 = some m.cls := findClass_of_methodNamed B.named
  have hlocks := B.notSynchronized
  have hS : va_S (AA ad) s.heap s.heap [] := va_S.rf
  have L9 := hts (.fieldLink RX3 9 "JoinedTheories$Literals" "kinds" "[I") (by decide +kernel)
  have L15 := hts (.fieldLink RX3 15 "JoinedTheories$Literals" "lefts" "[I") (by decide +kernel)
  have L18 := hts (.fieldLink RX3 18 "JoinedTheories$Literals" "rights" "[I") (by decide +kernel)
  have L21 := hts (.fieldLink RX3 21 "JoinedTheories$Literals" "numbers" "[I") (by decide +kernel)
  have L24 := hts (.fieldLink RX3 24 "JoinedTheories$Literals" "size" "I") (by decide +kernel)
  have n3 : ∀ w ∈ wsX30, w ∈ wsX3_append := by decide +kernel
  have hl := lv_entry ([.ref (ad 16), .int a1, .int a2, .int a3, .int a4]) (n := 5) (Nat.le_of_ble_eq_true rfl)
  rw [lg_entry_eq]
  generalize (lg_sl ([.ref (ad 16), .int a1, .int a2, .int a3, .int a4]) ++ List.replicate (5 - (lg_sl ([.ref (ad 16), .int a1, .int a2, .int a3, .int a4])).length) Slot.unset).toArray = ls at hl ⊢
  have hl : lv_has ls 5 [(0, .ref (ad 16)), (1, .int a1), (2, .int a2), (3, .int a3), (4, .int a4)] := hl
  unfold f_X3_append at hf
  refine lv_aload_n hx hb dX3_append_0 rfl (lv_at hl 0 rfl) ?_
  refine w_gI (C := RX3) (T := TX3) hx hb hts n3 hown hK hP t_16 rfl 4 (by decide) L24 rfl dX3_append_1 ?_
  refine lv_if_lt (tgt := 16) hx hb dX3_append_4 (by decide) (fun b_1 => ?_) (fun b_1 => ?_)
  · have hf := if_t b_1 hf
    exact w_vret hx hb hr hlocks hP hS (rt_inv hf) dX3_append_16
  · have hf := if_f b_1 hf
    refine lv_aload_n hx hb dX3_append_7 rfl (lv_at hl 0 rfl) ?_
    refine w_gI (C := RX3) (T := TX3) hx hb hts n3 hown hK hP t_16 rfl 4 (by decide) L24 rfl dX3_append_8 ?_
    refine lv_bipush (v := (10)) hx hb dX3_append_11 (by decide) ?_
    refine lv_icmp_lt (tgt := 17) hx hb dX3_append_13 (by decide) (fun b_2 => ?_) (fun b_2 => ?_)
    · have hf := if_t b_2 hf
      refine lv_aload_n hx hb dX3_append_17 rfl (lv_at hl 0 rfl) ?_
      refine w_gR (z := 17) (C := RX3) (T := TX3) hx hb hts n3 hown hK hP t_16 rfl 0 (by decide) L9 rfl rfl dX3_append_18 ?_
      refine lv_aload_n hx hb dX3_append_21 rfl (lv_at hl 0 rfl) ?_
      refine w_gI (C := RX3) (T := TX3) hx hb hts n3 hown hK hP t_16 rfl 4 (by decide) L24 rfl dX3_append_22 ?_
      refine lv_iload_n hx hb dX3_append_25 rfl (lv_at hl 1 rfl) ?_
      obtain ⟨g_3, hf⟩ := gd_inv hf
      obtain ⟨S_4, eS_4, hf⟩ := bd_inv hf
      refine w_iast hx hb hK hI hP hS t_17 g_3 dX3_append_26 (fun H locs hP hS => ?_)
      rw [← eS_4] at hP
      refine lv_aload_n hx hb dX3_append_27 rfl (lv_at hl 0 rfl) ?_
      refine w_gR (z := 18) (C := RX3) (T := TX3) hx hb hts n3 hown hK hP t_16 rfl 1 (by decide) L15 rfl rfl dX3_append_28 ?_
      refine lv_aload_n hx hb dX3_append_31 rfl (lv_at hl 0 rfl) ?_
      refine w_gI (C := RX3) (T := TX3) hx hb hts n3 hown hK hP t_16 rfl 4 (by decide) L24 rfl dX3_append_32 ?_
      refine lv_iload_n hx hb dX3_append_35 rfl (lv_at hl 2 rfl) ?_
      obtain ⟨g_5, hf⟩ := gd_inv hf
      obtain ⟨S_6, eS_6, hf⟩ := bd_inv hf
      refine w_iast hx hb hK hI hP hS t_18 g_5 dX3_append_36 (fun H locs hP hS => ?_)
      rw [← eS_6] at hP
      refine lv_aload_n hx hb dX3_append_37 rfl (lv_at hl 0 rfl) ?_
      refine w_gR (z := 19) (C := RX3) (T := TX3) hx hb hts n3 hown hK hP t_16 rfl 2 (by decide) L18 rfl rfl dX3_append_38 ?_
      refine lv_aload_n hx hb dX3_append_41 rfl (lv_at hl 0 rfl) ?_
      refine w_gI (C := RX3) (T := TX3) hx hb hts n3 hown hK hP t_16 rfl 4 (by decide) L24 rfl dX3_append_42 ?_
      refine lv_iload_n hx hb dX3_append_45 rfl (lv_at hl 3 rfl) ?_
      obtain ⟨g_7, hf⟩ := gd_inv hf
      obtain ⟨S_8, eS_8, hf⟩ := bd_inv hf
      refine w_iast hx hb hK hI hP hS t_19 g_7 dX3_append_46 (fun H locs hP hS => ?_)
      rw [← eS_8] at hP
      refine lv_aload_n hx hb dX3_append_47 rfl (lv_at hl 0 rfl) ?_
      refine w_gR (z := 20) (C := RX3) (T := TX3) hx hb hts n3 hown hK hP t_16 rfl 3 (by decide) L21 rfl rfl dX3_append_48 ?_
      refine lv_aload_n hx hb dX3_append_51 rfl (lv_at hl 0 rfl) ?_
      refine w_gI (C := RX3) (T := TX3) hx hb hts n3 hown hK hP t_16 rfl 4 (by decide) L24 rfl dX3_append_52 ?_
      refine lv_iload hx hb dX3_append_55 (lv_at hl 4 rfl) ?_
      obtain ⟨g_9, hf⟩ := gd_inv hf
      obtain ⟨S_10, eS_10, hf⟩ := bd_inv hf
      refine w_iast hx hb hK hI hP hS t_20 g_9 dX3_append_57 (fun H locs hP hS => ?_)
      rw [← eS_10] at hP
      refine lv_aload_n hx hb dX3_append_58 rfl (lv_at hl 0 rfl) ?_
      refine lv_dup hx hb dX3_append_59 rfl ?_
      refine w_gI (C := RX3) (T := TX3) hx hb hts n3 hown hK hP t_16 rfl 4 (by decide) L24 rfl dX3_append_60 ?_
      refine lv_iconst (v := 1) hx hb dX3_append_63 (by decide) ?_
      refine lv_iadd hx hb dX3_append_64 ?_
      obtain ⟨S_11, eS_11, hf⟩ := bd_inv hf
      refine w_pI (ty := .int) (C := RX3) (T := TX3) hx hb hts n3 tyX3 tyX3_ok nmX3 hown hK hI hP hS t_16 rfl 4 (by decide) L24 rfl rfl rfl ⟨rfl, rfl⟩ dX3_append_65 (fun H locs hP hS => ?_)
      rw [← eS_11] at hP
      exact w_vret hx hb hr hlocks hP hS (rt_inv hf) dX3_append_68
    · have hf := if_f b_2 hf
      exact w_vret hx hb hr hlocks hP hS (rt_inv hf) dX3_append_16
set_option maxHeartbeats 4000000 in
set_option maxRecDepth 100000 in
theorem c_X3_removeAt (l : Launch) (D : va_G) (y : y4) (ad : Nat → Nat) (aL aU : Nat) (hI : Inj ad) (n : Nat) (S : St) (a1 : Int32) (r : Unit) (S2 : St) (hf : f_X3_removeAt n S a1 = some (r, S2)) : KV l D y ad aL aU yX3_removeAt wsX3_removeAt ({ frames := 2, cells := 0, slots := 0, locals := 41 }) [.ref (ad 16), .int a1] S r S2 := by
  refine Met.ofW (cc := cX3_removeAt) (maxL := 3) (ret := none) (by decide) rfl ?_
  intro p e s m args below meth c s₁ B hml hv
  obtain ⟨rfl, hP, hK, hZ⟩ := hv
  have hx := B.exec
  have hb := B.bytes
  have hr := B.returns
  have hts := atoms_spec (ws := wsX3_removeAt) B.pre
  have hown : s.vm.findClass RX3 = some m.cls := findClass_of_methodNamed B.named
  have hlocks := B.notSynchronized
  have hS : va_S (AA ad) s.heap s.heap [] := va_S.rf
  have L9 := hts (.fieldLink RX3 9 "JoinedTheories$Literals" "kinds" "[I") (by decide +kernel)
  have L15 := hts (.fieldLink RX3 15 "JoinedTheories$Literals" "lefts" "[I") (by decide +kernel)
  have L18 := hts (.fieldLink RX3 18 "JoinedTheories$Literals" "rights" "[I") (by decide +kernel)
  have L21 := hts (.fieldLink RX3 21 "JoinedTheories$Literals" "numbers" "[I") (by decide +kernel)
  have L24 := hts (.fieldLink RX3 24 "JoinedTheories$Literals" "size" "I") (by decide +kernel)
  have n3 : ∀ w ∈ wsX30, w ∈ wsX3_removeAt := by decide +kernel
  have hl := lv_entry ([.ref (ad 16), .int a1]) (n := 3) (Nat.le_of_ble_eq_true rfl)
  rw [lg_entry_eq]
  generalize (lg_sl ([.ref (ad 16), .int a1]) ++ List.replicate (3 - (lg_sl ([.ref (ad 16), .int a1])).length) Slot.unset).toArray = ls at hl ⊢
  have hl : lv_has ls 3 [(0, .ref (ad 16)), (1, .int a1)] := hl
  have j91 : ∀ (S : St) (H : Heap) (locs : List Loc) (ls : Array Slot), f_X3_removeAt_91 n S = some (r, S2) → PW D y ad S H → va_S (AA ad) s.heap H locs → lv_has ls 3 [(0, .ref (ad 16))] → W p l e (headSpec wsX3_removeAt ({ frames := 2, cells := 0, slots := 0, locals := 41 })).room s m ([.ref (ad 16), .int a1] : List Value).toArray below meth c H locs 0 0 (QV below r S2 D y ad ([.ref (ad 16), .int a1] : List Value).toArray s) (F0 m 91 ls []) := by
    intro  S H locs ls hf hP hS hl
    unfold f_X3_removeAt_91 at hf
    refine lv_aload_n hx hb dX3_removeAt_91 rfl (lv_at hl 0 rfl) ?_
    refine lv_dup hx hb dX3_removeAt_92 rfl ?_
    refine w_gI (C := RX3) (T := TX3) hx hb hts n3 hown hK hP t_16 rfl 4 (by decide) L24 rfl dX3_removeAt_93 ?_
    refine lv_iconst (v := 1) hx hb dX3_removeAt_96 (by decide) ?_
    refine lv_isub hx hb dX3_removeAt_97 ?_
    obtain ⟨S_1, eS_1, hf⟩ := bd_inv hf
    refine w_pI (ty := .int) (C := RX3) (T := TX3) hx hb hts n3 tyX3 tyX3_ok nmX3 hown hK hI hP hS t_16 rfl 4 (by decide) L24 rfl rfl rfl ⟨rfl, rfl⟩ dX3_removeAt_98 (fun H locs hP hS => ?_)
    rw [← eS_1] at hP
    exact w_vret hx hb hr hlocks hP hS (rt_inv hf) dX3_removeAt_101
  have b11 : ∀ (k11 : St → Int32 → Option (Unit × St)) (hk11 : ∀ (S : St) (x2 : Int32) (H : Heap) (locs : List Loc) (ls : Array Slot), k11 S x2 = some (r, S2) → PW D y ad S H → va_S (AA ad) s.heap H locs → lv_has ls 3 [(0, .ref (ad 16)), (2, .int x2)] → W p l e (headSpec wsX3_removeAt ({ frames := 2, cells := 0, slots := 0, locals := 41 })).room s m ([.ref (ad 16), .int a1] : List Value).toArray below meth c H locs 0 0 (QV below r S2 D y ad ([.ref (ad 16), .int a1] : List Value).toArray s) (F0 m 11 ls [])), ∀ (S : St) (x2 : Int32) (H : Heap) (locs : List Loc) (ls : Array Slot), f_X3_removeAt_11 n k11 S x2 = some (r, S2) → PW D y ad S H → va_S (AA ad) s.heap H locs → lv_has ls 3 [(0, .ref (ad 16)), (2, .int x2)] → W p l e (headSpec wsX3_removeAt ({ frames := 2, cells := 0, slots := 0, locals := 41 })).room s m ([.ref (ad 16), .int a1] : List Value).toArray below meth c H locs 0 0 (QV below r S2 D y ad ([.ref (ad 16), .int a1] : List Value).toArray s) (F0 m 11 ls []) := by
    intro  k11 hk11 S x2 H locs ls hf hP hS hl
    unfold f_X3_removeAt_11 at hf
    refine lv_iload_n hx hb dX3_removeAt_11 rfl (lv_at hl 1 rfl) ?_
    refine lv_iconst (v := 1) hx hb dX3_removeAt_12 (by decide) ?_
    refine lv_iadd hx hb dX3_removeAt_13 ?_
    refine lv_aload_n hx hb dX3_removeAt_14 rfl (lv_at hl 0 rfl) ?_
    refine w_gI (C := RX3) (T := TX3) hx hb hts n3 hown hK hP t_16 rfl 4 (by decide) L24 rfl dX3_removeAt_15 ?_
    refine lv_icmp_ge (tgt := 91) hx hb dX3_removeAt_18 (by decide) (fun b_2 => ?_) (fun b_2 => ?_)
    · have hf := if_t b_2 hf
      exact j91   S  _ _ _ hf hP hS (lv_sub hl [0] rfl)
    · have hf := if_f b_2 hf
      refine lv_iload_n hx hb dX3_removeAt_21 rfl (lv_at hl 1 rfl) ?_
      refine lv_iconst (v := 1) hx hb dX3_removeAt_22 (by decide) ?_
      refine lv_iadd hx hb dX3_removeAt_23 ?_
      refine lv_bipush (v := (10)) hx hb dX3_removeAt_24 (by decide) ?_
      refine lv_icmp_ge (tgt := 91) hx hb dX3_removeAt_26 (by decide) (fun b_3 => ?_) (fun b_3 => ?_)
      · have hf := if_t b_3 hf
        exact j91   S  _ _ _ hf hP hS (lv_sub hl [0] rfl)
      · have hf := if_f b_3 hf
        refine lv_aload_n hx hb dX3_removeAt_29 rfl (lv_at hl 0 rfl) ?_
        refine w_gR (z := 17) (C := RX3) (T := TX3) hx hb hts n3 hown hK hP t_16 rfl 0 (by decide) L9 rfl rfl dX3_removeAt_30 ?_
        refine lv_iload_n hx hb dX3_removeAt_33 rfl (lv_at hl 1 rfl) ?_
        refine lv_aload_n hx hb dX3_removeAt_34 rfl (lv_at hl 0 rfl) ?_
        refine w_gR (z := 17) (C := RX3) (T := TX3) hx hb hts n3 hown hK hP t_16 rfl 0 (by decide) L9 rfl rfl dX3_removeAt_35 ?_
        refine lv_iload_n hx hb dX3_removeAt_38 rfl (lv_at hl 1 rfl) ?_
        refine lv_iconst (v := 1) hx hb dX3_removeAt_39 (by decide) ?_
        refine lv_iadd hx hb dX3_removeAt_40 ?_
        obtain ⟨g_4, hf⟩ := gd_inv hf
        refine w_iald hx hb hK hP t_17 g_4 dX3_removeAt_41 ?_
        obtain ⟨g_5, hf⟩ := gd_inv hf
        obtain ⟨S_6, eS_6, hf⟩ := bd_inv hf
        refine w_iast hx hb hK hI hP hS t_17 g_5 dX3_removeAt_42 (fun H locs hP hS => ?_)
        rw [← eS_6] at hP
        refine lv_aload_n hx hb dX3_removeAt_43 rfl (lv_at hl 0 rfl) ?_
        refine w_gR (z := 18) (C := RX3) (T := TX3) hx hb hts n3 hown hK hP t_16 rfl 1 (by decide) L15 rfl rfl dX3_removeAt_44 ?_
        refine lv_iload_n hx hb dX3_removeAt_47 rfl (lv_at hl 1 rfl) ?_
        refine lv_aload_n hx hb dX3_removeAt_48 rfl (lv_at hl 0 rfl) ?_
        refine w_gR (z := 18) (C := RX3) (T := TX3) hx hb hts n3 hown hK hP t_16 rfl 1 (by decide) L15 rfl rfl dX3_removeAt_49 ?_
        refine lv_iload_n hx hb dX3_removeAt_52 rfl (lv_at hl 1 rfl) ?_
        refine lv_iconst (v := 1) hx hb dX3_removeAt_53 (by decide) ?_
        refine lv_iadd hx hb dX3_removeAt_54 ?_
        obtain ⟨g_7, hf⟩ := gd_inv hf
        refine w_iald hx hb hK hP t_18 g_7 dX3_removeAt_55 ?_
        obtain ⟨g_8, hf⟩ := gd_inv hf
        obtain ⟨S_9, eS_9, hf⟩ := bd_inv hf
        refine w_iast hx hb hK hI hP hS t_18 g_8 dX3_removeAt_56 (fun H locs hP hS => ?_)
        rw [← eS_9] at hP
        refine lv_aload_n hx hb dX3_removeAt_57 rfl (lv_at hl 0 rfl) ?_
        refine w_gR (z := 19) (C := RX3) (T := TX3) hx hb hts n3 hown hK hP t_16 rfl 2 (by decide) L18 rfl rfl dX3_removeAt_58 ?_
        refine lv_iload_n hx hb dX3_removeAt_61 rfl (lv_at hl 1 rfl) ?_
        refine lv_aload_n hx hb dX3_removeAt_62 rfl (lv_at hl 0 rfl) ?_
        refine w_gR (z := 19) (C := RX3) (T := TX3) hx hb hts n3 hown hK hP t_16 rfl 2 (by decide) L18 rfl rfl dX3_removeAt_63 ?_
        refine lv_iload_n hx hb dX3_removeAt_66 rfl (lv_at hl 1 rfl) ?_
        refine lv_iconst (v := 1) hx hb dX3_removeAt_67 (by decide) ?_
        refine lv_iadd hx hb dX3_removeAt_68 ?_
        obtain ⟨g_10, hf⟩ := gd_inv hf
        refine w_iald hx hb hK hP t_19 g_10 dX3_removeAt_69 ?_
        obtain ⟨g_11, hf⟩ := gd_inv hf
        obtain ⟨S_12, eS_12, hf⟩ := bd_inv hf
        refine w_iast hx hb hK hI hP hS t_19 g_11 dX3_removeAt_70 (fun H locs hP hS => ?_)
        rw [← eS_12] at hP
        refine lv_aload_n hx hb dX3_removeAt_71 rfl (lv_at hl 0 rfl) ?_
        refine w_gR (z := 20) (C := RX3) (T := TX3) hx hb hts n3 hown hK hP t_16 rfl 3 (by decide) L21 rfl rfl dX3_removeAt_72 ?_
        refine lv_iload_n hx hb dX3_removeAt_75 rfl (lv_at hl 1 rfl) ?_
        refine lv_aload_n hx hb dX3_removeAt_76 rfl (lv_at hl 0 rfl) ?_
        refine w_gR (z := 20) (C := RX3) (T := TX3) hx hb hts n3 hown hK hP t_16 rfl 3 (by decide) L21 rfl rfl dX3_removeAt_77 ?_
        refine lv_iload_n hx hb dX3_removeAt_80 rfl (lv_at hl 1 rfl) ?_
        refine lv_iconst (v := 1) hx hb dX3_removeAt_81 (by decide) ?_
        refine lv_iadd hx hb dX3_removeAt_82 ?_
        obtain ⟨g_13, hf⟩ := gd_inv hf
        refine w_iald hx hb hK hP t_20 g_13 dX3_removeAt_83 ?_
        obtain ⟨g_14, hf⟩ := gd_inv hf
        obtain ⟨S_15, eS_15, hf⟩ := bd_inv hf
        refine w_iast hx hb hK hI hP hS t_20 g_14 dX3_removeAt_84 (fun H locs hP hS => ?_)
        rw [← eS_15] at hP
        obtain ⟨x2_16, ex2_16, hf⟩ := bd_inv hf
        refine lv_iinc (v := x2_16) (lv' := [(2, .int x2_16), (0, .ref (ad 16))]) hx hb dX3_removeAt_85 hl (k := 1) rfl (by rw [ex2_16]; rfl) (by decide) rfl (fun ls hl => ?_)
        refine lv_goto (tgt := 11) hx hb dX3_removeAt_88 (by decide) ?_
        exact hk11 S_15 x2_16 _ _ _ hf hP hS (lv_sub hl [1, 0] rfl)
  have j11 : ∀ (fu : Nat), ∀ (S : St) (x2 : Int32) (H : Heap) (locs : List Loc) (ls : Array Slot), fixF (fun _ _ => none) (f_X3_removeAt_11 n) fu S x2 = some (r, S2) → PW D y ad S H → va_S (AA ad) s.heap H locs → lv_has ls 3 [(0, .ref (ad 16)), (2, .int x2)] → W p l e (headSpec wsX3_removeAt ({ frames := 2, cells := 0, slots := 0, locals := 41 })).room s m ([.ref (ad 16), .int a1] : List Value).toArray below meth c H locs 0 0 (QV below r S2 D y ad ([.ref (ad 16), .int a1] : List Value).toArray s) (F0 m 11 ls []) := by
    intro   fu
    induction fu with
    | zero => intro S x2 H locs ls hf hP hS hl; cases hf
    | succ fu ih => exact b11   (fixF (fun _ _ => none) (f_X3_removeAt_11 n) fu) ih
  unfold f_X3_removeAt at hf
  refine lv_aload_n hx hb dX3_removeAt_0 rfl (lv_at hl 0 rfl) ?_
  refine lv_iload_n hx hb dX3_removeAt_1 rfl (lv_at hl 1 rfl) ?_
  obtain ⟨r_17, S_18, hc_19, hf⟩ := bo_inv hf
  refine w_ci (va_runV (As := [.int a1]) (rest := []) ⟨hx, hb, hml, hown, hts⟩ (c_X3_has l D y ad aL aU hI n S a1 _ _ hc_19) (cwV 1 hts gX3_removeAt_X3_has rfl rfl rfl (by decide +kernel) ⟨Nat.le_of_ble_eq_true rfl, Nat.le_of_ble_eq_true rfl⟩) (pwu_V t_16 rfl hP hK hZ hS) rfl rfl hl.1 rfl (lv_room (Nat.le_of_ble_eq_true rfl)) dX3_removeAt_2 ⟨Nat.zero_le _, Nat.zero_le _⟩) hS (fun H locs hP hS => ?_)
  refine lv_if_ne (tgt := 9) hx hb dX3_removeAt_5 (by decide) (fun b_20 => ?_) (fun b_20 => ?_)
  · have hf := if_f b_20 hf
    refine lv_iload_n hx hb dX3_removeAt_9 rfl (lv_at hl 1 rfl) ?_
    obtain ⟨x2_21, ex2_21, hf⟩ := bd_inv hf
    refine w_topI ex2_21 ?_
    refine lv_istore_n (lv' := [(2, .int x2_21), (0, .ref (ad 16)), (1, .int a1)]) hx hb dX3_removeAt_10 rfl hl (by decide) rfl (fun ls hl => ?_)
    exact j11   n S_18 x2_21 _ _ _ hf hP hS (lv_sub hl [1, 0] rfl)
  · have hf := if_t b_20 hf
    exact w_vret hx hb hr hlocks hP hS (rt_inv hf) dX3_removeAt_8
set_option maxHeartbeats 4000000 in
set_option maxRecDepth 100000 in
theorem c_X3_setTerms (l : Launch) (D : va_G) (y : y4) (ad : Nat → Nat) (aL aU : Nat) (hI : Inj ad) (n : Nat) (S : St) (a1 : Int32) (a2 : Int32) (a3 : Int32) (r : Unit) (S2 : St) (hf : f_X3_setTerms n S a1 a2 a3 = some (r, S2)) : KV l D y ad aL aU yX3_setTerms wsX3_setTerms ({ frames := 2, cells := 0, slots := 0, locals := 41 }) [.ref (ad 16), .int a1, .int a2, .int a3] S r S2 := by
  refine Met.ofW (cc := cX3_setTerms) (maxL := 4) (ret := none) (by decide) rfl ?_
  intro p e s m args below meth c s₁ B hml hv
  obtain ⟨rfl, hP, hK, hZ⟩ := hv
  have hx := B.exec
  have hb := B.bytes
  have hr := B.returns
  have hts := atoms_spec (ws := wsX3_setTerms) B.pre
  have hown : s.vm.findClass RX3 = some m.cls := findClass_of_methodNamed B.named
  have hlocks := B.notSynchronized
  have hS : va_S (AA ad) s.heap s.heap [] := va_S.rf
  have L15 := hts (.fieldLink RX3 15 "JoinedTheories$Literals" "lefts" "[I") (by decide +kernel)
  have L18 := hts (.fieldLink RX3 18 "JoinedTheories$Literals" "rights" "[I") (by decide +kernel)
  have n3 : ∀ w ∈ wsX30, w ∈ wsX3_setTerms := by decide +kernel
  have hl := lv_entry ([.ref (ad 16), .int a1, .int a2, .int a3]) (n := 4) (Nat.le_of_ble_eq_true rfl)
  rw [lg_entry_eq]
  generalize (lg_sl ([.ref (ad 16), .int a1, .int a2, .int a3]) ++ List.replicate (4 - (lg_sl ([.ref (ad 16), .int a1, .int a2, .int a3])).length) Slot.unset).toArray = ls at hl ⊢
  have hl : lv_has ls 4 [(0, .ref (ad 16)), (1, .int a1), (2, .int a2), (3, .int a3)] := hl
  unfold f_X3_setTerms at hf
  refine lv_aload_n hx hb dX3_setTerms_0 rfl (lv_at hl 0 rfl) ?_
  refine lv_iload_n hx hb dX3_setTerms_1 rfl (lv_at hl 1 rfl) ?_
  obtain ⟨r_1, S_2, hc_3, hf⟩ := bo_inv hf
  refine w_ci (va_runV (As := [.int a1]) (rest := []) ⟨hx, hb, hml, hown, hts⟩ (c_X3_has l D y ad aL aU hI n S a1 _ _ hc_3) (cwV 1 hts gX3_setTerms_X3_has rfl rfl rfl (by decide +kernel) ⟨Nat.le_of_ble_eq_true rfl, Nat.le_of_ble_eq_true rfl⟩) (pwu_V t_16 rfl hP hK hZ hS) rfl rfl hl.1 rfl (lv_room (Nat.le_of_ble_eq_true rfl)) dX3_setTerms_2 ⟨Nat.zero_le _, Nat.zero_le _⟩) hS (fun H locs hP hS => ?_)
  refine lv_if_eq (tgt := 22) hx hb dX3_setTerms_5 (by decide) (fun b_4 => ?_) (fun b_4 => ?_)
  · have hf := if_t b_4 hf
    exact w_vret hx hb hr hlocks hP hS (rt_inv hf) dX3_setTerms_22
  · have hf := if_f b_4 hf
    refine lv_aload_n hx hb dX3_setTerms_8 rfl (lv_at hl 0 rfl) ?_
    refine w_gR (z := 18) (C := RX3) (T := TX3) hx hb hts n3 hown hK hP t_16 rfl 1 (by decide) L15 rfl rfl dX3_setTerms_9 ?_
    refine lv_iload_n hx hb dX3_setTerms_12 rfl (lv_at hl 1 rfl) ?_
    refine lv_iload_n hx hb dX3_setTerms_13 rfl (lv_at hl 2 rfl) ?_
    obtain ⟨g_5, hf⟩ := gd_inv hf
    obtain ⟨S_6, eS_6, hf⟩ := bd_inv hf
    refine w_iast hx hb hK hI hP hS t_18 g_5 dX3_setTerms_14 (fun H locs hP hS => ?_)
    rw [← eS_6] at hP
    refine lv_aload_n hx hb dX3_setTerms_15 rfl (lv_at hl 0 rfl) ?_
    refine w_gR (z := 19) (C := RX3) (T := TX3) hx hb hts n3 hown hK hP t_16 rfl 2 (by decide) L18 rfl rfl dX3_setTerms_16 ?_
    refine lv_iload_n hx hb dX3_setTerms_19 rfl (lv_at hl 1 rfl) ?_
    refine lv_iload_n hx hb dX3_setTerms_20 rfl (lv_at hl 3 rfl) ?_
    obtain ⟨g_7, hf⟩ := gd_inv hf
    obtain ⟨S_8, eS_8, hf⟩ := bd_inv hf
    refine w_iast hx hb hK hI hP hS t_19 g_7 dX3_setTerms_21 (fun H locs hP hS => ?_)
    rw [← eS_8] at hP
    exact w_vret hx hb hr hlocks hP hS (rt_inv hf) dX3_setTerms_22
set_option maxHeartbeats 4000000 in
set_option maxRecDepth 100000 in
theorem c_X3_setNumber (l : Launch) (D : va_G) (y : y4) (ad : Nat → Nat) (aL aU : Nat) (hI : Inj ad) (n : Nat) (S : St) (a1 : Int32) (a2 : Int32) (r : Unit) (S2 : St) (hf : f_X3_setNumber n S a1 a2 = some (r, S2)) : KV l D y ad aL aU yX3_setNumber wsX3_setNumber ({ frames := 2, cells := 0, slots := 0, locals := 41 }) [.ref (ad 16), .int a1, .int a2] S r S2 := by
  refine Met.ofW (cc := cX3_setNumber) (maxL := 3) (ret := none) (by decide) rfl ?_
  intro p e s m args below meth c s₁ B hml hv
  obtain ⟨rfl, hP, hK, hZ⟩ := hv
  have hx := B.exec
  have hb := B.bytes
  have hr := B.returns
  have hts := atoms_spec (ws := wsX3_setNumber) B.pre
  have hown : s.vm.findClass RX3 = some m.cls := findClass_of_methodNamed B.named
  have hlocks := B.notSynchronized
  have hS : va_S (AA ad) s.heap s.heap [] := va_S.rf
  have L21 := hts (.fieldLink RX3 21 "JoinedTheories$Literals" "numbers" "[I") (by decide +kernel)
  have n3 : ∀ w ∈ wsX30, w ∈ wsX3_setNumber := by decide +kernel
  have hl := lv_entry ([.ref (ad 16), .int a1, .int a2]) (n := 3) (Nat.le_of_ble_eq_true rfl)
  rw [lg_entry_eq]
  generalize (lg_sl ([.ref (ad 16), .int a1, .int a2]) ++ List.replicate (3 - (lg_sl ([.ref (ad 16), .int a1, .int a2])).length) Slot.unset).toArray = ls at hl ⊢
  have hl : lv_has ls 3 [(0, .ref (ad 16)), (1, .int a1), (2, .int a2)] := hl
  unfold f_X3_setNumber at hf
  refine lv_aload_n hx hb dX3_setNumber_0 rfl (lv_at hl 0 rfl) ?_
  refine lv_iload_n hx hb dX3_setNumber_1 rfl (lv_at hl 1 rfl) ?_
  obtain ⟨r_1, S_2, hc_3, hf⟩ := bo_inv hf
  refine w_ci (va_runV (As := [.int a1]) (rest := []) ⟨hx, hb, hml, hown, hts⟩ (c_X3_has l D y ad aL aU hI n S a1 _ _ hc_3) (cwV 1 hts gX3_setNumber_X3_has rfl rfl rfl (by decide +kernel) ⟨Nat.le_of_ble_eq_true rfl, Nat.le_of_ble_eq_true rfl⟩) (pwu_V t_16 rfl hP hK hZ hS) rfl rfl hl.1 rfl (lv_room (Nat.le_of_ble_eq_true rfl)) dX3_setNumber_2 ⟨Nat.zero_le _, Nat.zero_le _⟩) hS (fun H locs hP hS => ?_)
  refine lv_if_eq (tgt := 15) hx hb dX3_setNumber_5 (by decide) (fun b_4 => ?_) (fun b_4 => ?_)
  · have hf := if_t b_4 hf
    exact w_vret hx hb hr hlocks hP hS (rt_inv hf) dX3_setNumber_15
  · have hf := if_f b_4 hf
    refine lv_aload_n hx hb dX3_setNumber_8 rfl (lv_at hl 0 rfl) ?_
    refine w_gR (z := 20) (C := RX3) (T := TX3) hx hb hts n3 hown hK hP t_16 rfl 3 (by decide) L21 rfl rfl dX3_setNumber_9 ?_
    refine lv_iload_n hx hb dX3_setNumber_12 rfl (lv_at hl 1 rfl) ?_
    refine lv_iload_n hx hb dX3_setNumber_13 rfl (lv_at hl 2 rfl) ?_
    obtain ⟨g_5, hf⟩ := gd_inv hf
    obtain ⟨S_6, eS_6, hf⟩ := bd_inv hf
    refine w_iast hx hb hK hI hP hS t_20 g_5 dX3_setNumber_14 (fun H locs hP hS => ?_)
    rw [← eS_6] at hP
    exact w_vret hx hb hr hlocks hP hS (rt_inv hf) dX3_setNumber_15
set_option maxHeartbeats 4000000 in
set_option maxRecDepth 100000 in
theorem c_X4_first (l : Launch) (D : va_G) (y : y4) (ad : Nat → Nat) (aL aU : Nat) (hI : Inj ad) (n : Nat) (S : St) (r : Int32) (S2 : St) (hf : f_X4_first n S = some (r, S2)) : KI l D y ad aL aU yX4_first wsX4_first ({ frames := 1, cells := 0, slots := 0, locals := 20 }) [.ref (ad 26)] S r S2 := by
  refine Met.ofW (cc := cX4_first) (maxL := 1) (ret := (some .int)) (by decide) rfl ?_
  intro p e s m args below meth c s₁ B hml hv
  obtain ⟨rfl, hP, hK, hZ⟩ := hv
  have hx := B.exec
  have hb := B.bytes
  have hr := B.returns
  have hts := atoms_spec (ws := wsX4_first) B.pre
  have hown : s.vm.findClass RX4 = some m.cls := findClass_of_methodNamed B.named
  have hlocks := B.notSynchronized
  have hS : va_S (AA ad) s.heap s.heap [] := va_S.rf
  have L16 := hts (.fieldLink RX4 16 "JoinedTheories$PairFinder" "first" "I") (by decide +kernel)
  have n4 : ∀ w ∈ wsX40, w ∈ wsX4_first := by decide +kernel
  have hl := lv_entry ([.ref (ad 26)]) (n := 1) (Nat.le_of_ble_eq_true rfl)
  rw [lg_entry_eq]
  generalize (lg_sl ([.ref (ad 26)]) ++ List.replicate (1 - (lg_sl ([.ref (ad 26)])).length) Slot.unset).toArray = ls at hl ⊢
  have hl : lv_has ls 1 [(0, .ref (ad 26))] := hl
  unfold f_X4_first at hf
  refine lv_aload_n hx hb dX4_first_0 rfl (lv_at hl 0 rfl) ?_
  refine w_gI (C := RX4) (T := TX4) hx hb hts n4 hown hK hP t_26 rfl 2 (by decide) L16 rfl dX4_first_1 ?_
  exact w_iret hx hb hr hlocks hP hS (rt_inv hf) dX4_first_4
set_option maxHeartbeats 4000000 in
set_option maxRecDepth 100000 in
theorem c_X4_second (l : Launch) (D : va_G) (y : y4) (ad : Nat → Nat) (aL aU : Nat) (hI : Inj ad) (n : Nat) (S : St) (r : Int32) (S2 : St) (hf : f_X4_second n S = some (r, S2)) : KI l D y ad aL aU yX4_second wsX4_second ({ frames := 1, cells := 0, slots := 0, locals := 20 }) [.ref (ad 26)] S r S2 := by
  refine Met.ofW (cc := cX4_second) (maxL := 1) (ret := (some .int)) (by decide) rfl ?_
  intro p e s m args below meth c s₁ B hml hv
  obtain ⟨rfl, hP, hK, hZ⟩ := hv
  have hx := B.exec
  have hb := B.bytes
  have hr := B.returns
  have hts := atoms_spec (ws := wsX4_second) B.pre
  have hown : s.vm.findClass RX4 = some m.cls := findClass_of_methodNamed B.named
  have hlocks := B.notSynchronized
  have hS : va_S (AA ad) s.heap s.heap [] := va_S.rf
  have L20 := hts (.fieldLink RX4 20 "JoinedTheories$PairFinder" "second" "I") (by decide +kernel)
  have n4 : ∀ w ∈ wsX40, w ∈ wsX4_second := by decide +kernel
  have hl := lv_entry ([.ref (ad 26)]) (n := 1) (Nat.le_of_ble_eq_true rfl)
  rw [lg_entry_eq]
  generalize (lg_sl ([.ref (ad 26)]) ++ List.replicate (1 - (lg_sl ([.ref (ad 26)])).length) Slot.unset).toArray = ls at hl ⊢
  have hl : lv_has ls 1 [(0, .ref (ad 26))] := hl
  unfold f_X4_second at hf
  refine lv_aload_n hx hb dX4_second_0 rfl (lv_at hl 0 rfl) ?_
  refine w_gI (C := RX4) (T := TX4) hx hb hts n4 hown hK hP t_26 rfl 3 (by decide) L20 rfl dX4_second_1 ?_
  exact w_iret hx hb hr hlocks hP hS (rt_inv hf) dX4_second_4
set_option maxHeartbeats 4000000 in
set_option maxRecDepth 100000 in
theorem c_X6_aimAt (l : Launch) (D : va_G) (y : y4) (ad : Nat → Nat) (aL aU : Nat) (hI : Inj ad) (n : Nat) (S : St) (a1 : Int32) (a2 : Int32) (r : Unit) (S2 : St) (hf : f_X6_aimAt n S a1 a2 = some (r, S2)) : KV l D y ad aL aU yX6_aimAt wsX6_aimAt ({ frames := 1, cells := 0, slots := 0, locals := 20 }) [.ref (ad 23), .int a1, .int a2] S r S2 := by
  refine Met.ofW (cc := cX6_aimAt) (maxL := 3) (ret := none) (by decide) rfl ?_
  intro p e s m args below meth c s₁ B hml hv
  obtain ⟨rfl, hP, hK, hZ⟩ := hv
  have hx := B.exec
  have hb := B.bytes
  have hr := B.returns
  have hts := atoms_spec (ws := wsX6_aimAt) B.pre
  have hown : s.vm.findClass RX6 = some m.cls := findClass_of_methodNamed B.named
  have hlocks := B.notSynchronized
  have hS : va_S (AA ad) s.heap s.heap [] := va_S.rf
  have L109 := hts (.fieldLink RX6 109 "JoinedTheories$Solver" "goalLeft" "I") (by decide +kernel)
  have L112 := hts (.fieldLink RX6 112 "JoinedTheories$Solver" "goalRight" "I") (by decide +kernel)
  have n6 : ∀ w ∈ wsX60, w ∈ wsX6_aimAt := by decide +kernel
  have hl := lv_entry ([.ref (ad 23), .int a1, .int a2]) (n := 3) (Nat.le_of_ble_eq_true rfl)
  rw [lg_entry_eq]
  generalize (lg_sl ([.ref (ad 23), .int a1, .int a2]) ++ List.replicate (3 - (lg_sl ([.ref (ad 23), .int a1, .int a2])).length) Slot.unset).toArray = ls at hl ⊢
  have hl : lv_has ls 3 [(0, .ref (ad 23)), (1, .int a1), (2, .int a2)] := hl
  unfold f_X6_aimAt at hf
  refine lv_aload_n hx hb dX6_aimAt_0 rfl (lv_at hl 0 rfl) ?_
  refine lv_iload_n hx hb dX6_aimAt_1 rfl (lv_at hl 1 rfl) ?_
  obtain ⟨S_1, eS_1, hf⟩ := bd_inv hf
  refine w_pI (ty := .int) (C := RX6) (T := TX6) hx hb hts n6 tyX6 tyX6_ok nmX6 hown hK hI hP hS t_23 rfl 8 (by decide) L109 rfl rfl rfl ⟨rfl, rfl⟩ dX6_aimAt_2 (fun H locs hP hS => ?_)
  rw [← eS_1] at hP
  refine lv_aload_n hx hb dX6_aimAt_5 rfl (lv_at hl 0 rfl) ?_
  refine lv_iload_n hx hb dX6_aimAt_6 rfl (lv_at hl 2 rfl) ?_
  obtain ⟨S_2, eS_2, hf⟩ := bd_inv hf
  refine w_pI (ty := .int) (C := RX6) (T := TX6) hx hb hts n6 tyX6 tyX6_ok nmX6 hown hK hI hP hS t_23 rfl 9 (by decide) L112 rfl rfl rfl ⟨rfl, rfl⟩ dX6_aimAt_7 (fun H locs hP hS => ?_)
  rw [← eS_2] at hP
  exact w_vret hx hb hr hlocks hP hS (rt_inv hf) dX6_aimAt_10
set_option maxHeartbeats 4000000 in
set_option maxRecDepth 100000 in
theorem c_X6_demandEqual (l : Launch) (D : va_G) (y : y4) (ad : Nat → Nat) (aL aU : Nat) (hI : Inj ad) (n : Nat) (S : St) (a1 : Int32) (a2 : Int32) (r : Unit) (S2 : St) (hf : f_X6_demandEqual n S a1 a2 = some (r, S2)) : KV l D y ad aL aU yX6_demandEqual wsX6_demandEqual ({ frames := 3, cells := 0, slots := 0, locals := 74 }) [.ref (ad 23), .int a1, .int a2] S r S2 := by
  refine Met.ofW (cc := cX6_demandEqual) (maxL := 3) (ret := none) (by decide) rfl ?_
  intro p e s m args below meth c s₁ B hml hv
  obtain ⟨rfl, hP, hK, hZ⟩ := hv
  have hx := B.exec
  have hb := B.bytes
  have hr := B.returns
  have hts := atoms_spec (ws := wsX6_demandEqual) B.pre
  have hown : s.vm.findClass RX6 = some m.cls := findClass_of_methodNamed B.named
  have hlocks := B.notSynchronized
  have hS : va_S (AA ad) s.heap s.heap [] := va_S.rf
  have L19 := hts (.fieldLink RX6 19 "JoinedTheories$Solver" "levels" "[LJoinedTheories$Distances;") (by decide +kernel)
  have L41 := hts (.fieldLink RX6 41 "JoinedTheories$Solver" "contradictory" "Z") (by decide +kernel)
  have n6 : ∀ w ∈ wsX60, w ∈ wsX6_demandEqual := by decide +kernel
  have hl := lv_entry ([.ref (ad 23), .int a1, .int a2]) (n := 3) (Nat.le_of_ble_eq_true rfl)
  rw [lg_entry_eq]
  generalize (lg_sl ([.ref (ad 23), .int a1, .int a2]) ++ List.replicate (3 - (lg_sl ([.ref (ad 23), .int a1, .int a2])).length) Slot.unset).toArray = ls at hl ⊢
  have hl : lv_has ls 3 [(0, .ref (ad 23)), (1, .int a1), (2, .int a2)] := hl
  unfold f_X6_demandEqual at hf
  refine lv_aload_n hx hb dX6_demandEqual_0 rfl (lv_at hl 0 rfl) ?_
  refine w_gR (z := 25) (C := RX6) (T := TX6) hx hb hts n6 hown hK hP t_23 rfl 4 (by decide) L19 rfl rfl dX6_demandEqual_1 ?_
  refine lv_iconst (v := 0) hx hb dX6_demandEqual_4 (by decide) ?_
  obtain ⟨g_1, hf⟩ := gd_inv hf
  refine w_aldD hx hb hK hP t_25 g_1 dX6_demandEqual_5 ?_
  refine lv_iload_n hx hb dX6_demandEqual_6 rfl (lv_at hl 1 rfl) ?_
  refine lv_iload_n hx hb dX6_demandEqual_7 rfl (lv_at hl 2 rfl) ?_
  obtain ⟨r_2, S_3, hc_4, hf⟩ := bo_inv hf
  refine w_ci (va_runV (As := [.int a1, .int a2]) (rest := []) ⟨hx, hb, hml, hown, hts⟩ (c_X1_equate l D y ad aL aU hI n ((72 + ((0 : Int32)).toNatClampNeg)) (isD_of g_1) S a1 a2 _ _ hc_4) (cwV 2 hts gX6_demandEqual_X1_equate rfl rfl rfl (by decide +kernel) ⟨Nat.le_of_ble_eq_true rfl, Nat.le_of_ble_eq_true rfl⟩) (pwu_V (tD (isD_of g_1)) rfl hP hK hZ hS) rfl rfl hl.1 rfl (lv_room (Nat.le_of_ble_eq_true rfl)) dX6_demandEqual_8 ⟨Nat.zero_le _, Nat.zero_le _⟩) hS (fun H locs hP hS => ?_)
  refine lv_if_ne (tgt := 19) hx hb dX6_demandEqual_11 (by decide) (fun b_5 => ?_) (fun b_5 => ?_)
  · have hf := if_f b_5 hf
    exact w_vret hx hb hr hlocks hP hS (rt_inv hf) dX6_demandEqual_19
  · have hf := if_t b_5 hf
    refine lv_aload_n hx hb dX6_demandEqual_14 rfl (lv_at hl 0 rfl) ?_
    refine lv_iconst (v := 1) hx hb dX6_demandEqual_15 (by decide) ?_
    obtain ⟨S_6, eS_6, hf⟩ := bd_inv hf
    refine w_pI (ty := .boolean) (C := RX6) (T := TX6) hx hb hts n6 tyX6 tyX6_ok nmX6 hown hK hI hP hS t_23 rfl 6 (by decide) L41 rfl rfl rfl ⟨rfl, rfl⟩ dX6_demandEqual_16 (fun H locs hP hS => ?_)
    rw [← eS_6] at hP
    exact w_vret hx hb hr hlocks hP hS (rt_inv hf) dX6_demandEqual_19
set_option maxHeartbeats 4000000 in
set_option maxRecDepth 100000 in
theorem c_X6_demandDifferent (l : Launch) (D : va_G) (y : y4) (ad : Nat → Nat) (aL aU : Nat) (hI : Inj ad) (n : Nat) (S : St) (a1 : Int32) (a2 : Int32) (r : Unit) (S2 : St) (hf : f_X6_demandDifferent n S a1 a2 = some (r, S2)) : KV l D y ad aL aU yX6_demandDifferent wsX6_demandDifferent ({ frames := 3, cells := 0, slots := 0, locals := 62 }) [.ref (ad 23), .int a1, .int a2] S r S2 := by
  refine Met.ofW (cc := cX6_demandDifferent) (maxL := 3) (ret := none) (by decide) rfl ?_
  intro p e s m args below meth c s₁ B hml hv
  obtain ⟨rfl, hP, hK, hZ⟩ := hv
  have hx := B.exec
  have hb := B.bytes
  have hr := B.returns
  have hts := atoms_spec (ws := wsX6_demandDifferent) B.pre
  have hown : s.vm.findClass RX6 = some m.cls := findClass_of_methodNamed B.named
  have hlocks := B.notSynchronized
  have hS : va_S (AA ad) s.heap s.heap [] := va_S.rf
  have L13 := hts (.fieldLink RX6 13 "JoinedTheories$Solver" "clauses" "[LJoinedTheories$Clause;") (by decide +kernel)
  have L37 := hts (.fieldLink RX6 37 "JoinedTheories$Solver" "clauseCount" "I") (by decide +kernel)
  have n6 : ∀ w ∈ wsX60, w ∈ wsX6_demandDifferent := by decide +kernel
  have hl := lv_entry ([.ref (ad 23), .int a1, .int a2]) (n := 3) (Nat.le_of_ble_eq_true rfl)
  rw [lg_entry_eq]
  generalize (lg_sl ([.ref (ad 23), .int a1, .int a2]) ++ List.replicate (3 - (lg_sl ([.ref (ad 23), .int a1, .int a2])).length) Slot.unset).toArray = ls at hl ⊢
  have hl : lv_has ls 3 [(0, .ref (ad 23)), (1, .int a1), (2, .int a2)] := hl
  unfold f_X6_demandDifferent at hf
  refine lv_aload_n hx hb dX6_demandDifferent_0 rfl (lv_at hl 0 rfl) ?_
  refine w_gI (C := RX6) (T := TX6) hx hb hts n6 hown hK hP t_23 rfl 3 (by decide) L37 rfl dX6_demandDifferent_1 ?_
  refine lv_if_lt (tgt := 40) hx hb dX6_demandDifferent_4 (by decide) (fun b_1 => ?_) (fun b_1 => ?_)
  · have hf := if_t b_1 hf
    exact w_vret hx hb hr hlocks hP hS (rt_inv hf) dX6_demandDifferent_40
  · have hf := if_f b_1 hf
    refine lv_aload_n hx hb dX6_demandDifferent_7 rfl (lv_at hl 0 rfl) ?_
    refine w_gI (C := RX6) (T := TX6) hx hb hts n6 hown hK hP t_23 rfl 3 (by decide) L37 rfl dX6_demandDifferent_8 ?_
    refine lv_bipush (v := (22)) hx hb dX6_demandDifferent_11 (by decide) ?_
    refine lv_icmp_ge (tgt := 40) hx hb dX6_demandDifferent_13 (by decide) (fun b_2 => ?_) (fun b_2 => ?_)
    · have hf := if_t b_2 hf
      exact w_vret hx hb hr hlocks hP hS (rt_inv hf) dX6_demandDifferent_40
    · have hf := if_f b_2 hf
      refine lv_aload_n hx hb dX6_demandDifferent_16 rfl (lv_at hl 0 rfl) ?_
      refine w_gR (z := 24) (C := RX6) (T := TX6) hx hb hts n6 hown hK hP t_23 rfl 2 (by decide) L13 rfl rfl dX6_demandDifferent_17 ?_
      refine lv_aload_n hx hb dX6_demandDifferent_20 rfl (lv_at hl 0 rfl) ?_
      refine w_gI (C := RX6) (T := TX6) hx hb hts n6 hown hK hP t_23 rfl 3 (by decide) L37 rfl dX6_demandDifferent_21 ?_
      obtain ⟨g_3, hf⟩ := gd_inv hf
      refine w_aldC hx hb hK hP t_24 g_3 dX6_demandDifferent_24 ?_
      refine lv_iload_n hx hb dX6_demandDifferent_25 rfl (lv_at hl 1 rfl) ?_
      refine lv_iload_n hx hb dX6_demandDifferent_26 rfl (lv_at hl 2 rfl) ?_
      obtain ⟨r_4, S_5, hc_6, hf⟩ := bo_inv hf
      refine w_cv (va_runV (As := [.int a1, .int a2]) (rest := []) ⟨hx, hb, hml, hown, hts⟩ (c_X0_setInequality l D y ad aL aU hI n ((50 + ((S.1 23 3)).toNatClampNeg)) (isC_of g_3) S a1 a2 _ _ hc_6) (cwV 2 hts gX6_demandDifferent_X0_setInequality rfl rfl rfl (by decide +kernel) ⟨Nat.le_of_ble_eq_true rfl, Nat.le_of_ble_eq_true rfl⟩) (pwu_V (tC (isC_of g_3)) rfl hP hK hZ hS) rfl rfl hl.1 rfl (lv_room (Nat.le_of_ble_eq_true rfl)) dX6_demandDifferent_27 ⟨Nat.zero_le _, Nat.zero_le _⟩) hS (fun H locs hP hS => ?_)
      refine lv_aload_n hx hb dX6_demandDifferent_30 rfl (lv_at hl 0 rfl) ?_
      refine lv_dup hx hb dX6_demandDifferent_31 rfl ?_
      refine w_gI (C := RX6) (T := TX6) hx hb hts n6 hown hK hP t_23 rfl 3 (by decide) L37 rfl dX6_demandDifferent_32 ?_
      refine lv_iconst (v := 1) hx hb dX6_demandDifferent_35 (by decide) ?_
      refine lv_iadd hx hb dX6_demandDifferent_36 ?_
      obtain ⟨S_7, eS_7, hf⟩ := bd_inv hf
      refine w_pI (ty := .int) (C := RX6) (T := TX6) hx hb hts n6 tyX6 tyX6_ok nmX6 hown hK hI hP hS t_23 rfl 3 (by decide) L37 rfl rfl rfl ⟨rfl, rfl⟩ dX6_demandDifferent_37 (fun H locs hP hS => ?_)
      rw [← eS_7] at hP
      exact w_vret hx hb hr hlocks hP hS (rt_inv hf) dX6_demandDifferent_40
set_option maxHeartbeats 4000000 in
set_option maxRecDepth 100000 in
theorem c_X6_demandAtMost (l : Launch) (D : va_G) (y : y4) (ad : Nat → Nat) (aL aU : Nat) (hI : Inj ad) (n : Nat) (S : St) (a1 : Int32) (a2 : Int32) (a3 : Int32) (r : Unit) (S2 : St) (hf : f_X6_demandAtMost n S a1 a2 a3 = some (r, S2)) : KV l D y ad aL aU yX6_demandAtMost wsX6_demandAtMost ({ frames := 2, cells := 0, slots := 0, locals := 52 }) [.ref (ad 23), .int a1, .int a2, .int a3] S r S2 := by
  refine Met.ofW (cc := cX6_demandAtMost) (maxL := 4) (ret := none) (by decide) rfl ?_
  intro p e s m args below meth c s₁ B hml hv
  obtain ⟨rfl, hP, hK, hZ⟩ := hv
  have hx := B.exec
  have hb := B.bytes
  have hr := B.returns
  have hts := atoms_spec (ws := wsX6_demandAtMost) B.pre
  have hown : s.vm.findClass RX6 = some m.cls := findClass_of_methodNamed B.named
  have hlocks := B.notSynchronized
  have hS : va_S (AA ad) s.heap s.heap [] := va_S.rf
  have L19 := hts (.fieldLink RX6 19 "JoinedTheories$Solver" "levels" "[LJoinedTheories$Distances;") (by decide +kernel)
  have L41 := hts (.fieldLink RX6 41 "JoinedTheories$Solver" "contradictory" "Z") (by decide +kernel)
  have n6 : ∀ w ∈ wsX60, w ∈ wsX6_demandAtMost := by decide +kernel
  have hl := lv_entry ([.ref (ad 23), .int a1, .int a2, .int a3]) (n := 4) (Nat.le_of_ble_eq_true rfl)
  rw [lg_entry_eq]
  generalize (lg_sl ([.ref (ad 23), .int a1, .int a2, .int a3]) ++ List.replicate (4 - (lg_sl ([.ref (ad 23), .int a1, .int a2, .int a3])).length) Slot.unset).toArray = ls at hl ⊢
  have hl : lv_has ls 4 [(0, .ref (ad 23)), (1, .int a1), (2, .int a2), (3, .int a3)] := hl
  unfold f_X6_demandAtMost at hf
  refine lv_aload_n hx hb dX6_demandAtMost_0 rfl (lv_at hl 0 rfl) ?_
  refine w_gR (z := 25) (C := RX6) (T := TX6) hx hb hts n6 hown hK hP t_23 rfl 4 (by decide) L19 rfl rfl dX6_demandAtMost_1 ?_
  refine lv_iconst (v := 0) hx hb dX6_demandAtMost_4 (by decide) ?_
  obtain ⟨g_1, hf⟩ := gd_inv hf
  refine w_aldD hx hb hK hP t_25 g_1 dX6_demandAtMost_5 ?_
  refine lv_iload_n hx hb dX6_demandAtMost_6 rfl (lv_at hl 1 rfl) ?_
  refine lv_iload_n hx hb dX6_demandAtMost_7 rfl (lv_at hl 2 rfl) ?_
  refine lv_iload_n hx hb dX6_demandAtMost_8 rfl (lv_at hl 3 rfl) ?_
  refine lv_i2l hx hb dX6_demandAtMost_9 rfl ?_
  obtain ⟨r_2, S_3, hc_4, hf⟩ := bo_inv hf
  refine w_ci (va_runV (As := [.int a1, .int a2, .long (a3).toInt64]) (rest := []) ⟨hx, hb, hml, hown, hts⟩ (c_X1_bound l D y ad aL aU hI n ((72 + ((0 : Int32)).toNatClampNeg)) (isD_of g_1) S a1 a2 (a3).toInt64 _ _ hc_4) (cwV 3 hts gX6_demandAtMost_X1_bound rfl rfl rfl (by decide +kernel) ⟨Nat.le_of_ble_eq_true rfl, Nat.le_of_ble_eq_true rfl⟩) (pwu_V (tD (isD_of g_1)) rfl hP hK hZ hS) rfl rfl hl.1 rfl (lv_room (Nat.le_of_ble_eq_true rfl)) dX6_demandAtMost_10 ⟨Nat.zero_le _, Nat.zero_le _⟩) hS (fun H locs hP hS => ?_)
  refine lv_if_ne (tgt := 21) hx hb dX6_demandAtMost_13 (by decide) (fun b_5 => ?_) (fun b_5 => ?_)
  · have hf := if_f b_5 hf
    exact w_vret hx hb hr hlocks hP hS (rt_inv hf) dX6_demandAtMost_21
  · have hf := if_t b_5 hf
    refine lv_aload_n hx hb dX6_demandAtMost_16 rfl (lv_at hl 0 rfl) ?_
    refine lv_iconst (v := 1) hx hb dX6_demandAtMost_17 (by decide) ?_
    obtain ⟨S_6, eS_6, hf⟩ := bd_inv hf
    refine w_pI (ty := .boolean) (C := RX6) (T := TX6) hx hb hts n6 tyX6 tyX6_ok nmX6 hown hK hI hP hS t_23 rfl 6 (by decide) L41 rfl rfl rfl ⟨rfl, rfl⟩ dX6_demandAtMost_18 (fun H locs hP hS => ?_)
    rw [← eS_6] at hP
    exact w_vret hx hb hr hlocks hP hS (rt_inv hf) dX6_demandAtMost_21
set_option maxHeartbeats 4000000 in
set_option maxRecDepth 100000 in
theorem c_X6_demandLiteral (l : Launch) (D : va_G) (y : y4) (ad : Nat → Nat) (aL aU : Nat) (hI : Inj ad) (n : Nat) (S : St) (a1 : Int32) (r : Unit) (S2 : St) (hf : f_X6_demandLiteral n S a1 = some (r, S2)) : KV l D y ad aL aU yX6_demandLiteral wsX6_demandLiteral ({ frames := 4, cells := 0, slots := 0, locals := 96 }) [.ref (ad 23), .int a1] S r S2 := by
  refine Met.ofW (cc := cX6_demandLiteral) (maxL := 4) (ret := none) (by decide) rfl ?_
  intro p e s m args below meth c s₁ B hml hv
  obtain ⟨rfl, hP, hK, hZ⟩ := hv
  have hx := B.exec
  have hb := B.bytes
  have hr := B.returns
  have hts := atoms_spec (ws := wsX6_demandLiteral) B.pre
  have hown : s.vm.findClass RX6 = some m.cls := findClass_of_methodNamed B.named
  have hlocks := B.notSynchronized
  have hS : va_S (AA ad) s.heap s.heap [] := va_S.rf
  have L32 := hts (.fieldLink RX6 32 "JoinedTheories$Solver" "literals" "LJoinedTheories$Literals;") (by decide +kernel)
  have n6 : ∀ w ∈ wsX60, w ∈ wsX6_demandLiteral := by decide +kernel
  have hl := lv_entry ([.ref (ad 23), .int a1]) (n := 4) (Nat.le_of_ble_eq_true rfl)
  rw [lg_entry_eq]
  generalize (lg_sl ([.ref (ad 23), .int a1]) ++ List.replicate (4 - (lg_sl ([.ref (ad 23), .int a1])).length) Slot.unset).toArray = ls at hl ⊢
  have hl : lv_has ls 4 [(0, .ref (ad 23)), (1, .int a1)] := hl
  unfold f_X6_demandLiteral at hf
  refine lv_aload_n hx hb dX6_demandLiteral_0 rfl (lv_at hl 0 rfl) ?_
  refine w_gR (z := 16) (C := RX6) (T := TX6) hx hb hts n6 hown hK hP t_23 rfl 1 (by decide) L32 rfl rfl dX6_demandLiteral_1 ?_
  refine lv_iload_n hx hb dX6_demandLiteral_4 rfl (lv_at hl 1 rfl) ?_
  obtain ⟨r_1, S_2, hc_3, hf⟩ := bo_inv hf
  refine w_ci (va_runV (As := [.int a1]) (rest := []) ⟨hx, hb, hml, hown, hts⟩ (c_X3_leftOf l D y ad aL aU hI n S a1 _ _ hc_3) (cwV 1 hts gX6_demandLiteral_X3_leftOf rfl rfl rfl (by decide +kernel) ⟨Nat.le_of_ble_eq_true rfl, Nat.le_of_ble_eq_true rfl⟩) (pwu_V t_16 rfl hP hK hZ hS) rfl rfl hl.1 rfl (lv_room (Nat.le_of_ble_eq_true rfl)) dX6_demandLiteral_5 ⟨Nat.zero_le _, Nat.zero_le _⟩) hS (fun H locs hP hS => ?_)
  obtain ⟨x2_4, ex2_4, hf⟩ := bd_inv hf
  refine w_topI ex2_4 ?_
  refine lv_istore_n (lv' := [(2, .int x2_4), (0, .ref (ad 23)), (1, .int a1)]) hx hb dX6_demandLiteral_8 rfl hl (by decide) rfl (fun ls hl => ?_)
  refine lv_aload_n hx hb dX6_demandLiteral_9 rfl (lv_at hl 1 rfl) ?_
  refine w_gR (z := 16) (C := RX6) (T := TX6) hx hb hts n6 hown hK hP t_23 rfl 1 (by decide) L32 rfl rfl dX6_demandLiteral_10 ?_
  refine lv_iload_n hx hb dX6_demandLiteral_13 rfl (lv_at hl 2 rfl) ?_
  obtain ⟨r_5, S_6, hc_7, hf⟩ := bo_inv hf
  refine w_ci (va_runV (As := [.int a1]) (rest := []) ⟨hx, hb, hml, hown, hts⟩ (c_X3_rightOf l D y ad aL aU hI n S_2 a1 _ _ hc_7) (cwV 1 hts gX6_demandLiteral_X3_rightOf rfl rfl rfl (by decide +kernel) ⟨Nat.le_of_ble_eq_true rfl, Nat.le_of_ble_eq_true rfl⟩) (pwu_V t_16 rfl hP hK hZ hS) rfl rfl hl.1 rfl (lv_room (Nat.le_of_ble_eq_true rfl)) dX6_demandLiteral_14 ⟨Nat.zero_le _, Nat.zero_le _⟩) hS (fun H locs hP hS => ?_)
  obtain ⟨x3_8, ex3_8, hf⟩ := bd_inv hf
  refine w_topI ex3_8 ?_
  refine lv_istore_n (lv' := [(3, .int x3_8), (2, .int x2_4), (0, .ref (ad 23)), (1, .int a1)]) hx hb dX6_demandLiteral_17 rfl hl (by decide) rfl (fun ls hl => ?_)
  refine lv_aload_n hx hb dX6_demandLiteral_18 rfl (lv_at hl 2 rfl) ?_
  refine w_gR (z := 16) (C := RX6) (T := TX6) hx hb hts n6 hown hK hP t_23 rfl 1 (by decide) L32 rfl rfl dX6_demandLiteral_19 ?_
  refine lv_iload_n hx hb dX6_demandLiteral_22 rfl (lv_at hl 3 rfl) ?_
  obtain ⟨r_9, S_10, hc_11, hf⟩ := bo_inv hf
  refine w_ci (va_runV (As := [.int a1]) (rest := []) ⟨hx, hb, hml, hown, hts⟩ (c_X3_kindOf l D y ad aL aU hI n S_6 a1 _ _ hc_11) (cwV 1 hts gX6_demandLiteral_X3_kindOf rfl rfl rfl (by decide +kernel) ⟨Nat.le_of_ble_eq_true rfl, Nat.le_of_ble_eq_true rfl⟩) (pwu_V t_16 rfl hP hK hZ hS) rfl rfl hl.1 rfl (lv_room (Nat.le_of_ble_eq_true rfl)) dX6_demandLiteral_23 ⟨Nat.zero_le _, Nat.zero_le _⟩) hS (fun H locs hP hS => ?_)
  refine lv_if_ne (tgt := 38) hx hb dX6_demandLiteral_26 (by decide) (fun b_12 => ?_) (fun b_12 => ?_)
  · have hf := if_f b_12 hf
    refine lv_aload_n hx hb dX6_demandLiteral_38 rfl (lv_at hl 2 rfl) ?_
    refine w_gR (z := 16) (C := RX6) (T := TX6) hx hb hts n6 hown hK hP t_23 rfl 1 (by decide) L32 rfl rfl dX6_demandLiteral_39 ?_
    refine lv_iload_n hx hb dX6_demandLiteral_42 rfl (lv_at hl 3 rfl) ?_
    obtain ⟨r_13, S_14, hc_15, hf⟩ := bo_inv hf
    refine w_ci (va_runV (As := [.int a1]) (rest := []) ⟨hx, hb, hml, hown, hts⟩ (c_X3_kindOf l D y ad aL aU hI n S_10 a1 _ _ hc_15) (cwV 1 hts gX6_demandLiteral_X3_kindOf rfl rfl rfl (by decide +kernel) ⟨Nat.le_of_ble_eq_true rfl, Nat.le_of_ble_eq_true rfl⟩) (pwu_V t_16 rfl hP hK hZ hS) rfl rfl hl.1 rfl (lv_room (Nat.le_of_ble_eq_true rfl)) dX6_demandLiteral_43 ⟨Nat.zero_le _, Nat.zero_le _⟩) hS (fun H locs hP hS => ?_)
    refine lv_iconst (v := 1) hx hb dX6_demandLiteral_46 (by decide) ?_
    refine lv_icmp_ne (tgt := 59) hx hb dX6_demandLiteral_47 (by decide) (fun b_16 => ?_) (fun b_16 => ?_)
    · have hf := if_f b_16 hf
      refine lv_aload_n hx hb dX6_demandLiteral_59 rfl (lv_at hl 2 rfl) ?_
      refine lv_iload_n hx hb dX6_demandLiteral_60 rfl (lv_at hl 1 rfl) ?_
      refine lv_iload_n hx hb dX6_demandLiteral_61 rfl (lv_at hl 0 rfl) ?_
      refine lv_aload_n hx hb dX6_demandLiteral_62 rfl (lv_at hl 2 rfl) ?_
      refine w_gR (z := 16) (C := RX6) (T := TX6) hx hb hts n6 hown hK hP t_23 rfl 1 (by decide) L32 rfl rfl dX6_demandLiteral_63 ?_
      refine lv_iload_n hx hb dX6_demandLiteral_66 rfl (lv_at hl 3 rfl) ?_
      obtain ⟨r_17, S_18, hc_19, hf⟩ := bo_inv hf
      refine w_ci (va_runV (As := [.int a1]) (rest := [.int x3_8, .int x2_4, .ref (ad 23)]) ⟨hx, hb, hml, hown, hts⟩ (c_X3_numberOf l D y ad aL aU hI n S_14 a1 _ _ hc_19) (cwV 1 hts gX6_demandLiteral_X3_numberOf rfl rfl rfl (by decide +kernel) ⟨Nat.le_of_ble_eq_true rfl, Nat.le_of_ble_eq_true rfl⟩) (pwu_V t_16 rfl hP hK hZ hS) rfl rfl hl.1 rfl (lv_room (Nat.le_of_ble_eq_true rfl)) dX6_demandLiteral_67 ⟨Nat.zero_le _, Nat.zero_le _⟩) hS (fun H locs hP hS => ?_)
      obtain ⟨r_20, S_21, hc_22, hf⟩ := bo_inv hf
      refine w_cv (va_runV (As := [.int x2_4, .int x3_8, .int r_17]) (rest := []) ⟨hx, hb, hml, hown, hts⟩ (c_X6_demandAtMost l D y ad aL aU hI n S_18 x2_4 x3_8 r_17 _ _ hc_22) (cwV 3 hts gX6_demandLiteral_X6_demandAtMost rfl rfl rfl (by decide +kernel) ⟨Nat.le_of_ble_eq_true rfl, Nat.le_of_ble_eq_true rfl⟩) (pwu_V t_23 rfl hP hK hZ hS) rfl rfl hl.1 rfl (lv_room (Nat.le_of_ble_eq_true rfl)) dX6_demandLiteral_70 ⟨Nat.zero_le _, Nat.zero_le _⟩) hS (fun H locs hP hS => ?_)
      exact w_vret hx hb hr hlocks hP hS (rt_inv hf) dX6_demandLiteral_73
    · have hf := if_t b_16 hf
      refine lv_aload_n hx hb dX6_demandLiteral_50 rfl (lv_at hl 2 rfl) ?_
      refine lv_iload_n hx hb dX6_demandLiteral_51 rfl (lv_at hl 1 rfl) ?_
      refine lv_iload_n hx hb dX6_demandLiteral_52 rfl (lv_at hl 0 rfl) ?_
      obtain ⟨r_23, S_24, hc_25, hf⟩ := bo_inv hf
      refine w_cv (va_runV (As := [.int x2_4, .int x3_8]) (rest := []) ⟨hx, hb, hml, hown, hts⟩ (c_X6_demandDifferent l D y ad aL aU hI n S_14 x2_4 x3_8 _ _ hc_25) (cwV 2 hts gX6_demandLiteral_X6_demandDifferent rfl rfl rfl (by decide +kernel) ⟨Nat.le_of_ble_eq_true rfl, Nat.le_of_ble_eq_true rfl⟩) (pwu_V t_23 rfl hP hK hZ hS) rfl rfl hl.1 rfl (lv_room (Nat.le_of_ble_eq_true rfl)) dX6_demandLiteral_53 ⟨Nat.zero_le _, Nat.zero_le _⟩) hS (fun H locs hP hS => ?_)
      refine lv_goto (tgt := 73) hx hb dX6_demandLiteral_56 (by decide) ?_
      exact w_vret hx hb hr hlocks hP hS (rt_inv hf) dX6_demandLiteral_73
  · have hf := if_t b_12 hf
    refine lv_aload_n hx hb dX6_demandLiteral_29 rfl (lv_at hl 2 rfl) ?_
    refine lv_iload_n hx hb dX6_demandLiteral_30 rfl (lv_at hl 1 rfl) ?_
    refine lv_iload_n hx hb dX6_demandLiteral_31 rfl (lv_at hl 0 rfl) ?_
    obtain ⟨r_26, S_27, hc_28, hf⟩ := bo_inv hf
    refine w_cv (va_runV (As := [.int x2_4, .int x3_8]) (rest := []) ⟨hx, hb, hml, hown, hts⟩ (c_X6_demandEqual l D y ad aL aU hI n S_10 x2_4 x3_8 _ _ hc_28) (cwV 2 hts gX6_demandLiteral_X6_demandEqual rfl rfl rfl (by decide +kernel) ⟨Nat.le_of_ble_eq_true rfl, Nat.le_of_ble_eq_true rfl⟩) (pwu_V t_23 rfl hP hK hZ hS) rfl rfl hl.1 rfl (lv_room (Nat.le_of_ble_eq_true rfl)) dX6_demandLiteral_32 ⟨Nat.zero_le _, Nat.zero_le _⟩) hS (fun H locs hP hS => ?_)
    refine lv_goto (tgt := 73) hx hb dX6_demandLiteral_35 (by decide) ?_
    exact w_vret hx hb hr hlocks hP hS (rt_inv hf) dX6_demandLiteral_73
set_option maxHeartbeats 4000000 in
set_option maxRecDepth 100000 in
theorem c_X6_load (l : Launch) (D : va_G) (y : y4) (ad : Nat → Nat) (aL aU : Nat) (hI : Inj ad) (n : Nat) (S : St) (a1 : Int32) (r : Unit) (S2 : St) (hf : f_X6_load n S a1 = some (r, S2)) : KV l D y ad aL aU yX6_load wsX6_load ({ frames := 5, cells := 0, slots := 0, locals := 119 }) [.ref (ad 23), .int a1] S r S2 := by
  refine Met.ofW (cc := cX6_load) (maxL := 4) (ret := none) (by decide) rfl ?_
  intro p e s m args below meth c s₁ B hml hv
  obtain ⟨rfl, hP, hK, hZ⟩ := hv
  have hx := B.exec
  have hb := B.bytes
  have hr := B.returns
  have hts := atoms_spec (ws := wsX6_load) B.pre
  have hown : s.vm.findClass RX6 = some m.cls := findClass_of_methodNamed B.named
  have hlocks := B.notSynchronized
  have hS : va_S (AA ad) s.heap s.heap [] := va_S.rf
  have L13 := hts (.fieldLink RX6 13 "JoinedTheories$Solver" "clauses" "[LJoinedTheories$Clause;") (by decide +kernel)
  have L19 := hts (.fieldLink RX6 19 "JoinedTheories$Solver" "levels" "[LJoinedTheories$Distances;") (by decide +kernel)
  have L28 := hts (.fieldLink RX6 28 "JoinedTheories$Solver" "terms" "LJoinedTheories$Terms;") (by decide +kernel)
  have L32 := hts (.fieldLink RX6 32 "JoinedTheories$Solver" "literals" "LJoinedTheories$Literals;") (by decide +kernel)
  have L37 := hts (.fieldLink RX6 37 "JoinedTheories$Solver" "clauseCount" "I") (by decide +kernel)
  have L41 := hts (.fieldLink RX6 41 "JoinedTheories$Solver" "contradictory" "Z") (by decide +kernel)
  have L45 := hts (.fieldLink RX6 45 "JoinedTheories$Solver" "found" "Z") (by decide +kernel)
  have n6 : ∀ w ∈ wsX60, w ∈ wsX6_load := by decide +kernel
  have hl := lv_entry ([.ref (ad 23), .int a1]) (n := 4) (Nat.le_of_ble_eq_true rfl)
  rw [lg_entry_eq]
  generalize (lg_sl ([.ref (ad 23), .int a1]) ++ List.replicate (4 - (lg_sl ([.ref (ad 23), .int a1])).length) Slot.unset).toArray = ls at hl ⊢
  have hl : lv_has ls 4 [(0, .ref (ad 23)), (1, .int a1)] := hl
  have j140 : ∀ (x2 : Int32) (k65 : St → Int32 → Option (Unit × St)) (hk65 : ∀ (S : St) (x2 : Int32) (H : Heap) (locs : List Loc) (ls : Array Slot), k65 S x2 = some (r, S2) → PW D y ad S H → va_S (AA ad) s.heap H locs → lv_has ls 4 [(0, .ref (ad 23)), (2, .int x2)] → W p l e (headSpec wsX6_load ({ frames := 5, cells := 0, slots := 0, locals := 119 })).room s m ([.ref (ad 23), .int a1] : List Value).toArray below meth c H locs 0 0 (QV below r S2 D y ad ([.ref (ad 23), .int a1] : List Value).toArray s) (F0 m 65 ls [])) (k80 : St → Int32 → Option (Unit × St)) (hk80 : ∀ (S : St) (x3 : Int32) (H : Heap) (locs : List Loc) (ls : Array Slot), k80 S x3 = some (r, S2) → PW D y ad S H → va_S (AA ad) s.heap H locs → lv_has ls 4 [(0, .ref (ad 23)), (2, .int x2), (3, .int x3)] → W p l e (headSpec wsX6_load ({ frames := 5, cells := 0, slots := 0, locals := 119 })).room s m ([.ref (ad 23), .int a1] : List Value).toArray below meth c H locs 0 0 (QV below r S2 D y ad ([.ref (ad 23), .int a1] : List Value).toArray s) (F0 m 80 ls [])), ∀ (S : St) (x3 : Int32) (H : Heap) (locs : List Loc) (ls : Array Slot), f_X6_load_140 n x2 k65 k80 S x3 = some (r, S2) → PW D y ad S H → va_S (AA ad) s.heap H locs → lv_has ls 4 [(0, .ref (ad 23)), (2, .int x2), (3, .int x3)] → W p l e (headSpec wsX6_load ({ frames := 5, cells := 0, slots := 0, locals := 119 })).room s m ([.ref (ad 23), .int a1] : List Value).toArray below meth c H locs 0 0 (QV below r S2 D y ad ([.ref (ad 23), .int a1] : List Value).toArray s) (F0 m 140 ls []) := by
    intro x2 k65 hk65 k80 hk80 S x3 H locs ls hf hP hS hl
    unfold f_X6_load_140 at hf
    obtain ⟨x3_1, ex3_1, hf⟩ := bd_inv hf
    refine lv_iinc (v := x3_1) (lv' := [(3, .int x3_1), (0, .ref (ad 23)), (2, .int x2)]) hx hb dX6_load_140 hl (k := 2) rfl (by rw [ex3_1]; rfl) (by decide) rfl (fun ls hl => ?_)
    refine lv_goto (tgt := 80) hx hb dX6_load_143 (by decide) ?_
    exact hk80 S x3_1 _ _ _ hf hP hS (lv_sub hl [1, 2, 0] rfl)
  have b80 : ∀ (x2 : Int32) (k65 : St → Int32 → Option (Unit × St)) (hk65 : ∀ (S : St) (x2 : Int32) (H : Heap) (locs : List Loc) (ls : Array Slot), k65 S x2 = some (r, S2) → PW D y ad S H → va_S (AA ad) s.heap H locs → lv_has ls 4 [(0, .ref (ad 23)), (2, .int x2)] → W p l e (headSpec wsX6_load ({ frames := 5, cells := 0, slots := 0, locals := 119 })).room s m ([.ref (ad 23), .int a1] : List Value).toArray below meth c H locs 0 0 (QV below r S2 D y ad ([.ref (ad 23), .int a1] : List Value).toArray s) (F0 m 65 ls [])) (k80 : St → Int32 → Option (Unit × St)) (hk80 : ∀ (S : St) (x3 : Int32) (H : Heap) (locs : List Loc) (ls : Array Slot), k80 S x3 = some (r, S2) → PW D y ad S H → va_S (AA ad) s.heap H locs → lv_has ls 4 [(0, .ref (ad 23)), (2, .int x2), (3, .int x3)] → W p l e (headSpec wsX6_load ({ frames := 5, cells := 0, slots := 0, locals := 119 })).room s m ([.ref (ad 23), .int a1] : List Value).toArray below meth c H locs 0 0 (QV below r S2 D y ad ([.ref (ad 23), .int a1] : List Value).toArray s) (F0 m 80 ls [])), ∀ (S : St) (x3 : Int32) (H : Heap) (locs : List Loc) (ls : Array Slot), f_X6_load_80 n x2 k65 k80 S x3 = some (r, S2) → PW D y ad S H → va_S (AA ad) s.heap H locs → lv_has ls 4 [(0, .ref (ad 23)), (2, .int x2), (3, .int x3)] → W p l e (headSpec wsX6_load ({ frames := 5, cells := 0, slots := 0, locals := 119 })).room s m ([.ref (ad 23), .int a1] : List Value).toArray below meth c H locs 0 0 (QV below r S2 D y ad ([.ref (ad 23), .int a1] : List Value).toArray s) (F0 m 80 ls []) := by
    intro x2 k65 hk65 k80 hk80 S x3 H locs ls hf hP hS hl
    unfold f_X6_load_80 at hf
    refine lv_iload_n hx hb dX6_load_80 rfl (lv_at hl 2 rfl) ?_
    refine lv_aload_n hx hb dX6_load_81 rfl (lv_at hl 0 rfl) ?_
    refine w_gR (z := 6) (C := RX6) (T := TX6) hx hb hts n6 hown hK hP t_23 rfl 0 (by decide) L28 rfl rfl dX6_load_82 ?_
    obtain ⟨r_2, S_3, hc_4, hf⟩ := bo_inv hf
    refine w_ci (va_runV (As := []) (rest := [.int x3]) ⟨hx, hb, hml, hown, hts⟩ (c_X7_size l D y ad aL aU hI n 6 isT6 S  _ _ hc_4) (cwV 0 hts gX6_load_X7_size rfl rfl rfl (by decide +kernel) ⟨Nat.le_of_ble_eq_true rfl, Nat.le_of_ble_eq_true rfl⟩) (pwu_V t_6 rfl hP hK hZ hS) rfl rfl hl.1 rfl (lv_room (Nat.le_of_ble_eq_true rfl)) dX6_load_85 ⟨Nat.zero_le _, Nat.zero_le _⟩) hS (fun H locs hP hS => ?_)
    refine lv_icmp_ge (tgt := 146) hx hb dX6_load_88 (by decide) (fun b_5 => ?_) (fun b_5 => ?_)
    · have hf := if_t b_5 hf
      obtain ⟨x2_6, ex2_6, hf⟩ := bd_inv hf
      refine lv_iinc (v := x2_6) (lv' := [(2, .int x2_6), (0, .ref (ad 23)), (3, .int x3)]) hx hb dX6_load_146 hl (k := 1) rfl (by rw [ex2_6]; rfl) (by decide) rfl (fun ls hl => ?_)
      refine lv_goto (tgt := 65) hx hb dX6_load_149 (by decide) ?_
      exact hk65 S_3 x2_6 _ _ _ hf hP hS (lv_sub hl [1, 0] rfl)
    · have hf := if_f b_5 hf
      refine lv_aload_n hx hb dX6_load_91 rfl (lv_at hl 0 rfl) ?_
      refine w_gR (z := 6) (C := RX6) (T := TX6) hx hb hts n6 hown hK hP t_23 rfl 0 (by decide) L28 rfl rfl dX6_load_92 ?_
      refine lv_iload_n hx hb dX6_load_95 rfl (lv_at hl 1 rfl) ?_
      refine lv_iload_n hx hb dX6_load_96 rfl (lv_at hl 2 rfl) ?_
      obtain ⟨r_7, S_8, hc_9, hf⟩ := bo_inv hf
      refine w_ci (va_runV (As := [.int x2, .int x3]) (rest := []) ⟨hx, hb, hml, hown, hts⟩ (c_X7_haveSameFunction l D y ad aL aU hI n 6 isT6 S_3 x2 x3 _ _ hc_9) (cwV 2 hts gX6_load_X7_haveSameFunction rfl rfl rfl (by decide +kernel) ⟨Nat.le_of_ble_eq_true rfl, Nat.le_of_ble_eq_true rfl⟩) (pwu_V t_6 rfl hP hK hZ hS) rfl rfl hl.1 rfl (lv_room (Nat.le_of_ble_eq_true rfl)) dX6_load_97 ⟨Nat.zero_le _, Nat.zero_le _⟩) hS (fun H locs hP hS => ?_)
      refine lv_if_eq (tgt := 140) hx hb dX6_load_100 (by decide) (fun b_10 => ?_) (fun b_10 => ?_)
      · have hf := if_t b_10 hf
        exact j140 x2 k65 hk65 k80 hk80 S_8 x3 _ _ _ hf hP hS (lv_sub hl [0, 1, 2] rfl)
      · have hf := if_f b_10 hf
        refine lv_aload_n hx hb dX6_load_103 rfl (lv_at hl 0 rfl) ?_
        refine w_gI (C := RX6) (T := TX6) hx hb hts n6 hown hK hP t_23 rfl 3 (by decide) L37 rfl dX6_load_104 ?_
        refine lv_bipush (v := (22)) hx hb dX6_load_107 (by decide) ?_
        refine lv_icmp_ge (tgt := 140) hx hb dX6_load_109 (by decide) (fun b_11 => ?_) (fun b_11 => ?_)
        · have hf := if_t b_11 hf
          exact j140 x2 k65 hk65 k80 hk80 S_8 x3 _ _ _ hf hP hS (lv_sub hl [0, 1, 2] rfl)
        · have hf := if_f b_11 hf
          refine lv_aload_n hx hb dX6_load_112 rfl (lv_at hl 0 rfl) ?_
          refine w_gR (z := 24) (C := RX6) (T := TX6) hx hb hts n6 hown hK hP t_23 rfl 2 (by decide) L13 rfl rfl dX6_load_113 ?_
          refine lv_aload_n hx hb dX6_load_116 rfl (lv_at hl 0 rfl) ?_
          refine w_gI (C := RX6) (T := TX6) hx hb hts n6 hown hK hP t_23 rfl 3 (by decide) L37 rfl dX6_load_117 ?_
          obtain ⟨g_12, hf⟩ := gd_inv hf
          refine w_aldC hx hb hK hP t_24 g_12 dX6_load_120 ?_
          refine lv_aload_n hx hb dX6_load_121 rfl (lv_at hl 0 rfl) ?_
          refine w_gR (z := 6) (C := RX6) (T := TX6) hx hb hts n6 hown hK hP t_23 rfl 0 (by decide) L28 rfl rfl dX6_load_122 ?_
          refine lv_iload_n hx hb dX6_load_125 rfl (lv_at hl 1 rfl) ?_
          refine lv_iload_n hx hb dX6_load_126 rfl (lv_at hl 2 rfl) ?_
          obtain ⟨r_13, S_14, hc_15, hf⟩ := bo_inv hf
          refine w_cv (va_runV (As := [.ref (ad 6), .int x2, .int x3]) (rest := []) ⟨hx, hb, hml, hown, hts⟩ (c_X0_setCongruence l D y ad aL aU hI n ((50 + ((S_8.1 23 3)).toNatClampNeg)) (isC_of g_12) S_8 6 isT6 x2 x3 _ _ hc_15) (cwV 3 hts gX6_load_X0_setCongruence rfl rfl rfl (by decide +kernel) ⟨Nat.le_of_ble_eq_true rfl, Nat.le_of_ble_eq_true rfl⟩) (pwu_V (tC (isC_of g_12)) rfl hP hK hZ hS) rfl rfl hl.1 rfl (lv_room (Nat.le_of_ble_eq_true rfl)) dX6_load_127 ⟨Nat.zero_le _, Nat.zero_le _⟩) hS (fun H locs hP hS => ?_)
          refine lv_aload_n hx hb dX6_load_130 rfl (lv_at hl 0 rfl) ?_
          refine lv_dup hx hb dX6_load_131 rfl ?_
          refine w_gI (C := RX6) (T := TX6) hx hb hts n6 hown hK hP t_23 rfl 3 (by decide) L37 rfl dX6_load_132 ?_
          refine lv_iconst (v := 1) hx hb dX6_load_135 (by decide) ?_
          refine lv_iadd hx hb dX6_load_136 ?_
          obtain ⟨S_16, eS_16, hf⟩ := bd_inv hf
          refine w_pI (ty := .int) (C := RX6) (T := TX6) hx hb hts n6 tyX6 tyX6_ok nmX6 hown hK hI hP hS t_23 rfl 3 (by decide) L37 rfl rfl rfl ⟨rfl, rfl⟩ dX6_load_137 (fun H locs hP hS => ?_)
          rw [← eS_16] at hP
          exact j140 x2 k65 hk65 k80 hk80 S_16 x3 _ _ _ hf hP hS (lv_sub hl [0, 1, 2] rfl)
  have j80 : ∀ (x2 : Int32) (k65 : St → Int32 → Option (Unit × St)) (hk65 : ∀ (S : St) (x2 : Int32) (H : Heap) (locs : List Loc) (ls : Array Slot), k65 S x2 = some (r, S2) → PW D y ad S H → va_S (AA ad) s.heap H locs → lv_has ls 4 [(0, .ref (ad 23)), (2, .int x2)] → W p l e (headSpec wsX6_load ({ frames := 5, cells := 0, slots := 0, locals := 119 })).room s m ([.ref (ad 23), .int a1] : List Value).toArray below meth c H locs 0 0 (QV below r S2 D y ad ([.ref (ad 23), .int a1] : List Value).toArray s) (F0 m 65 ls [])) (fu : Nat), ∀ (S : St) (x3 : Int32) (H : Heap) (locs : List Loc) (ls : Array Slot), fixF (fun _ _ => none) (f_X6_load_80 n x2 k65) fu S x3 = some (r, S2) → PW D y ad S H → va_S (AA ad) s.heap H locs → lv_has ls 4 [(0, .ref (ad 23)), (2, .int x2), (3, .int x3)] → W p l e (headSpec wsX6_load ({ frames := 5, cells := 0, slots := 0, locals := 119 })).room s m ([.ref (ad 23), .int a1] : List Value).toArray below meth c H locs 0 0 (QV below r S2 D y ad ([.ref (ad 23), .int a1] : List Value).toArray s) (F0 m 80 ls []) := by
    intro x2 k65 hk65 fu
    induction fu with
    | zero => intro S x3 H locs ls hf hP hS hl; cases hf
    | succ fu ih => exact b80 x2 k65 hk65 (fixF (fun _ _ => none) (f_X6_load_80 n x2 k65) fu) ih
  have b65 : ∀ (k65 : St → Int32 → Option (Unit × St)) (hk65 : ∀ (S : St) (x2 : Int32) (H : Heap) (locs : List Loc) (ls : Array Slot), k65 S x2 = some (r, S2) → PW D y ad S H → va_S (AA ad) s.heap H locs → lv_has ls 4 [(0, .ref (ad 23)), (2, .int x2)] → W p l e (headSpec wsX6_load ({ frames := 5, cells := 0, slots := 0, locals := 119 })).room s m ([.ref (ad 23), .int a1] : List Value).toArray below meth c H locs 0 0 (QV below r S2 D y ad ([.ref (ad 23), .int a1] : List Value).toArray s) (F0 m 65 ls [])), ∀ (S : St) (x2 : Int32) (H : Heap) (locs : List Loc) (ls : Array Slot), f_X6_load_65 n k65 S x2 = some (r, S2) → PW D y ad S H → va_S (AA ad) s.heap H locs → lv_has ls 4 [(0, .ref (ad 23)), (2, .int x2)] → W p l e (headSpec wsX6_load ({ frames := 5, cells := 0, slots := 0, locals := 119 })).room s m ([.ref (ad 23), .int a1] : List Value).toArray below meth c H locs 0 0 (QV below r S2 D y ad ([.ref (ad 23), .int a1] : List Value).toArray s) (F0 m 65 ls []) := by
    intro  k65 hk65 S x2 H locs ls hf hP hS hl
    unfold f_X6_load_65 at hf
    refine lv_iload_n hx hb dX6_load_65 rfl (lv_at hl 1 rfl) ?_
    refine lv_aload_n hx hb dX6_load_66 rfl (lv_at hl 0 rfl) ?_
    refine w_gR (z := 6) (C := RX6) (T := TX6) hx hb hts n6 hown hK hP t_23 rfl 0 (by decide) L28 rfl rfl dX6_load_67 ?_
    obtain ⟨r_17, S_18, hc_19, hf⟩ := bo_inv hf
    refine w_ci (va_runV (As := []) (rest := [.int x2]) ⟨hx, hb, hml, hown, hts⟩ (c_X7_size l D y ad aL aU hI n 6 isT6 S  _ _ hc_19) (cwV 0 hts gX6_load_X7_size rfl rfl rfl (by decide +kernel) ⟨Nat.le_of_ble_eq_true rfl, Nat.le_of_ble_eq_true rfl⟩) (pwu_V t_6 rfl hP hK hZ hS) rfl rfl hl.1 rfl (lv_room (Nat.le_of_ble_eq_true rfl)) dX6_load_70 ⟨Nat.zero_le _, Nat.zero_le _⟩) hS (fun H locs hP hS => ?_)
    refine lv_icmp_ge (tgt := 152) hx hb dX6_load_73 (by decide) (fun b_20 => ?_) (fun b_20 => ?_)
    · have hf := if_t b_20 hf
      exact w_vret hx hb hr hlocks hP hS (rt_inv hf) dX6_load_152
    · have hf := if_f b_20 hf
      refine lv_iload_n hx hb dX6_load_76 rfl (lv_at hl 1 rfl) ?_
      refine lv_iconst (v := 1) hx hb dX6_load_77 (by decide) ?_
      refine lv_iadd hx hb dX6_load_78 ?_
      obtain ⟨x3_21, ex3_21, hf⟩ := bd_inv hf
      refine w_topI ex3_21 ?_
      refine lv_istore_n (lv' := [(3, .int x3_21), (0, .ref (ad 23)), (2, .int x2)]) hx hb dX6_load_79 rfl hl (by decide) rfl (fun ls hl => ?_)
      exact j80 x2 k65 hk65 n S_18 x3_21 _ _ _ hf hP hS (lv_sub hl [1, 2, 0] rfl)
  have j65 : ∀ (fu : Nat), ∀ (S : St) (x2 : Int32) (H : Heap) (locs : List Loc) (ls : Array Slot), fixF (fun _ _ => none) (f_X6_load_65 n) fu S x2 = some (r, S2) → PW D y ad S H → va_S (AA ad) s.heap H locs → lv_has ls 4 [(0, .ref (ad 23)), (2, .int x2)] → W p l e (headSpec wsX6_load ({ frames := 5, cells := 0, slots := 0, locals := 119 })).room s m ([.ref (ad 23), .int a1] : List Value).toArray below meth c H locs 0 0 (QV below r S2 D y ad ([.ref (ad 23), .int a1] : List Value).toArray s) (F0 m 65 ls []) := by
    intro   fu
    induction fu with
    | zero => intro S x2 H locs ls hf hP hS hl; cases hf
    | succ fu ih => exact b65   (fixF (fun _ _ => none) (f_X6_load_65 n) fu) ih
  have j57 : ∀ (x1 : Int32) (k32 : St → Int32 → Option (Unit × St)) (hk32 : ∀ (S : St) (x2 : Int32) (H : Heap) (locs : List Loc) (ls : Array Slot), k32 S x2 = some (r, S2) → PW D y ad S H → va_S (AA ad) s.heap H locs → lv_has ls 4 [(0, .ref (ad 23)), (1, .int x1), (2, .int x2)] → W p l e (headSpec wsX6_load ({ frames := 5, cells := 0, slots := 0, locals := 119 })).room s m ([.ref (ad 23), .int a1] : List Value).toArray below meth c H locs 0 0 (QV below r S2 D y ad ([.ref (ad 23), .int a1] : List Value).toArray s) (F0 m 32 ls [])), ∀ (S : St) (x2 : Int32) (H : Heap) (locs : List Loc) (ls : Array Slot), f_X6_load_57 n x1 k32 S x2 = some (r, S2) → PW D y ad S H → va_S (AA ad) s.heap H locs → lv_has ls 4 [(0, .ref (ad 23)), (1, .int x1), (2, .int x2)] → W p l e (headSpec wsX6_load ({ frames := 5, cells := 0, slots := 0, locals := 119 })).room s m ([.ref (ad 23), .int a1] : List Value).toArray below meth c H locs 0 0 (QV below r S2 D y ad ([.ref (ad 23), .int a1] : List Value).toArray s) (F0 m 57 ls []) := by
    intro x1 k32 hk32 S x2 H locs ls hf hP hS hl
    unfold f_X6_load_57 at hf
    obtain ⟨x2_22, ex2_22, hf⟩ := bd_inv hf
    refine lv_iinc (v := x2_22) (lv' := [(2, .int x2_22), (0, .ref (ad 23)), (1, .int x1)]) hx hb dX6_load_57 hl (k := 2) rfl (by rw [ex2_22]; rfl) (by decide) rfl (fun ls hl => ?_)
    refine lv_goto (tgt := 32) hx hb dX6_load_60 (by decide) ?_
    exact hk32 S x2_22 _ _ _ hf hP hS (lv_sub hl [1, 2, 0] rfl)
  have b32 : ∀ (x1 : Int32) (k32 : St → Int32 → Option (Unit × St)) (hk32 : ∀ (S : St) (x2 : Int32) (H : Heap) (locs : List Loc) (ls : Array Slot), k32 S x2 = some (r, S2) → PW D y ad S H → va_S (AA ad) s.heap H locs → lv_has ls 4 [(0, .ref (ad 23)), (1, .int x1), (2, .int x2)] → W p l e (headSpec wsX6_load ({ frames := 5, cells := 0, slots := 0, locals := 119 })).room s m ([.ref (ad 23), .int a1] : List Value).toArray below meth c H locs 0 0 (QV below r S2 D y ad ([.ref (ad 23), .int a1] : List Value).toArray s) (F0 m 32 ls [])), ∀ (S : St) (x2 : Int32) (H : Heap) (locs : List Loc) (ls : Array Slot), f_X6_load_32 n x1 k32 S x2 = some (r, S2) → PW D y ad S H → va_S (AA ad) s.heap H locs → lv_has ls 4 [(0, .ref (ad 23)), (1, .int x1), (2, .int x2)] → W p l e (headSpec wsX6_load ({ frames := 5, cells := 0, slots := 0, locals := 119 })).room s m ([.ref (ad 23), .int a1] : List Value).toArray below meth c H locs 0 0 (QV below r S2 D y ad ([.ref (ad 23), .int a1] : List Value).toArray s) (F0 m 32 ls []) := by
    intro x1 k32 hk32 S x2 H locs ls hf hP hS hl
    unfold f_X6_load_32 at hf
    refine lv_iload_n hx hb dX6_load_32 rfl (lv_at hl 2 rfl) ?_
    refine lv_aload_n hx hb dX6_load_33 rfl (lv_at hl 0 rfl) ?_
    refine w_gR (z := 16) (C := RX6) (T := TX6) hx hb hts n6 hown hK hP t_23 rfl 1 (by decide) L32 rfl rfl dX6_load_34 ?_
    obtain ⟨r_23, S_24, hc_25, hf⟩ := bo_inv hf
    refine w_ci (va_runV (As := []) (rest := [.int x2]) ⟨hx, hb, hml, hown, hts⟩ (c_X3_size l D y ad aL aU hI n S  _ _ hc_25) (cwV 0 hts gX6_load_X3_size rfl rfl rfl (by decide +kernel) ⟨Nat.le_of_ble_eq_true rfl, Nat.le_of_ble_eq_true rfl⟩) (pwu_V t_16 rfl hP hK hZ hS) rfl rfl hl.1 rfl (lv_room (Nat.le_of_ble_eq_true rfl)) dX6_load_37 ⟨Nat.zero_le _, Nat.zero_le _⟩) hS (fun H locs hP hS => ?_)
    refine lv_icmp_ge (tgt := 63) hx hb dX6_load_40 (by decide) (fun b_26 => ?_) (fun b_26 => ?_)
    · have hf := if_t b_26 hf
      refine lv_iconst (v := 5) hx hb dX6_load_63 (by decide) ?_
      obtain ⟨x2_27, ex2_27, hf⟩ := bd_inv hf
      refine w_topI ex2_27 ?_
      refine lv_istore_n (lv' := [(2, .int x2_27), (0, .ref (ad 23)), (1, .int x1)]) hx hb dX6_load_64 rfl hl (by decide) rfl (fun ls hl => ?_)
      exact j65   n S_24 x2_27 _ _ _ hf hP hS (lv_sub hl [1, 0] rfl)
    · have hf := if_f b_26 hf
      refine lv_iload_n hx hb dX6_load_43 rfl (lv_at hl 1 rfl) ?_
      refine lv_iload_n hx hb dX6_load_44 rfl (lv_at hl 2 rfl) ?_
      refine lv_ishr hx hb dX6_load_45 ?_
      refine lv_iconst (v := 1) hx hb dX6_load_46 (by decide) ?_
      refine lv_iand hx hb dX6_load_47 ?_
      refine lv_iconst (v := 1) hx hb dX6_load_48 (by decide) ?_
      refine lv_icmp_ne (tgt := 57) hx hb dX6_load_49 (by decide) (fun b_28 => ?_) (fun b_28 => ?_)
      · have hf := if_f b_28 hf
        exact j57 x1 k32 hk32 S_24 x2 _ _ _ hf hP hS (lv_sub hl [0, 1, 2] rfl)
      · have hf := if_t b_28 hf
        refine lv_aload_n hx hb dX6_load_52 rfl (lv_at hl 0 rfl) ?_
        refine lv_iload_n hx hb dX6_load_53 rfl (lv_at hl 2 rfl) ?_
        obtain ⟨r_29, S_30, hc_31, hf⟩ := bo_inv hf
        refine w_cv (va_runV (As := [.int x2]) (rest := []) ⟨hx, hb, hml, hown, hts⟩ (c_X6_demandLiteral l D y ad aL aU hI n S_24 x2 _ _ hc_31) (cwV 1 hts gX6_load_X6_demandLiteral rfl rfl rfl (by decide +kernel) ⟨Nat.le_of_ble_eq_true rfl, Nat.le_of_ble_eq_true rfl⟩) (pwu_V t_23 rfl hP hK hZ hS) rfl rfl hl.1 rfl (lv_room (Nat.le_of_ble_eq_true rfl)) dX6_load_54 ⟨Nat.zero_le _, Nat.zero_le _⟩) hS (fun H locs hP hS => ?_)
        exact j57 x1 k32 hk32 S_30 x2 _ _ _ hf hP hS (lv_sub hl [0, 1, 2] rfl)
  have j32 : ∀ (x1 : Int32) (fu : Nat), ∀ (S : St) (x2 : Int32) (H : Heap) (locs : List Loc) (ls : Array Slot), fixF (fun _ _ => none) (f_X6_load_32 n x1) fu S x2 = some (r, S2) → PW D y ad S H → va_S (AA ad) s.heap H locs → lv_has ls 4 [(0, .ref (ad 23)), (1, .int x1), (2, .int x2)] → W p l e (headSpec wsX6_load ({ frames := 5, cells := 0, slots := 0, locals := 119 })).room s m ([.ref (ad 23), .int a1] : List Value).toArray below meth c H locs 0 0 (QV below r S2 D y ad ([.ref (ad 23), .int a1] : List Value).toArray s) (F0 m 32 ls []) := by
    intro x1  fu
    induction fu with
    | zero => intro S x2 H locs ls hf hP hS hl; cases hf
    | succ fu ih => exact b32 x1  (fixF (fun _ _ => none) (f_X6_load_32 n x1) fu) ih
  unfold f_X6_load at hf
  refine lv_aload_n hx hb dX6_load_0 rfl (lv_at hl 0 rfl) ?_
  refine lv_iconst (v := 0) hx hb dX6_load_1 (by decide) ?_
  obtain ⟨S_32, eS_32, hf⟩ := bd_inv hf
  refine w_pI (ty := .int) (C := RX6) (T := TX6) hx hb hts n6 tyX6 tyX6_ok nmX6 hown hK hI hP hS t_23 rfl 3 (by decide) L37 rfl rfl rfl ⟨rfl, rfl⟩ dX6_load_2 (fun H locs hP hS => ?_)
  rw [← eS_32] at hP
  refine lv_aload_n hx hb dX6_load_5 rfl (lv_at hl 0 rfl) ?_
  refine lv_iconst (v := 0) hx hb dX6_load_6 (by decide) ?_
  obtain ⟨S_33, eS_33, hf⟩ := bd_inv hf
  refine w_pI (ty := .boolean) (C := RX6) (T := TX6) hx hb hts n6 tyX6 tyX6_ok nmX6 hown hK hI hP hS t_23 rfl 6 (by decide) L41 rfl rfl rfl ⟨rfl, rfl⟩ dX6_load_7 (fun H locs hP hS => ?_)
  rw [← eS_33] at hP
  refine lv_aload_n hx hb dX6_load_10 rfl (lv_at hl 0 rfl) ?_
  refine lv_iconst (v := 0) hx hb dX6_load_11 (by decide) ?_
  obtain ⟨S_34, eS_34, hf⟩ := bd_inv hf
  refine w_pI (ty := .boolean) (C := RX6) (T := TX6) hx hb hts n6 tyX6 tyX6_ok nmX6 hown hK hI hP hS t_23 rfl 7 (by decide) L45 rfl rfl rfl ⟨rfl, rfl⟩ dX6_load_12 (fun H locs hP hS => ?_)
  rw [← eS_34] at hP
  refine lv_aload_n hx hb dX6_load_15 rfl (lv_at hl 0 rfl) ?_
  refine lv_iconst (v := 0) hx hb dX6_load_16 (by decide) ?_
  refine lv_iconst (v := 0) hx hb dX6_load_17 (by decide) ?_
  obtain ⟨r_35, S_36, hc_37, hf⟩ := bo_inv hf
  refine w_cv (va_runV (As := [.int (0 : Int32), .int (0 : Int32)]) (rest := []) ⟨hx, hb, hml, hown, hts⟩ (c_X6_aimAt l D y ad aL aU hI n S_34 (0 : Int32) (0 : Int32) _ _ hc_37) (cwV 2 hts gX6_load_X6_aimAt rfl rfl rfl (by decide +kernel) ⟨Nat.le_of_ble_eq_true rfl, Nat.le_of_ble_eq_true rfl⟩) (pwu_V t_23 rfl hP hK hZ hS) rfl rfl hl.1 rfl (lv_room (Nat.le_of_ble_eq_true rfl)) dX6_load_18 ⟨Nat.zero_le _, Nat.zero_le _⟩) hS (fun H locs hP hS => ?_)
  refine lv_aload_n hx hb dX6_load_21 rfl (lv_at hl 0 rfl) ?_
  refine w_gR (z := 25) (C := RX6) (T := TX6) hx hb hts n6 hown hK hP t_23 rfl 4 (by decide) L19 rfl rfl dX6_load_22 ?_
  refine lv_iconst (v := 0) hx hb dX6_load_25 (by decide) ?_
  obtain ⟨g_38, hf⟩ := gd_inv hf
  refine w_aldD hx hb hK hP t_25 g_38 dX6_load_26 ?_
  obtain ⟨r_39, S_40, hc_41, hf⟩ := bo_inv hf
  refine w_cv (va_runV (As := []) (rest := []) ⟨hx, hb, hml, hown, hts⟩ (c_X1_clear l D y ad aL aU hI n ((72 + ((0 : Int32)).toNatClampNeg)) (isD_of g_38) S_36  _ _ hc_41) (cwV 0 hts gX6_load_X1_clear rfl rfl rfl (by decide +kernel) ⟨Nat.le_of_ble_eq_true rfl, Nat.le_of_ble_eq_true rfl⟩) (pwu_V (tD (isD_of g_38)) rfl hP hK hZ hS) rfl rfl hl.1 rfl (lv_room (Nat.le_of_ble_eq_true rfl)) dX6_load_27 ⟨Nat.zero_le _, Nat.zero_le _⟩) hS (fun H locs hP hS => ?_)
  refine lv_iconst (v := 0) hx hb dX6_load_30 (by decide) ?_
  obtain ⟨x2_42, ex2_42, hf⟩ := bd_inv hf
  refine w_topI ex2_42 ?_
  refine lv_istore_n (lv' := [(2, .int x2_42), (0, .ref (ad 23)), (1, .int a1)]) hx hb dX6_load_31 rfl hl (by decide) rfl (fun ls hl => ?_)
  exact j32 a1  n S_40 x2_42 _ _ _ hf hP hS (lv_sub hl [1, 2, 0] rfl)
set_option maxHeartbeats 4000000 in
set_option maxRecDepth 100000 in
theorem c_X4_demandDifferentNames (l : Launch) (D : va_G) (y : y4) (ad : Nat → Nat) (aL aU : Nat) (hI : Inj ad) (n : Nat) (S : St) (a1 : Int32) (r : Unit) (S2 : St) (hf : f_X4_demandDifferentNames n S a1 = some (r, S2)) : KV l D y ad aL aU yX4_demandDifferentNames wsX4_demandDifferentNames ({ frames := 4, cells := 0, slots := 0, locals := 84 }) [.ref (ad 26), .int a1] S r S2 := by
  refine Met.ofW (cc := cX4_demandDifferentNames) (maxL := 2) (ret := none) (by decide) rfl ?_
  intro p e s m args below meth c s₁ B hml hv
  obtain ⟨rfl, hP, hK, hZ⟩ := hv
  have hx := B.exec
  have hb := B.bytes
  have hr := B.returns
  have hts := atoms_spec (ws := wsX4_demandDifferentNames) B.pre
  have hown : s.vm.findClass RX4 = some m.cls := findClass_of_methodNamed B.named
  have hlocks := B.notSynchronized
  have hS : va_S (AA ad) s.heap s.heap [] := va_S.rf
  have L23 := hts (.fieldLink RX4 23 "JoinedTheories$PairFinder" "solver" "LJoinedTheories$Solver;") (by decide +kernel)
  have n4 : ∀ w ∈ wsX40, w ∈ wsX4_demandDifferentNames := by decide +kernel
  have hl := lv_entry ([.ref (ad 26), .int a1]) (n := 2) (Nat.le_of_ble_eq_true rfl)
  rw [lg_entry_eq]
  generalize (lg_sl ([.ref (ad 26), .int a1]) ++ List.replicate (2 - (lg_sl ([.ref (ad 26), .int a1])).length) Slot.unset).toArray = ls at hl ⊢
  have hl : lv_has ls 2 [(0, .ref (ad 26)), (1, .int a1)] := hl
  unfold f_X4_demandDifferentNames at hf
  refine lv_iload_n hx hb dX4_demandDifferentNames_0 rfl (lv_at hl 1 rfl) ?_
  refine lv_if_lt (tgt := 27) hx hb dX4_demandDifferentNames_1 (by decide) (fun b_1 => ?_) (fun b_1 => ?_)
  · have hf := if_t b_1 hf
    exact w_vret hx hb hr hlocks hP hS (rt_inv hf) dX4_demandDifferentNames_27
  · have hf := if_f b_1 hf
    refine lv_iload_n hx hb dX4_demandDifferentNames_4 rfl (lv_at hl 1 rfl) ?_
    refine lv_bipush (v := (10)) hx hb dX4_demandDifferentNames_5 (by decide) ?_
    refine lv_icmp_ge (tgt := 27) hx hb dX4_demandDifferentNames_7 (by decide) (fun b_2 => ?_) (fun b_2 => ?_)
    · have hf := if_t b_2 hf
      exact w_vret hx hb hr hlocks hP hS (rt_inv hf) dX4_demandDifferentNames_27
    · have hf := if_f b_2 hf
      refine lv_aload_n hx hb dX4_demandDifferentNames_10 rfl (lv_at hl 0 rfl) ?_
      refine w_gR (z := 23) (C := RX4) (T := TX4) hx hb hts n4 hown hK hP t_26 rfl 0 (by decide) L23 rfl rfl dX4_demandDifferentNames_11 ?_
      refine va_getsN (v := .ref aL) hx hb hZ.1.1 hS hown (va_Nw.use rfl hZ.2.2.1) (fun _ h => h) dX4_demandDifferentNames_14 ?_
      refine lv_iload_n hx hb dX4_demandDifferentNames_17 rfl (lv_at hl 1 rfl) ?_
      obtain ⟨g_3, hf⟩ := gd_inv hf
      refine va_ti hx hb hZ.1.2 hS g_3 rfl dX4_demandDifferentNames_18 ?_
      refine va_getsN (v := .ref aU) hx hb hZ.2.1.1 hS hown (va_Nw.use rfl hZ.2.2.2) (fun _ h => h) dX4_demandDifferentNames_19 ?_
      refine lv_iload_n hx hb dX4_demandDifferentNames_22 rfl (lv_at hl 1 rfl) ?_
      obtain ⟨g_4, hf⟩ := gd_inv hf
      refine va_ti hx hb hZ.2.1.2 hS g_4 rfl dX4_demandDifferentNames_23 ?_
      obtain ⟨r_5, S_6, hc_7, hf⟩ := bo_inv hf
      refine w_cv (va_runV (As := [.int (loF (a1).toNatClampNeg), .int (upF (a1).toNatClampNeg)]) (rest := []) ⟨hx, hb, hml, hown, hts⟩ (c_X6_demandDifferent l D y ad aL aU hI n S ((loF (a1).toNatClampNeg)) ((upF (a1).toNatClampNeg)) _ _ hc_7) (cwV 2 hts gX4_demandDifferentNames_X6_demandDifferent rfl rfl rfl (by decide +kernel) ⟨Nat.le_of_ble_eq_true rfl, Nat.le_of_ble_eq_true rfl⟩) (pwu_V t_23 rfl hP hK hZ hS) rfl rfl hl.1 rfl (lv_room (Nat.le_of_ble_eq_true rfl)) dX4_demandDifferentNames_24 ⟨Nat.zero_le _, Nat.zero_le _⟩) hS (fun H locs hP hS => ?_)
      exact w_vret hx hb hr hlocks hP hS (rt_inv hf) dX4_demandDifferentNames_27
set_option maxHeartbeats 4000000 in
set_option maxRecDepth 100000 in
theorem c_X6_greatest (l : Launch) (D : va_G) (y : y4) (ad : Nat → Nat) (aL aU : Nat) (hI : Inj ad) (n : Nat) (S : St) (r : Int64) (S2 : St) (hf : f_X6_greatest n S = some (r, S2)) : KL l D y ad aL aU yX6_greatest wsX6_greatest ({ frames := 2, cells := 0, slots := 0, locals := 42 }) [.ref (ad 23)] S r S2 := by
  refine Met.ofW (cc := cX6_greatest) (maxL := 1) (ret := (some .long)) (by decide) rfl ?_
  intro p e s m args below meth c s₁ B hml hv
  obtain ⟨rfl, hP, hK, hZ⟩ := hv
  have hx := B.exec
  have hb := B.bytes
  have hr := B.returns
  have hts := atoms_spec (ws := wsX6_greatest) B.pre
  have hown : s.vm.findClass RX6 = some m.cls := findClass_of_methodNamed B.named
  have hlocks := B.notSynchronized
  have hS : va_S (AA ad) s.heap s.heap [] := va_S.rf
  have L24 := hts (.fieldLink RX6 24 "JoinedTheories$Solver" "best" "LJoinedTheories$Distances;") (by decide +kernel)
  have L109 := hts (.fieldLink RX6 109 "JoinedTheories$Solver" "goalLeft" "I") (by decide +kernel)
  have L112 := hts (.fieldLink RX6 112 "JoinedTheories$Solver" "goalRight" "I") (by decide +kernel)
  have n6 : ∀ w ∈ wsX60, w ∈ wsX6_greatest := by decide +kernel
  have hl := lv_entry ([.ref (ad 23)]) (n := 1) (Nat.le_of_ble_eq_true rfl)
  rw [lg_entry_eq]
  generalize (lg_sl ([.ref (ad 23)]) ++ List.replicate (1 - (lg_sl ([.ref (ad 23)])).length) Slot.unset).toArray = ls at hl ⊢
  have hl : lv_has ls 1 [(0, .ref (ad 23))] := hl
  unfold f_X6_greatest at hf
  refine lv_aload_n hx hb dX6_greatest_0 rfl (lv_at hl 0 rfl) ?_
  refine w_gR (z := 95) (C := RX6) (T := TX6) hx hb hts n6 hown hK hP t_23 rfl 5 (by decide) L24 rfl rfl dX6_greatest_1 ?_
  refine lv_aload_n hx hb dX6_greatest_4 rfl (lv_at hl 0 rfl) ?_
  refine w_gI (C := RX6) (T := TX6) hx hb hts n6 hown hK hP t_23 rfl 8 (by decide) L109 rfl dX6_greatest_5 ?_
  refine lv_aload_n hx hb dX6_greatest_8 rfl (lv_at hl 0 rfl) ?_
  refine w_gI (C := RX6) (T := TX6) hx hb hts n6 hown hK hP t_23 rfl 9 (by decide) L112 rfl dX6_greatest_9 ?_
  obtain ⟨r_1, S_2, hc_3, hf⟩ := bo_inv hf
  refine w_cl (va_runV (As := [.int (S.1 23 8), .int (S.1 23 9)]) (rest := []) ⟨hx, hb, hml, hown, hts⟩ (c_X1_between l D y ad aL aU hI n 95 isD95 S (S.1 23 8) (S.1 23 9) _ _ hc_3) (cwV 2 hts gX6_greatest_X1_between rfl rfl rfl (by decide +kernel) ⟨Nat.le_of_ble_eq_true rfl, Nat.le_of_ble_eq_true rfl⟩) (pwu_V t_95 rfl hP hK hZ hS) rfl rfl hl.1 rfl (lv_room (Nat.le_of_ble_eq_true rfl)) dX6_greatest_12 ⟨Nat.zero_le _, Nat.zero_le _⟩) hS (fun H locs hP hS => ?_)
  exact w_lret hx hb hr hlocks hP hS (rt_inv hf) dX6_greatest_15
set_option maxHeartbeats 4000000 in
set_option maxRecDepth 100000 in
theorem c_X6_demandsMore (l : Launch) (D : va_G) (y : y4) (ad : Nat → Nat) (aL aU : Nat) (hI : Inj ad) (n : Nat) (S : St) (q1 : Nat) (hq1 : isD q1) (r : Int32) (S2 : St) (hf : f_X6_demandsMore n S q1 = some (r, S2)) : KI l D y ad aL aU yX6_demandsMore wsX6_demandsMore ({ frames := 3, cells := 0, slots := 0, locals := 62 }) [.ref (ad 23), .ref (ad q1)] S r S2 := by
  refine Met.ofW (cc := cX6_demandsMore) (maxL := 2) (ret := (some .boolean)) (by decide) rfl ?_
  intro p e s m args below meth c s₁ B hml hv
  obtain ⟨rfl, hP, hK, hZ⟩ := hv
  have hx := B.exec
  have hb := B.bytes
  have hr := B.returns
  have hts := atoms_spec (ws := wsX6_demandsMore) B.pre
  have hown : s.vm.findClass RX6 = some m.cls := findClass_of_methodNamed B.named
  have hlocks := B.notSynchronized
  have hS : va_S (AA ad) s.heap s.heap [] := va_S.rf
  have L45 := hts (.fieldLink RX6 45 "JoinedTheories$Solver" "found" "Z") (by decide +kernel)
  have L109 := hts (.fieldLink RX6 109 "JoinedTheories$Solver" "goalLeft" "I") (by decide +kernel)
  have L112 := hts (.fieldLink RX6 112 "JoinedTheories$Solver" "goalRight" "I") (by decide +kernel)
  have K151 := hts (.constantLong RX6 151 (1000000000000000)) (by decide +kernel)
  have n6 : ∀ w ∈ wsX60, w ∈ wsX6_demandsMore := by decide +kernel
  have hl := lv_entry ([.ref (ad 23), .ref (ad q1)]) (n := 2) (Nat.le_of_ble_eq_true rfl)
  rw [lg_entry_eq]
  generalize (lg_sl ([.ref (ad 23), .ref (ad q1)]) ++ List.replicate (2 - (lg_sl ([.ref (ad 23), .ref (ad q1)])).length) Slot.unset).toArray = ls at hl ⊢
  have hl : lv_has ls 2 [(0, .ref (ad 23)), (1, .ref (ad q1))] := hl
  unfold f_X6_demandsMore at hf
  refine lv_aload_n hx hb dX6_demandsMore_0 rfl (lv_at hl 0 rfl) ?_
  refine w_gI (C := RX6) (T := TX6) hx hb hts n6 hown hK hP t_23 rfl 7 (by decide) L45 rfl dX6_demandsMore_1 ?_
  refine lv_if_ne (tgt := 9) hx hb dX6_demandsMore_4 (by decide) (fun b_1 => ?_) (fun b_1 => ?_)
  · have hf := if_f b_1 hf
    refine lv_aload_n hx hb dX6_demandsMore_9 rfl (lv_at hl 0 rfl) ?_
    obtain ⟨r_2, S_3, hc_4, hf⟩ := bo_inv hf
    refine w_cl (va_runV (As := []) (rest := []) ⟨hx, hb, hml, hown, hts⟩ (c_X6_greatest l D y ad aL aU hI n S  _ _ hc_4) (cwV 0 hts gX6_demandsMore_X6_greatest rfl rfl rfl (by decide +kernel) ⟨Nat.le_of_ble_eq_true rfl, Nat.le_of_ble_eq_true rfl⟩) (pwu_V t_23 rfl hP hK hZ hS) rfl rfl hl.1 rfl (lv_room (Nat.le_of_ble_eq_true rfl)) dX6_demandsMore_10 ⟨Nat.zero_le _, Nat.zero_le _⟩) hS (fun H locs hP hS => ?_)
    refine lv_ldc2 (v := (1000000000000000)) hx hb hown K151 dX6_demandsMore_13 ?_
    refine W.lcmp hx hb dX6_demandsMore_16 ?_
    refine lv_if_eq (tgt := 46) hx hb dX6_demandsMore_17 (by decide) (fun b_5 => ?_) (fun b_5 => ?_)
    · have hf := if_t b_5 hf
      refine lv_iconst (v := 0) hx hb dX6_demandsMore_46 (by decide) ?_
      exact w_zret hx hb hr hlocks (fun h => h (by decide)) hP hS (rt_inv hf) dX6_demandsMore_47
    · have hf := if_f b_5 hf
      refine lv_aload_n hx hb dX6_demandsMore_20 rfl (lv_at hl 1 rfl) ?_
      refine lv_aload_n hx hb dX6_demandsMore_21 rfl (lv_at hl 0 rfl) ?_
      refine w_gI (C := RX6) (T := TX6) hx hb hts n6 hown hK hP t_23 rfl 9 (by decide) L112 rfl dX6_demandsMore_22 ?_
      refine lv_aload_n hx hb dX6_demandsMore_25 rfl (lv_at hl 0 rfl) ?_
      refine w_gI (C := RX6) (T := TX6) hx hb hts n6 hown hK hP t_23 rfl 8 (by decide) L109 rfl dX6_demandsMore_26 ?_
      refine lv_aload_n hx hb dX6_demandsMore_29 rfl (lv_at hl 0 rfl) ?_
      obtain ⟨r_6, S_7, hc_8, hf⟩ := bo_inv hf
      refine w_cl (va_runV (As := []) (rest := [.int (S_3.1 23 8), .int (S_3.1 23 9), .ref (ad q1)]) ⟨hx, hb, hml, hown, hts⟩ (c_X6_greatest l D y ad aL aU hI n S_3  _ _ hc_8) (cwV 0 hts gX6_demandsMore_X6_greatest rfl rfl rfl (by decide +kernel) ⟨Nat.le_of_ble_eq_true rfl, Nat.le_of_ble_eq_true rfl⟩) (pwu_V t_23 rfl hP hK hZ hS) rfl rfl hl.1 rfl (lv_room (Nat.le_of_ble_eq_true rfl)) dX6_demandsMore_30 ⟨Nat.zero_le _, Nat.zero_le _⟩) hS (fun H locs hP hS => ?_)
      refine lv_lneg hx hb dX6_demandsMore_33 ?_
      refine lv_lconst (v := 1) hx hb dX6_demandsMore_34 (by decide) ?_
      refine lv_lsub hx hb dX6_demandsMore_35 ?_
      obtain ⟨r_9, S_10, hc_11, hf⟩ := bo_inv hf
      refine w_ci (va_runV (As := [.int (S_3.1 23 9), .int (S_3.1 23 8), .long ((-r_6) - (1 : Int64))]) (rest := []) ⟨hx, hb, hml, hown, hts⟩ (c_X1_bound l D y ad aL aU hI n q1 hq1 S_7 (S_3.1 23 9) (S_3.1 23 8) (((-r_6) - (1 : Int64))) _ _ hc_11) (cwV 3 hts gX6_demandsMore_X1_bound rfl rfl rfl (by decide +kernel) ⟨Nat.le_of_ble_eq_true rfl, Nat.le_of_ble_eq_true rfl⟩) (pwu_V (tD hq1) rfl hP hK hZ hS) rfl rfl hl.1 rfl (lv_room (Nat.le_of_ble_eq_true rfl)) dX6_demandsMore_36 ⟨Nat.zero_le _, Nat.zero_le _⟩) hS (fun H locs hP hS => ?_)
      refine lv_if_eq (tgt := 46) hx hb dX6_demandsMore_39 (by decide) (fun b_12 => ?_) (fun b_12 => ?_)
      · have hf := if_t b_12 hf
        refine lv_iconst (v := 0) hx hb dX6_demandsMore_46 (by decide) ?_
        exact w_zret hx hb hr hlocks (fun h => h (by decide)) hP hS (rt_inv hf) dX6_demandsMore_47
      · have hf := if_f b_12 hf
        refine lv_iconst (v := 1) hx hb dX6_demandsMore_42 (by decide) ?_
        refine lv_goto (tgt := 47) hx hb dX6_demandsMore_43 (by decide) ?_
        exact w_zret hx hb hr hlocks (fun h => h (by decide)) hP hS (rt_inv hf) dX6_demandsMore_47
  · have hf := if_t b_1 hf
    refine lv_iconst (v := 1) hx hb dX6_demandsMore_7 (by decide) ?_
    exact w_zret hx hb hr hlocks (fun h => h (by decide)) hP hS (rt_inv hf) dX6_demandsMore_8
set_option maxHeartbeats 4000000 in
set_option maxRecDepth 100000 in
theorem c_X6_takeForcedOptions (l : Launch) (D : va_G) (y : y4) (ad : Nat → Nat) (aL aU : Nat) (hI : Inj ad) (n : Nat) (S : St) (q1 : Nat) (hq1 : isD q1) (r : Int32) (S2 : St) (hf : f_X6_takeForcedOptions n S q1 = some (r, S2)) : KI l D y ad aL aU yX6_takeForcedOptions wsX6_takeForcedOptions ({ frames := 3, cells := 0, slots := 0, locals := 76 }) [.ref (ad 23), .ref (ad q1)] S r S2 := by
  refine Met.ofW (cc := cX6_takeForcedOptions) (maxL := 7) (ret := (some .boolean)) (by decide) rfl ?_
  intro p e s m args below meth c s₁ B hml hv
  obtain ⟨rfl, hP, hK, hZ⟩ := hv
  have hx := B.exec
  have hb := B.bytes
  have hr := B.returns
  have hts := atoms_spec (ws := wsX6_takeForcedOptions) B.pre
  have hown : s.vm.findClass RX6 = some m.cls := findClass_of_methodNamed B.named
  have hlocks := B.notSynchronized
  have hS : va_S (AA ad) s.heap s.heap [] := va_S.rf
  have L13 := hts (.fieldLink RX6 13 "JoinedTheories$Solver" "clauses" "[LJoinedTheories$Clause;") (by decide +kernel)
  have L37 := hts (.fieldLink RX6 37 "JoinedTheories$Solver" "clauseCount" "I") (by decide +kernel)
  have n6 : ∀ w ∈ wsX60, w ∈ wsX6_takeForcedOptions := by decide +kernel
  have hl := lv_entry ([.ref (ad 23), .ref (ad q1)]) (n := 7) (Nat.le_of_ble_eq_true rfl)
  rw [lg_entry_eq]
  generalize (lg_sl ([.ref (ad 23), .ref (ad q1)]) ++ List.replicate (7 - (lg_sl ([.ref (ad 23), .ref (ad q1)])).length) Slot.unset).toArray = ls at hl ⊢
  have hl : lv_has ls 7 [(0, .ref (ad 23)), (1, .ref (ad q1))] := hl
  have j103 : ∀ (k4 : St → Int32 → Int32 → Option (Int32 × St)) (hk4 : ∀ (S : St) (x2 : Int32) (x3 : Int32) (H : Heap) (locs : List Loc) (ls : Array Slot), k4 S x2 x3 = some (r, S2) → PW D y ad S H → va_S (AA ad) s.heap H locs → lv_has ls 7 [(0, .ref (ad 23)), (1, .ref (ad q1)), (2, .int x2), (3, .int x3)] → W p l e (headSpec wsX6_takeForcedOptions ({ frames := 3, cells := 0, slots := 0, locals := 76 })).room s m ([.ref (ad 23), .ref (ad q1)] : List Value).toArray below meth c H locs 0 0 (QI below r S2 D y ad ([.ref (ad 23), .ref (ad q1)] : List Value).toArray s) (F0 m 4 ls [])), ∀ (S : St) (x2 : Int32) (x3 : Int32) (H : Heap) (locs : List Loc) (ls : Array Slot), f_X6_takeForcedOptions_103 n q1 k4 S x2 x3 = some (r, S2) → PW D y ad S H → va_S (AA ad) s.heap H locs → lv_has ls 7 [(0, .ref (ad 23)), (1, .ref (ad q1)), (2, .int x2), (3, .int x3)] → W p l e (headSpec wsX6_takeForcedOptions ({ frames := 3, cells := 0, slots := 0, locals := 76 })).room s m ([.ref (ad 23), .ref (ad q1)] : List Value).toArray below meth c H locs 0 0 (QI below r S2 D y ad ([.ref (ad 23), .ref (ad q1)] : List Value).toArray s) (F0 m 103 ls []) := by
    intro  k4 hk4 S x2 x3 H locs ls hf hP hS hl
    unfold f_X6_takeForcedOptions_103 at hf
    obtain ⟨x3_1, ex3_1, hf⟩ := bd_inv hf
    refine lv_iinc (v := x3_1) (lv' := [(3, .int x3_1), (0, .ref (ad 23)), (1, .ref (ad q1)), (2, .int x2)]) hx hb dX6_takeForcedOptions_103 hl (k := 3) rfl (by rw [ex3_1]; rfl) (by decide) rfl (fun ls hl => ?_)
    refine lv_goto (tgt := 4) hx hb dX6_takeForcedOptions_106 (by decide) ?_
    exact hk4 S x2 x3_1 _ _ _ hf hP hS (lv_sub hl [1, 2, 3, 0] rfl)
  have j91 : ∀ (x3 : Int32) (x4 : Int32) (x5 : Int32) (k4 : St → Int32 → Int32 → Option (Int32 × St)) (hk4 : ∀ (S : St) (x2 : Int32) (x3 : Int32) (H : Heap) (locs : List Loc) (ls : Array Slot), k4 S x2 x3 = some (r, S2) → PW D y ad S H → va_S (AA ad) s.heap H locs → lv_has ls 7 [(0, .ref (ad 23)), (1, .ref (ad q1)), (2, .int x2), (3, .int x3)] → W p l e (headSpec wsX6_takeForcedOptions ({ frames := 3, cells := 0, slots := 0, locals := 76 })).room s m ([.ref (ad 23), .ref (ad q1)] : List Value).toArray below meth c H locs 0 0 (QI below r S2 D y ad ([.ref (ad 23), .ref (ad q1)] : List Value).toArray s) (F0 m 4 ls [])) (k19 : St → Int32 → Int32 → Option (Int32 × St)) (hk19 : ∀ (S : St) (x2 : Int32) (x4 : Int32) (H : Heap) (locs : List Loc) (ls : Array Slot), k19 S x2 x4 = some (r, S2) → PW D y ad S H → va_S (AA ad) s.heap H locs → lv_has ls 7 [(0, .ref (ad 23)), (1, .ref (ad q1)), (2, .int x2), (3, .int x3), (4, .int x4)] → W p l e (headSpec wsX6_takeForcedOptions ({ frames := 3, cells := 0, slots := 0, locals := 76 })).room s m ([.ref (ad 23), .ref (ad q1)] : List Value).toArray below meth c H locs 0 0 (QI below r S2 D y ad ([.ref (ad 23), .ref (ad q1)] : List Value).toArray s) (F0 m 19 ls [])) (k58 : St → Int32 → Int32 → Option (Int32 × St)) (hk58 : ∀ (S : St) (x2 : Int32) (x6 : Int32) (H : Heap) (locs : List Loc) (ls : Array Slot), k58 S x2 x6 = some (r, S2) → PW D y ad S H → va_S (AA ad) s.heap H locs → lv_has ls 7 [(0, .ref (ad 23)), (1, .ref (ad q1)), (2, .int x2), (3, .int x3), (4, .int x4), (5, .int x5), (6, .int x6)] → W p l e (headSpec wsX6_takeForcedOptions ({ frames := 3, cells := 0, slots := 0, locals := 76 })).room s m ([.ref (ad 23), .ref (ad q1)] : List Value).toArray below meth c H locs 0 0 (QI below r S2 D y ad ([.ref (ad 23), .ref (ad q1)] : List Value).toArray s) (F0 m 58 ls [])), ∀ (S : St) (x2 : Int32) (x6 : Int32) (H : Heap) (locs : List Loc) (ls : Array Slot), f_X6_takeForcedOptions_91 n q1 x3 x4 x5 k4 k19 k58 S x2 x6 = some (r, S2) → PW D y ad S H → va_S (AA ad) s.heap H locs → lv_has ls 7 [(0, .ref (ad 23)), (1, .ref (ad q1)), (2, .int x2), (3, .int x3), (4, .int x4), (5, .int x5), (6, .int x6)] → W p l e (headSpec wsX6_takeForcedOptions ({ frames := 3, cells := 0, slots := 0, locals := 76 })).room s m ([.ref (ad 23), .ref (ad q1)] : List Value).toArray below meth c H locs 0 0 (QI below r S2 D y ad ([.ref (ad 23), .ref (ad q1)] : List Value).toArray s) (F0 m 91 ls []) := by
    intro x3 x4 x5 k4 hk4 k19 hk19 k58 hk58 S x2 x6 H locs ls hf hP hS hl
    unfold f_X6_takeForcedOptions_91 at hf
    obtain ⟨x6_2, ex6_2, hf⟩ := bd_inv hf
    refine lv_iinc (v := x6_2) (lv' := [(6, .int x6_2), (0, .ref (ad 23)), (1, .ref (ad q1)), (2, .int x2), (3, .int x3), (4, .int x4), (5, .int x5)]) hx hb dX6_takeForcedOptions_91 hl (k := 6) rfl (by rw [ex6_2]; rfl) (by decide) rfl (fun ls hl => ?_)
    refine lv_goto (tgt := 58) hx hb dX6_takeForcedOptions_94 (by decide) ?_
    exact hk58 S x2 x6_2 _ _ _ hf hP hS (lv_sub hl [1, 2, 3, 4, 5, 6, 0] rfl)
  have b58 : ∀ (x3 : Int32) (x4 : Int32) (x5 : Int32) (k4 : St → Int32 → Int32 → Option (Int32 × St)) (hk4 : ∀ (S : St) (x2 : Int32) (x3 : Int32) (H : Heap) (locs : List Loc) (ls : Array Slot), k4 S x2 x3 = some (r, S2) → PW D y ad S H → va_S (AA ad) s.heap H locs → lv_has ls 7 [(0, .ref (ad 23)), (1, .ref (ad q1)), (2, .int x2), (3, .int x3)] → W p l e (headSpec wsX6_takeForcedOptions ({ frames := 3, cells := 0, slots := 0, locals := 76 })).room s m ([.ref (ad 23), .ref (ad q1)] : List Value).toArray below meth c H locs 0 0 (QI below r S2 D y ad ([.ref (ad 23), .ref (ad q1)] : List Value).toArray s) (F0 m 4 ls [])) (k19 : St → Int32 → Int32 → Option (Int32 × St)) (hk19 : ∀ (S : St) (x2 : Int32) (x4 : Int32) (H : Heap) (locs : List Loc) (ls : Array Slot), k19 S x2 x4 = some (r, S2) → PW D y ad S H → va_S (AA ad) s.heap H locs → lv_has ls 7 [(0, .ref (ad 23)), (1, .ref (ad q1)), (2, .int x2), (3, .int x3), (4, .int x4)] → W p l e (headSpec wsX6_takeForcedOptions ({ frames := 3, cells := 0, slots := 0, locals := 76 })).room s m ([.ref (ad 23), .ref (ad q1)] : List Value).toArray below meth c H locs 0 0 (QI below r S2 D y ad ([.ref (ad 23), .ref (ad q1)] : List Value).toArray s) (F0 m 19 ls [])) (k58 : St → Int32 → Int32 → Option (Int32 × St)) (hk58 : ∀ (S : St) (x2 : Int32) (x6 : Int32) (H : Heap) (locs : List Loc) (ls : Array Slot), k58 S x2 x6 = some (r, S2) → PW D y ad S H → va_S (AA ad) s.heap H locs → lv_has ls 7 [(0, .ref (ad 23)), (1, .ref (ad q1)), (2, .int x2), (3, .int x3), (4, .int x4), (5, .int x5), (6, .int x6)] → W p l e (headSpec wsX6_takeForcedOptions ({ frames := 3, cells := 0, slots := 0, locals := 76 })).room s m ([.ref (ad 23), .ref (ad q1)] : List Value).toArray below meth c H locs 0 0 (QI below r S2 D y ad ([.ref (ad 23), .ref (ad q1)] : List Value).toArray s) (F0 m 58 ls [])), ∀ (S : St) (x2 : Int32) (x6 : Int32) (H : Heap) (locs : List Loc) (ls : Array Slot), f_X6_takeForcedOptions_58 n q1 x3 x4 x5 k4 k19 k58 S x2 x6 = some (r, S2) → PW D y ad S H → va_S (AA ad) s.heap H locs → lv_has ls 7 [(0, .ref (ad 23)), (1, .ref (ad q1)), (2, .int x2), (3, .int x3), (4, .int x4), (5, .int x5), (6, .int x6)] → W p l e (headSpec wsX6_takeForcedOptions ({ frames := 3, cells := 0, slots := 0, locals := 76 })).room s m ([.ref (ad 23), .ref (ad q1)] : List Value).toArray below meth c H locs 0 0 (QI below r S2 D y ad ([.ref (ad 23), .ref (ad q1)] : List Value).toArray s) (F0 m 58 ls []) := by
    intro x3 x4 x5 k4 hk4 k19 hk19 k58 hk58 S x2 x6 H locs ls hf hP hS hl
    unfold f_X6_takeForcedOptions_58 at hf
    refine lv_iload hx hb dX6_takeForcedOptions_58 (lv_at hl 6 rfl) ?_
    refine lv_iconst (v := 5) hx hb dX6_takeForcedOptions_60 (by decide) ?_
    refine lv_icmp_ge (tgt := 97) hx hb dX6_takeForcedOptions_61 (by decide) (fun b_3 => ?_) (fun b_3 => ?_)
    · have hf := if_t b_3 hf
      obtain ⟨x4_4, ex4_4, hf⟩ := bd_inv hf
      refine lv_iinc (v := x4_4) (lv' := [(4, .int x4_4), (0, .ref (ad 23)), (1, .ref (ad q1)), (2, .int x2), (3, .int x3), (5, .int x5), (6, .int x6)]) hx hb dX6_takeForcedOptions_97 hl (k := 4) rfl (by rw [ex4_4]; rfl) (by decide) rfl (fun ls hl => ?_)
      refine lv_goto (tgt := 19) hx hb dX6_takeForcedOptions_100 (by decide) ?_
      exact hk19 S x2 x4_4 _ _ _ hf hP hS (lv_sub hl [1, 2, 3, 4, 0] rfl)
    · have hf := if_f b_3 hf
      refine lv_iload hx hb dX6_takeForcedOptions_64 (lv_at hl 5 rfl) ?_
      refine lv_iconst (v := 1) hx hb dX6_takeForcedOptions_66 (by decide) ?_
      refine lv_iload hx hb dX6_takeForcedOptions_67 (lv_at hl 6 rfl) ?_
      refine lv_ishl hx hb dX6_takeForcedOptions_69 ?_
      refine lv_icmp_ne (tgt := 91) hx hb dX6_takeForcedOptions_70 (by decide) (fun b_5 => ?_) (fun b_5 => ?_)
      · have hf := if_f b_5 hf
        exact j91 x3 x4 x5 k4 hk4 k19 hk19 k58 hk58 S x2 x6 _ _ _ hf hP hS (lv_sub hl [0, 1, 2, 3, 4, 5, 6] rfl)
      · have hf := if_t b_5 hf
        refine lv_aload_n hx hb dX6_takeForcedOptions_73 rfl (lv_at hl 0 rfl) ?_
        refine w_gR (z := 24) (C := RX6) (T := TX6) hx hb hts n6 hown hK hP t_23 rfl 2 (by decide) L13 rfl rfl dX6_takeForcedOptions_74 ?_
        refine lv_iload hx hb dX6_takeForcedOptions_77 (lv_at hl 4 rfl) ?_
        obtain ⟨g_6, hf⟩ := gd_inv hf
        refine w_aldC hx hb hK hP t_24 g_6 dX6_takeForcedOptions_79 ?_
        refine lv_aload_n hx hb dX6_takeForcedOptions_80 rfl (lv_at hl 1 rfl) ?_
        refine lv_iload hx hb dX6_takeForcedOptions_81 (lv_at hl 6 rfl) ?_
        obtain ⟨r_7, S_8, hc_9, hf⟩ := bo_inv hf
        refine w_ci (va_runV (As := [.ref (ad q1), .int x6]) (rest := []) ⟨hx, hb, hml, hown, hts⟩ (c_X0_take l D y ad aL aU hI n ((50 + (x4).toNatClampNeg)) (isC_of g_6) S q1 hq1 x6 _ _ hc_9) (cwV 2 hts gX6_takeForcedOptions_X0_take rfl rfl rfl (by decide +kernel) ⟨Nat.le_of_ble_eq_true rfl, Nat.le_of_ble_eq_true rfl⟩) (pwu_V (tC (isC_of g_6)) rfl hP hK hZ hS) rfl rfl hl.1 rfl (lv_room (Nat.le_of_ble_eq_true rfl)) dX6_takeForcedOptions_83 ⟨Nat.zero_le _, Nat.zero_le _⟩) hS (fun H locs hP hS => ?_)
        refine lv_if_eq (tgt := 91) hx hb dX6_takeForcedOptions_86 (by decide) (fun b_10 => ?_) (fun b_10 => ?_)
        · have hf := if_t b_10 hf
          exact j91 x3 x4 x5 k4 hk4 k19 hk19 k58 hk58 S_8 x2 x6 _ _ _ hf hP hS (lv_sub hl [0, 1, 2, 3, 4, 5, 6] rfl)
        · have hf := if_f b_10 hf
          refine lv_iconst (v := 1) hx hb dX6_takeForcedOptions_89 (by decide) ?_
          obtain ⟨x2_11, ex2_11, hf⟩ := bd_inv hf
          refine w_topI ex2_11 ?_
          refine lv_istore_n (lv' := [(2, .int x2_11), (0, .ref (ad 23)), (1, .ref (ad q1)), (3, .int x3), (4, .int x4), (5, .int x5), (6, .int x6)]) hx hb dX6_takeForcedOptions_90 rfl hl (by decide) rfl (fun ls hl => ?_)
          exact j91 x3 x4 x5 k4 hk4 k19 hk19 k58 hk58 S_8 x2_11 x6 _ _ _ hf hP hS (lv_sub hl [1, 2, 0, 3, 4, 5, 6] rfl)
  have j58 : ∀ (x3 : Int32) (x4 : Int32) (x5 : Int32) (k4 : St → Int32 → Int32 → Option (Int32 × St)) (hk4 : ∀ (S : St) (x2 : Int32) (x3 : Int32) (H : Heap) (locs : List Loc) (ls : Array Slot), k4 S x2 x3 = some (r, S2) → PW D y ad S H → va_S (AA ad) s.heap H locs → lv_has ls 7 [(0, .ref (ad 23)), (1, .ref (ad q1)), (2, .int x2), (3, .int x3)] → W p l e (headSpec wsX6_takeForcedOptions ({ frames := 3, cells := 0, slots := 0, locals := 76 })).room s m ([.ref (ad 23), .ref (ad q1)] : List Value).toArray below meth c H locs 0 0 (QI below r S2 D y ad ([.ref (ad 23), .ref (ad q1)] : List Value).toArray s) (F0 m 4 ls [])) (k19 : St → Int32 → Int32 → Option (Int32 × St)) (hk19 : ∀ (S : St) (x2 : Int32) (x4 : Int32) (H : Heap) (locs : List Loc) (ls : Array Slot), k19 S x2 x4 = some (r, S2) → PW D y ad S H → va_S (AA ad) s.heap H locs → lv_has ls 7 [(0, .ref (ad 23)), (1, .ref (ad q1)), (2, .int x2), (3, .int x3), (4, .int x4)] → W p l e (headSpec wsX6_takeForcedOptions ({ frames := 3, cells := 0, slots := 0, locals := 76 })).room s m ([.ref (ad 23), .ref (ad q1)] : List Value).toArray below meth c H locs 0 0 (QI below r S2 D y ad ([.ref (ad 23), .ref (ad q1)] : List Value).toArray s) (F0 m 19 ls [])) (fu : Nat), ∀ (S : St) (x2 : Int32) (x6 : Int32) (H : Heap) (locs : List Loc) (ls : Array Slot), fixF (fun _ _ _ => none) (f_X6_takeForcedOptions_58 n q1 x3 x4 x5 k4 k19) fu S x2 x6 = some (r, S2) → PW D y ad S H → va_S (AA ad) s.heap H locs → lv_has ls 7 [(0, .ref (ad 23)), (1, .ref (ad q1)), (2, .int x2), (3, .int x3), (4, .int x4), (5, .int x5), (6, .int x6)] → W p l e (headSpec wsX6_takeForcedOptions ({ frames := 3, cells := 0, slots := 0, locals := 76 })).room s m ([.ref (ad 23), .ref (ad q1)] : List Value).toArray below meth c H locs 0 0 (QI below r S2 D y ad ([.ref (ad 23), .ref (ad q1)] : List Value).toArray s) (F0 m 58 ls []) := by
    intro x3 x4 x5 k4 hk4 k19 hk19 fu
    induction fu with
    | zero => intro S x2 x6 H locs ls hf hP hS hl; cases hf
    | succ fu ih => exact b58 x3 x4 x5 k4 hk4 k19 hk19 (fixF (fun _ _ _ => none) (f_X6_takeForcedOptions_58 n q1 x3 x4 x5 k4 k19) fu) ih
  have b19 : ∀ (x3 : Int32) (k4 : St → Int32 → Int32 → Option (Int32 × St)) (hk4 : ∀ (S : St) (x2 : Int32) (x3 : Int32) (H : Heap) (locs : List Loc) (ls : Array Slot), k4 S x2 x3 = some (r, S2) → PW D y ad S H → va_S (AA ad) s.heap H locs → lv_has ls 7 [(0, .ref (ad 23)), (1, .ref (ad q1)), (2, .int x2), (3, .int x3)] → W p l e (headSpec wsX6_takeForcedOptions ({ frames := 3, cells := 0, slots := 0, locals := 76 })).room s m ([.ref (ad 23), .ref (ad q1)] : List Value).toArray below meth c H locs 0 0 (QI below r S2 D y ad ([.ref (ad 23), .ref (ad q1)] : List Value).toArray s) (F0 m 4 ls [])) (k19 : St → Int32 → Int32 → Option (Int32 × St)) (hk19 : ∀ (S : St) (x2 : Int32) (x4 : Int32) (H : Heap) (locs : List Loc) (ls : Array Slot), k19 S x2 x4 = some (r, S2) → PW D y ad S H → va_S (AA ad) s.heap H locs → lv_has ls 7 [(0, .ref (ad 23)), (1, .ref (ad q1)), (2, .int x2), (3, .int x3), (4, .int x4)] → W p l e (headSpec wsX6_takeForcedOptions ({ frames := 3, cells := 0, slots := 0, locals := 76 })).room s m ([.ref (ad 23), .ref (ad q1)] : List Value).toArray below meth c H locs 0 0 (QI below r S2 D y ad ([.ref (ad 23), .ref (ad q1)] : List Value).toArray s) (F0 m 19 ls [])), ∀ (S : St) (x2 : Int32) (x4 : Int32) (H : Heap) (locs : List Loc) (ls : Array Slot), f_X6_takeForcedOptions_19 n q1 x3 k4 k19 S x2 x4 = some (r, S2) → PW D y ad S H → va_S (AA ad) s.heap H locs → lv_has ls 7 [(0, .ref (ad 23)), (1, .ref (ad q1)), (2, .int x2), (3, .int x3), (4, .int x4)] → W p l e (headSpec wsX6_takeForcedOptions ({ frames := 3, cells := 0, slots := 0, locals := 76 })).room s m ([.ref (ad 23), .ref (ad q1)] : List Value).toArray below meth c H locs 0 0 (QI below r S2 D y ad ([.ref (ad 23), .ref (ad q1)] : List Value).toArray s) (F0 m 19 ls []) := by
    intro x3 k4 hk4 k19 hk19 S x2 x4 H locs ls hf hP hS hl
    unfold f_X6_takeForcedOptions_19 at hf
    refine lv_iload hx hb dX6_takeForcedOptions_19 (lv_at hl 4 rfl) ?_
    refine lv_aload_n hx hb dX6_takeForcedOptions_21 rfl (lv_at hl 0 rfl) ?_
    refine w_gI (C := RX6) (T := TX6) hx hb hts n6 hown hK hP t_23 rfl 3 (by decide) L37 rfl dX6_takeForcedOptions_22 ?_
    refine lv_icmp_ge (tgt := 103) hx hb dX6_takeForcedOptions_25 (by decide) (fun b_12 => ?_) (fun b_12 => ?_)
    · have hf := if_t b_12 hf
      exact j103  k4 hk4 S x2 x3 _ _ _ hf hP hS (lv_sub hl [0, 1, 2, 3] rfl)
    · have hf := if_f b_12 hf
      refine lv_iload hx hb dX6_takeForcedOptions_28 (lv_at hl 4 rfl) ?_
      refine lv_bipush (v := (22)) hx hb dX6_takeForcedOptions_30 (by decide) ?_
      refine lv_icmp_ge (tgt := 103) hx hb dX6_takeForcedOptions_32 (by decide) (fun b_13 => ?_) (fun b_13 => ?_)
      · have hf := if_t b_13 hf
        exact j103  k4 hk4 S x2 x3 _ _ _ hf hP hS (lv_sub hl [0, 1, 2, 3] rfl)
      · have hf := if_f b_13 hf
        refine lv_aload_n hx hb dX6_takeForcedOptions_35 rfl (lv_at hl 0 rfl) ?_
        refine w_gR (z := 24) (C := RX6) (T := TX6) hx hb hts n6 hown hK hP t_23 rfl 2 (by decide) L13 rfl rfl dX6_takeForcedOptions_36 ?_
        refine lv_iload hx hb dX6_takeForcedOptions_39 (lv_at hl 4 rfl) ?_
        obtain ⟨g_14, hf⟩ := gd_inv hf
        refine w_aldC hx hb hK hP t_24 g_14 dX6_takeForcedOptions_41 ?_
        refine lv_aload_n hx hb dX6_takeForcedOptions_42 rfl (lv_at hl 1 rfl) ?_
        obtain ⟨r_15, S_16, hc_17, hf⟩ := bo_inv hf
        refine w_ci (va_runV (As := [.ref (ad q1)]) (rest := []) ⟨hx, hb, hml, hown, hts⟩ (c_X0_openOptions l D y ad aL aU hI n ((50 + (x4).toNatClampNeg)) (isC_of g_14) S q1 hq1 _ _ hc_17) (cwV 1 hts gX6_takeForcedOptions_X0_openOptions rfl rfl rfl (by decide +kernel) ⟨Nat.le_of_ble_eq_true rfl, Nat.le_of_ble_eq_true rfl⟩) (pwu_V (tC (isC_of g_14)) rfl hP hK hZ hS) rfl rfl hl.1 rfl (lv_room (Nat.le_of_ble_eq_true rfl)) dX6_takeForcedOptions_43 ⟨Nat.zero_le _, Nat.zero_le _⟩) hS (fun H locs hP hS => ?_)
        obtain ⟨x5_18, ex5_18, hf⟩ := bd_inv hf
        refine w_topI ex5_18 ?_
        refine lv_istore (lv' := [(5, .int x5_18), (0, .ref (ad 23)), (1, .ref (ad q1)), (2, .int x2), (3, .int x3), (4, .int x4)]) hx hb dX6_takeForcedOptions_46 hl (by decide) rfl (fun ls hl => ?_)
        refine lv_iload hx hb dX6_takeForcedOptions_48 (lv_at hl 0 rfl) ?_
        refine lv_if_ne (tgt := 55) hx hb dX6_takeForcedOptions_50 (by decide) (fun b_19 => ?_) (fun b_19 => ?_)
        · have hf := if_f b_19 hf
          refine lv_iconst (v := 0) hx hb dX6_takeForcedOptions_55 (by decide) ?_
          obtain ⟨x6_20, ex6_20, hf⟩ := bd_inv hf
          refine w_topI ex6_20 ?_
          refine lv_istore (lv' := [(6, .int x6_20), (5, .int x5_18), (0, .ref (ad 23)), (1, .ref (ad q1)), (2, .int x2), (3, .int x3), (4, .int x4)]) hx hb dX6_takeForcedOptions_56 hl (by decide) rfl (fun ls hl => ?_)
          exact j58 x3 x4 x5_18 k4 hk4 k19 hk19 n S_16 x2 x6_20 _ _ _ hf hP hS (lv_sub hl [2, 3, 4, 5, 6, 1, 0] rfl)
        · have hf := if_t b_19 hf
          refine lv_iconst (v := 0) hx hb dX6_takeForcedOptions_53 (by decide) ?_
          exact w_zret hx hb hr hlocks (fun h => h (by decide)) hP hS (rt_inv hf) dX6_takeForcedOptions_54
  have j19 : ∀ (x3 : Int32) (k4 : St → Int32 → Int32 → Option (Int32 × St)) (hk4 : ∀ (S : St) (x2 : Int32) (x3 : Int32) (H : Heap) (locs : List Loc) (ls : Array Slot), k4 S x2 x3 = some (r, S2) → PW D y ad S H → va_S (AA ad) s.heap H locs → lv_has ls 7 [(0, .ref (ad 23)), (1, .ref (ad q1)), (2, .int x2), (3, .int x3)] → W p l e (headSpec wsX6_takeForcedOptions ({ frames := 3, cells := 0, slots := 0, locals := 76 })).room s m ([.ref (ad 23), .ref (ad q1)] : List Value).toArray below meth c H locs 0 0 (QI below r S2 D y ad ([.ref (ad 23), .ref (ad q1)] : List Value).toArray s) (F0 m 4 ls [])) (fu : Nat), ∀ (S : St) (x2 : Int32) (x4 : Int32) (H : Heap) (locs : List Loc) (ls : Array Slot), fixF (fun _ _ _ => none) (f_X6_takeForcedOptions_19 n q1 x3 k4) fu S x2 x4 = some (r, S2) → PW D y ad S H → va_S (AA ad) s.heap H locs → lv_has ls 7 [(0, .ref (ad 23)), (1, .ref (ad q1)), (2, .int x2), (3, .int x3), (4, .int x4)] → W p l e (headSpec wsX6_takeForcedOptions ({ frames := 3, cells := 0, slots := 0, locals := 76 })).room s m ([.ref (ad 23), .ref (ad q1)] : List Value).toArray below meth c H locs 0 0 (QI below r S2 D y ad ([.ref (ad 23), .ref (ad q1)] : List Value).toArray s) (F0 m 19 ls []) := by
    intro x3 k4 hk4 fu
    induction fu with
    | zero => intro S x2 x4 H locs ls hf hP hS hl; cases hf
    | succ fu ih => exact b19 x3 k4 hk4 (fixF (fun _ _ _ => none) (f_X6_takeForcedOptions_19 n q1 x3 k4) fu) ih
  have b4 : ∀ (k4 : St → Int32 → Int32 → Option (Int32 × St)) (hk4 : ∀ (S : St) (x2 : Int32) (x3 : Int32) (H : Heap) (locs : List Loc) (ls : Array Slot), k4 S x2 x3 = some (r, S2) → PW D y ad S H → va_S (AA ad) s.heap H locs → lv_has ls 7 [(0, .ref (ad 23)), (1, .ref (ad q1)), (2, .int x2), (3, .int x3)] → W p l e (headSpec wsX6_takeForcedOptions ({ frames := 3, cells := 0, slots := 0, locals := 76 })).room s m ([.ref (ad 23), .ref (ad q1)] : List Value).toArray below meth c H locs 0 0 (QI below r S2 D y ad ([.ref (ad 23), .ref (ad q1)] : List Value).toArray s) (F0 m 4 ls [])), ∀ (S : St) (x2 : Int32) (x3 : Int32) (H : Heap) (locs : List Loc) (ls : Array Slot), f_X6_takeForcedOptions_4 n q1 k4 S x2 x3 = some (r, S2) → PW D y ad S H → va_S (AA ad) s.heap H locs → lv_has ls 7 [(0, .ref (ad 23)), (1, .ref (ad q1)), (2, .int x2), (3, .int x3)] → W p l e (headSpec wsX6_takeForcedOptions ({ frames := 3, cells := 0, slots := 0, locals := 76 })).room s m ([.ref (ad 23), .ref (ad q1)] : List Value).toArray below meth c H locs 0 0 (QI below r S2 D y ad ([.ref (ad 23), .ref (ad q1)] : List Value).toArray s) (F0 m 4 ls []) := by
    intro  k4 hk4 S x2 x3 H locs ls hf hP hS hl
    unfold f_X6_takeForcedOptions_4 at hf
    refine lv_iload_n hx hb dX6_takeForcedOptions_4 rfl (lv_at hl 3 rfl) ?_
    refine lv_bipush (v := (22)) hx hb dX6_takeForcedOptions_5 (by decide) ?_
    refine lv_icmp_gt (tgt := 109) hx hb dX6_takeForcedOptions_7 (by decide) (fun b_21 => ?_) (fun b_21 => ?_)
    · have hf := if_t b_21 hf
      refine lv_iconst (v := 1) hx hb dX6_takeForcedOptions_109 (by decide) ?_
      exact w_zret hx hb hr hlocks (fun h => h (by decide)) hP hS (rt_inv hf) dX6_takeForcedOptions_110
    · have hf := if_f b_21 hf
      refine lv_iload_n hx hb dX6_takeForcedOptions_10 rfl (lv_at hl 2 rfl) ?_
      refine lv_if_eq (tgt := 109) hx hb dX6_takeForcedOptions_11 (by decide) (fun b_22 => ?_) (fun b_22 => ?_)
      · have hf := if_t b_22 hf
        refine lv_iconst (v := 1) hx hb dX6_takeForcedOptions_109 (by decide) ?_
        exact w_zret hx hb hr hlocks (fun h => h (by decide)) hP hS (rt_inv hf) dX6_takeForcedOptions_110
      · have hf := if_f b_22 hf
        refine lv_iconst (v := 0) hx hb dX6_takeForcedOptions_14 (by decide) ?_
        obtain ⟨x2_23, ex2_23, hf⟩ := bd_inv hf
        refine w_topI ex2_23 ?_
        refine lv_istore_n (lv' := [(2, .int x2_23), (0, .ref (ad 23)), (1, .ref (ad q1)), (3, .int x3)]) hx hb dX6_takeForcedOptions_15 rfl hl (by decide) rfl (fun ls hl => ?_)
        refine lv_iconst (v := 0) hx hb dX6_takeForcedOptions_16 (by decide) ?_
        obtain ⟨x4_24, ex4_24, hf⟩ := bd_inv hf
        refine w_topI ex4_24 ?_
        refine lv_istore (lv' := [(4, .int x4_24), (2, .int x2_23), (0, .ref (ad 23)), (1, .ref (ad q1)), (3, .int x3)]) hx hb dX6_takeForcedOptions_17 hl (by decide) rfl (fun ls hl => ?_)
        exact j19 x3 k4 hk4 n S x2_23 x4_24 _ _ _ hf hP hS (lv_sub hl [2, 3, 1, 4, 0] rfl)
  have j4 : ∀ (fu : Nat), ∀ (S : St) (x2 : Int32) (x3 : Int32) (H : Heap) (locs : List Loc) (ls : Array Slot), fixF (fun _ _ _ => none) (f_X6_takeForcedOptions_4 n q1) fu S x2 x3 = some (r, S2) → PW D y ad S H → va_S (AA ad) s.heap H locs → lv_has ls 7 [(0, .ref (ad 23)), (1, .ref (ad q1)), (2, .int x2), (3, .int x3)] → W p l e (headSpec wsX6_takeForcedOptions ({ frames := 3, cells := 0, slots := 0, locals := 76 })).room s m ([.ref (ad 23), .ref (ad q1)] : List Value).toArray below meth c H locs 0 0 (QI below r S2 D y ad ([.ref (ad 23), .ref (ad q1)] : List Value).toArray s) (F0 m 4 ls []) := by
    intro   fu
    induction fu with
    | zero => intro S x2 x3 H locs ls hf hP hS hl; cases hf
    | succ fu ih => exact b4   (fixF (fun _ _ _ => none) (f_X6_takeForcedOptions_4 n q1) fu) ih
  unfold f_X6_takeForcedOptions at hf
  refine lv_iconst (v := 1) hx hb dX6_takeForcedOptions_0 (by decide) ?_
  obtain ⟨x2_25, ex2_25, hf⟩ := bd_inv hf
  refine w_topI ex2_25 ?_
  refine lv_istore_n (lv' := [(2, .int x2_25), (0, .ref (ad 23)), (1, .ref (ad q1))]) hx hb dX6_takeForcedOptions_1 rfl hl (by decide) rfl (fun ls hl => ?_)
  refine lv_iconst (v := 0) hx hb dX6_takeForcedOptions_2 (by decide) ?_
  obtain ⟨x3_26, ex3_26, hf⟩ := bd_inv hf
  refine w_topI ex3_26 ?_
  refine lv_istore_n (lv' := [(3, .int x3_26), (2, .int x2_25), (0, .ref (ad 23)), (1, .ref (ad q1))]) hx hb dX6_takeForcedOptions_3 rfl hl (by decide) rfl (fun ls hl => ?_)
  exact j4   n S x2_25 x3_26 _ _ _ hf hP hS (lv_sub hl [2, 3, 1, 0] rfl)
set_option maxHeartbeats 4000000 in
set_option maxRecDepth 100000 in
theorem c_J6_bitCount_0f7a4 (l : Launch) (D : va_G) (y : y4) (ad : Nat → Nat) (aL aU : Nat) (hI : Inj ad) (n : Nat) (S : St) (a0 : Int32) (r : Int32) (S2 : St) (hf : f_J6_bitCount_0f7a4 n S a0 = some (r, S2)) : KI l D y ad aL aU yJ6_bitCount_0f7a4 wsJ6_bitCount_0f7a4 ({ frames := 1, cells := 0, slots := 0, locals := 20 }) [.int a0] S r S2 := by
  refine Met.ofW (cc := cJ6_bitCount_0f7a4) (maxL := 1) (ret := (some .int)) (by decide) rfl ?_
  intro p e s m args below meth c s₁ B hml hv
  obtain ⟨rfl, hP, hK, hZ⟩ := hv
  have hx := B.exec
  have hb := B.bytes
  have hr := B.returns
  have hts := atoms_spec (ws := wsJ6_bitCount_0f7a4) B.pre
  have hown : s.vm.findClass RJ6 = some m.cls := findClass_of_methodNamed B.named
  have hlocks := B.notSynchronized
  have hS : va_S (AA ad) s.heap s.heap [] := va_S.rf
  have K265 := hts (.constant RJ6 265 (1431655765)) (by decide +kernel)
  have K266 := hts (.constant RJ6 266 (858993459)) (by decide +kernel)
  have K267 := hts (.constant RJ6 267 (252645135)) (by decide +kernel)
  have hl := lv_entry ([.int a0]) (n := 1) (Nat.le_of_ble_eq_true rfl)
  rw [lg_entry_eq]
  generalize (lg_sl ([.int a0]) ++ List.replicate (1 - (lg_sl ([.int a0])).length) Slot.unset).toArray = ls at hl ⊢
  have hl : lv_has ls 1 [(0, .int a0)] := hl
  unfold f_J6_bitCount_0f7a4 at hf
  refine lv_iload_n hx hb dJ6_bitCount_0f7a4_0 rfl (lv_at hl 0 rfl) ?_
  refine lv_iload_n hx hb dJ6_bitCount_0f7a4_1 rfl (lv_at hl 0 rfl) ?_
  refine lv_iconst (v := 1) hx hb dJ6_bitCount_0f7a4_2 (by decide) ?_
  refine lv_iushr (v := ((a0).toUInt32 >>> (((1 : Int32)).toUInt32 &&& Int32.toUInt32 31)).toInt32) hx hb dJ6_bitCount_0f7a4_3 rfl ?_
  refine lv_ldcw (v := (1431655765)) hx hb hown K265 dJ6_bitCount_0f7a4_4 ?_
  refine lv_iand hx hb dJ6_bitCount_0f7a4_7 ?_
  refine lv_isub hx hb dJ6_bitCount_0f7a4_8 ?_
  obtain ⟨x0_1, ex0_1, hf⟩ := bd_inv hf
  refine w_topI ex0_1 ?_
  refine lv_istore_n (lv' := [(0, .int x0_1)]) hx hb dJ6_bitCount_0f7a4_9 rfl hl (by decide) rfl (fun ls hl => ?_)
  refine lv_iload_n hx hb dJ6_bitCount_0f7a4_10 rfl (lv_at hl 0 rfl) ?_
  refine lv_ldcw (v := (858993459)) hx hb hown K266 dJ6_bitCount_0f7a4_11 ?_
  refine lv_iand hx hb dJ6_bitCount_0f7a4_14 ?_
  refine lv_iload_n hx hb dJ6_bitCount_0f7a4_15 rfl (lv_at hl 0 rfl) ?_
  refine lv_iconst (v := 2) hx hb dJ6_bitCount_0f7a4_16 (by decide) ?_
  refine lv_iushr (v := ((x0_1).toUInt32 >>> (((2 : Int32)).toUInt32 &&& Int32.toUInt32 31)).toInt32) hx hb dJ6_bitCount_0f7a4_17 rfl ?_
  refine lv_ldcw (v := (858993459)) hx hb hown K266 dJ6_bitCount_0f7a4_18 ?_
  refine lv_iand hx hb dJ6_bitCount_0f7a4_21 ?_
  refine lv_iadd hx hb dJ6_bitCount_0f7a4_22 ?_
  obtain ⟨x0_2, ex0_2, hf⟩ := bd_inv hf
  refine w_topI ex0_2 ?_
  refine lv_istore_n (lv' := [(0, .int x0_2)]) hx hb dJ6_bitCount_0f7a4_23 rfl hl (by decide) rfl (fun ls hl => ?_)
  refine lv_iload_n hx hb dJ6_bitCount_0f7a4_24 rfl (lv_at hl 0 rfl) ?_
  refine lv_iload_n hx hb dJ6_bitCount_0f7a4_25 rfl (lv_at hl 0 rfl) ?_
  refine lv_iconst (v := 4) hx hb dJ6_bitCount_0f7a4_26 (by decide) ?_
  refine lv_iushr (v := ((x0_2).toUInt32 >>> (((4 : Int32)).toUInt32 &&& Int32.toUInt32 31)).toInt32) hx hb dJ6_bitCount_0f7a4_27 rfl ?_
  refine lv_iadd hx hb dJ6_bitCount_0f7a4_28 ?_
  refine lv_ldcw (v := (252645135)) hx hb hown K267 dJ6_bitCount_0f7a4_29 ?_
  refine lv_iand hx hb dJ6_bitCount_0f7a4_32 ?_
  obtain ⟨x0_3, ex0_3, hf⟩ := bd_inv hf
  refine w_topI ex0_3 ?_
  refine lv_istore_n (lv' := [(0, .int x0_3)]) hx hb dJ6_bitCount_0f7a4_33 rfl hl (by decide) rfl (fun ls hl => ?_)
  refine lv_iload_n hx hb dJ6_bitCount_0f7a4_34 rfl (lv_at hl 0 rfl) ?_
  refine lv_iload_n hx hb dJ6_bitCount_0f7a4_35 rfl (lv_at hl 0 rfl) ?_
  refine lv_bipush (v := (8)) hx hb dJ6_bitCount_0f7a4_36 (by decide) ?_
  refine lv_iushr (v := ((x0_3).toUInt32 >>> (((8 : Int32)).toUInt32 &&& Int32.toUInt32 31)).toInt32) hx hb dJ6_bitCount_0f7a4_38 rfl ?_
  refine lv_iadd hx hb dJ6_bitCount_0f7a4_39 ?_
  obtain ⟨x0_4, ex0_4, hf⟩ := bd_inv hf
  refine w_topI ex0_4 ?_
  refine lv_istore_n (lv' := [(0, .int x0_4)]) hx hb dJ6_bitCount_0f7a4_40 rfl hl (by decide) rfl (fun ls hl => ?_)
  refine lv_iload_n hx hb dJ6_bitCount_0f7a4_41 rfl (lv_at hl 0 rfl) ?_
  refine lv_iload_n hx hb dJ6_bitCount_0f7a4_42 rfl (lv_at hl 0 rfl) ?_
  refine lv_bipush (v := (16)) hx hb dJ6_bitCount_0f7a4_43 (by decide) ?_
  refine lv_iushr (v := ((x0_4).toUInt32 >>> (((16 : Int32)).toUInt32 &&& Int32.toUInt32 31)).toInt32) hx hb dJ6_bitCount_0f7a4_45 rfl ?_
  refine lv_iadd hx hb dJ6_bitCount_0f7a4_46 ?_
  obtain ⟨x0_5, ex0_5, hf⟩ := bd_inv hf
  refine w_topI ex0_5 ?_
  refine lv_istore_n (lv' := [(0, .int x0_5)]) hx hb dJ6_bitCount_0f7a4_47 rfl hl (by decide) rfl (fun ls hl => ?_)
  refine lv_iload_n hx hb dJ6_bitCount_0f7a4_48 rfl (lv_at hl 0 rfl) ?_
  refine lv_bipush (v := (63)) hx hb dJ6_bitCount_0f7a4_49 (by decide) ?_
  refine lv_iand hx hb dJ6_bitCount_0f7a4_51 ?_
  exact w_iret hx hb hr hlocks hP hS (rt_inv hf) dJ6_bitCount_0f7a4_52
