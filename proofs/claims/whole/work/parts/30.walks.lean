set_option maxHeartbeats 4000000 in
set_option maxRecDepth 100000 in
theorem c_X9_findsSplit (l : Launch) (D : va_G) (y : y4) (ad : Nat → Nat) (aL aU : Nat) (hI : Inj ad) (n : Nat) (S : St) (a1 : Int32) (r : Int32) (S2 : St) (hf : f_X9_findsSplit n S a1 = some (r, S2)) : KI l D y ad aL aU yX9_findsSplit wsX9_findsSplit ({ frames := 3, cells := 0, slots := 0, locals := 67 }) [.ref (ad 28), .int a1] S r S2 := by
  refine Met.ofW (cc := cX9_findsSplit) (maxL := 4) (ret := (some .boolean)) (by decide) rfl ?_
  intro p e s m args below meth c s₁ B hml hv
  obtain ⟨rfl, hP, hK, hZ⟩ := hv
  have hx := B.exec
  have hb := B.bytes
  have hr := B.returns
  have hts := atoms_spec (ws := wsX9_findsSplit) B.pre
  have hown : s.vm.findClass RX9 = some m.cls := findClass_of_methodNamed B.named
  have hlocks := B.notSynchronized
  have hS : va_S (AA ad) s.heap s.heap [] := va_S.rf
  have L19 := hts (.fieldLink RX9 19 "JoinedTheoriesModel" "sortOf" "[I") (by decide +kernel)
  have L37 := hts (.fieldLink RX9 37 "JoinedTheoriesModel" "leftOf" "[I") (by decide +kernel)
  have L40 := hts (.fieldLink RX9 40 "JoinedTheoriesModel" "rightOf" "[I") (by decide +kernel)
  have L133 := hts (.fieldLink RX9 133 "JoinedTheoriesModel" "terms" "I") (by decide +kernel)
  have L141 := hts (.fieldLink RX9 141 "JoinedTheoriesModel" "literals" "I") (by decide +kernel)
  have L221 := hts (.fieldLink RX9 221 "JoinedTheoriesModel" "some" "I") (by decide +kernel)
  have L233 := hts (.fieldLink RX9 233 "JoinedTheoriesModel" "moreSort" "I") (by decide +kernel)
  have L236 := hts (.fieldLink RX9 236 "JoinedTheoriesModel" "moreLeft" "I") (by decide +kernel)
  have L239 := hts (.fieldLink RX9 239 "JoinedTheoriesModel" "moreRight" "I") (by decide +kernel)
  have L256 := hts (.fieldLink RX9 256 "JoinedTheoriesModel" "otherLeft" "I") (by decide +kernel)
  have L259 := hts (.fieldLink RX9 259 "JoinedTheoriesModel" "otherRight" "I") (by decide +kernel)
  have K140 := hts (.constant RX9 140 (-2000000001)) (by decide +kernel)
  have n9 : ∀ w ∈ wsX90, w ∈ wsX9_findsSplit := by decide +kernel
  have hl := lv_entry ([.ref (ad 28), .int a1]) (n := 4) (Nat.le_of_ble_eq_true rfl)
  rw [lg_entry_eq]
  generalize (lg_sl ([.ref (ad 28), .int a1]) ++ List.replicate (4 - (lg_sl ([.ref (ad 28), .int a1])).length) Slot.unset).toArray = ls at hl ⊢
  have hl : lv_has ls 4 [(0, .ref (ad 28)), (1, .int a1)] := hl
  have b167 : ∀ (x1 : Int32) (x2 : Int32) (k157 : St → Int32 → Option (Int32 × St)) (hk157 : ∀ (S : St) (x2 : Int32) (H : Heap) (locs : List Loc) (ls : Array Slot), k157 S x2 = some (r, S2) → PW D y ad S H → va_S (AA ad) s.heap H locs → lv_has ls 4 [(0, .ref (ad 28)), (1, .int x1), (2, .int x2)] → W p l e (headSpec wsX9_findsSplit ({ frames := 3, cells := 0, slots := 0, locals := 67 })).room s m ([.ref (ad 28), .int a1] : List Value).toArray below meth c H locs 0 0 (QI below r S2 D y ad ([.ref (ad 28), .int a1] : List Value).toArray s) (F0 m 157 ls [])) (k167 : St → Int32 → Option (Int32 × St)) (hk167 : ∀ (S : St) (x3 : Int32) (H : Heap) (locs : List Loc) (ls : Array Slot), k167 S x3 = some (r, S2) → PW D y ad S H → va_S (AA ad) s.heap H locs → lv_has ls 4 [(0, .ref (ad 28)), (1, .int x1), (2, .int x2), (3, .int x3)] → W p l e (headSpec wsX9_findsSplit ({ frames := 3, cells := 0, slots := 0, locals := 67 })).room s m ([.ref (ad 28), .int a1] : List Value).toArray below meth c H locs 0 0 (QI below r S2 D y ad ([.ref (ad 28), .int a1] : List Value).toArray s) (F0 m 167 ls [])), ∀ (S : St) (x3 : Int32) (H : Heap) (locs : List Loc) (ls : Array Slot), f_X9_findsSplit_167 n x1 x2 k157 k167 S x3 = some (r, S2) → PW D y ad S H → va_S (AA ad) s.heap H locs → lv_has ls 4 [(0, .ref (ad 28)), (1, .int x1), (2, .int x2), (3, .int x3)] → W p l e (headSpec wsX9_findsSplit ({ frames := 3, cells := 0, slots := 0, locals := 67 })).room s m ([.ref (ad 28), .int a1] : List Value).toArray below meth c H locs 0 0 (QI below r S2 D y ad ([.ref (ad 28), .int a1] : List Value).toArray s) (F0 m 167 ls []) := by
    intro x1 x2 k157 hk157 k167 hk167 S x3 H locs ls hf hP hS hl
    unfold f_X9_findsSplit_167 at hf
    refine lv_iload_n hx hb dX9_findsSplit_167 rfl (lv_at hl 3 rfl) ?_
    refine lv_iload_n hx hb dX9_findsSplit_168 rfl (lv_at hl 2 rfl) ?_
    refine lv_icmp_ge (tgt := 197) hx hb dX9_findsSplit_169 (by decide) (fun b_1 => ?_) (fun b_1 => ?_)
    · have hf := if_t b_1 hf
      obtain ⟨x2_2, ex2_2, hf⟩ := bd_inv hf
      refine lv_iinc (v := x2_2) (lv' := [(2, .int x2_2), (0, .ref (ad 28)), (1, .int x1), (3, .int x3)]) hx hb dX9_findsSplit_197 hl (k := 2) rfl (by rw [ex2_2]; rfl) (by decide) rfl (fun ls hl => ?_)
      refine lv_goto (tgt := 157) hx hb dX9_findsSplit_200 (by decide) ?_
      exact hk157 S x2_2 _ _ _ hf hP hS (lv_sub hl [1, 2, 0] rfl)
    · have hf := if_f b_1 hf
      refine lv_aload_n hx hb dX9_findsSplit_172 rfl (lv_at hl 0 rfl) ?_
      refine lv_iload_n hx hb dX9_findsSplit_173 rfl (lv_at hl 1 rfl) ?_
      refine lv_iload_n hx hb dX9_findsSplit_174 rfl (lv_at hl 2 rfl) ?_
      refine lv_iload_n hx hb dX9_findsSplit_175 rfl (lv_at hl 3 rfl) ?_
      obtain ⟨r_3, S_4, hc_5, hf⟩ := bo_inv hf
      refine w_ci (va_runV (As := [.int x1, .int x2, .int x3]) (rest := []) ⟨hx, hb, hml, hown, hts⟩ (c_X9_isBroken l D y ad aL aU hI n S x1 x2 x3 _ _ hc_5) (cwV 3 hts gX9_findsSplit_X9_isBroken rfl rfl rfl (by decide +kernel) ⟨Nat.le_of_ble_eq_true rfl, Nat.le_of_ble_eq_true rfl⟩) (pwu_V t_28 rfl hP hK hZ hS) rfl rfl hl.1 rfl (lv_room (Nat.le_of_ble_eq_true rfl)) dX9_findsSplit_176 ⟨Nat.zero_le _, Nat.zero_le _⟩) hS (fun H locs hP hS => ?_)
      refine lv_if_eq (tgt := 191) hx hb dX9_findsSplit_179 (by decide) (fun b_6 => ?_) (fun b_6 => ?_)
      · have hf := if_t b_6 hf
        obtain ⟨x3_7, ex3_7, hf⟩ := bd_inv hf
        refine lv_iinc (v := x3_7) (lv' := [(3, .int x3_7), (0, .ref (ad 28)), (1, .int x1), (2, .int x2)]) hx hb dX9_findsSplit_191 hl (k := 3) rfl (by rw [ex3_7]; rfl) (by decide) rfl (fun ls hl => ?_)
        refine lv_goto (tgt := 167) hx hb dX9_findsSplit_194 (by decide) ?_
        exact hk167 S_4 x3_7 _ _ _ hf hP hS (lv_sub hl [1, 2, 3, 0] rfl)
      · have hf := if_f b_6 hf
        refine lv_aload_n hx hb dX9_findsSplit_182 rfl (lv_at hl 0 rfl) ?_
        refine lv_iload_n hx hb dX9_findsSplit_183 rfl (lv_at hl 1 rfl) ?_
        refine lv_iconst (v := 1) hx hb dX9_findsSplit_184 (by decide) ?_
        refine lv_iload_n hx hb dX9_findsSplit_185 rfl (lv_at hl 2 rfl) ?_
        refine lv_iload_n hx hb dX9_findsSplit_186 rfl (lv_at hl 3 rfl) ?_
        obtain ⟨r_8, S_9, hc_10, hf⟩ := bo_inv hf
        refine w_ci (va_runV (As := [.int x1, .int (1 : Int32), .int x2, .int x3]) (rest := []) ⟨hx, hb, hml, hown, hts⟩ (c_X9_splits l D y ad aL aU hI n S_4 x1 (1 : Int32) x2 x3 _ _ hc_10) (cwV 4 hts gX9_findsSplit_X9_splits rfl rfl rfl (by decide +kernel) ⟨Nat.le_of_ble_eq_true rfl, Nat.le_of_ble_eq_true rfl⟩) (pwu_V t_28 rfl hP hK hZ hS) rfl rfl hl.1 rfl (lv_room (Nat.le_of_ble_eq_true rfl)) dX9_findsSplit_187 ⟨Nat.zero_le _, Nat.zero_le _⟩) hS (fun H locs hP hS => ?_)
        obtain ⟨g_11, hf⟩ := gd_inv hf
        exact w_zret hx hb hr hlocks g_11 hP hS (rt_inv hf) dX9_findsSplit_190
  have j167 : ∀ (x1 : Int32) (x2 : Int32) (k157 : St → Int32 → Option (Int32 × St)) (hk157 : ∀ (S : St) (x2 : Int32) (H : Heap) (locs : List Loc) (ls : Array Slot), k157 S x2 = some (r, S2) → PW D y ad S H → va_S (AA ad) s.heap H locs → lv_has ls 4 [(0, .ref (ad 28)), (1, .int x1), (2, .int x2)] → W p l e (headSpec wsX9_findsSplit ({ frames := 3, cells := 0, slots := 0, locals := 67 })).room s m ([.ref (ad 28), .int a1] : List Value).toArray below meth c H locs 0 0 (QI below r S2 D y ad ([.ref (ad 28), .int a1] : List Value).toArray s) (F0 m 157 ls [])) (fu : Nat), ∀ (S : St) (x3 : Int32) (H : Heap) (locs : List Loc) (ls : Array Slot), fixF (fun _ _ => none) (f_X9_findsSplit_167 n x1 x2 k157) fu S x3 = some (r, S2) → PW D y ad S H → va_S (AA ad) s.heap H locs → lv_has ls 4 [(0, .ref (ad 28)), (1, .int x1), (2, .int x2), (3, .int x3)] → W p l e (headSpec wsX9_findsSplit ({ frames := 3, cells := 0, slots := 0, locals := 67 })).room s m ([.ref (ad 28), .int a1] : List Value).toArray below meth c H locs 0 0 (QI below r S2 D y ad ([.ref (ad 28), .int a1] : List Value).toArray s) (F0 m 167 ls []) := by
    intro x1 x2 k157 hk157 fu
    induction fu with
    | zero => intro S x3 H locs ls hf hP hS hl; cases hf
    | succ fu ih => exact b167 x1 x2 k157 hk157 (fixF (fun _ _ => none) (f_X9_findsSplit_167 n x1 x2 k157) fu) ih
  have b157 : ∀ (x1 : Int32) (k157 : St → Int32 → Option (Int32 × St)) (hk157 : ∀ (S : St) (x2 : Int32) (H : Heap) (locs : List Loc) (ls : Array Slot), k157 S x2 = some (r, S2) → PW D y ad S H → va_S (AA ad) s.heap H locs → lv_has ls 4 [(0, .ref (ad 28)), (1, .int x1), (2, .int x2)] → W p l e (headSpec wsX9_findsSplit ({ frames := 3, cells := 0, slots := 0, locals := 67 })).room s m ([.ref (ad 28), .int a1] : List Value).toArray below meth c H locs 0 0 (QI below r S2 D y ad ([.ref (ad 28), .int a1] : List Value).toArray s) (F0 m 157 ls [])), ∀ (S : St) (x2 : Int32) (H : Heap) (locs : List Loc) (ls : Array Slot), f_X9_findsSplit_157 n x1 k157 S x2 = some (r, S2) → PW D y ad S H → va_S (AA ad) s.heap H locs → lv_has ls 4 [(0, .ref (ad 28)), (1, .int x1), (2, .int x2)] → W p l e (headSpec wsX9_findsSplit ({ frames := 3, cells := 0, slots := 0, locals := 67 })).room s m ([.ref (ad 28), .int a1] : List Value).toArray below meth c H locs 0 0 (QI below r S2 D y ad ([.ref (ad 28), .int a1] : List Value).toArray s) (F0 m 157 ls []) := by
    intro x1 k157 hk157 S x2 H locs ls hf hP hS hl
    unfold f_X9_findsSplit_157 at hf
    refine lv_iload_n hx hb dX9_findsSplit_157 rfl (lv_at hl 2 rfl) ?_
    refine lv_aload_n hx hb dX9_findsSplit_158 rfl (lv_at hl 0 rfl) ?_
    refine w_gI (C := RX9) (T := TX9) hx hb hts n9 hown hK hP t_28 rfl 18 (by decide) L133 rfl dX9_findsSplit_159 ?_
    refine lv_icmp_ge (tgt := 203) hx hb dX9_findsSplit_162 (by decide) (fun b_12 => ?_) (fun b_12 => ?_)
    · have hf := if_t b_12 hf
      refine lv_iconst (v := 0) hx hb dX9_findsSplit_203 (by decide) ?_
      exact w_zret hx hb hr hlocks (fun h => h (by decide)) hP hS (rt_inv hf) dX9_findsSplit_204
    · have hf := if_f b_12 hf
      refine lv_iconst (v := 5) hx hb dX9_findsSplit_165 (by decide) ?_
      obtain ⟨x3_13, ex3_13, hf⟩ := bd_inv hf
      refine w_topI ex3_13 ?_
      refine lv_istore_n (lv' := [(3, .int x3_13), (0, .ref (ad 28)), (1, .int x1), (2, .int x2)]) hx hb dX9_findsSplit_166 rfl hl (by decide) rfl (fun ls hl => ?_)
      exact j167 x1 x2 k157 hk157 n S x3_13 _ _ _ hf hP hS (lv_sub hl [1, 2, 3, 0] rfl)
  have j157 : ∀ (x1 : Int32) (fu : Nat), ∀ (S : St) (x2 : Int32) (H : Heap) (locs : List Loc) (ls : Array Slot), fixF (fun _ _ => none) (f_X9_findsSplit_157 n x1) fu S x2 = some (r, S2) → PW D y ad S H → va_S (AA ad) s.heap H locs → lv_has ls 4 [(0, .ref (ad 28)), (1, .int x1), (2, .int x2)] → W p l e (headSpec wsX9_findsSplit ({ frames := 3, cells := 0, slots := 0, locals := 67 })).room s m ([.ref (ad 28), .int a1] : List Value).toArray below meth c H locs 0 0 (QI below r S2 D y ad ([.ref (ad 28), .int a1] : List Value).toArray s) (F0 m 157 ls []) := by
    intro x1  fu
    induction fu with
    | zero => intro S x2 H locs ls hf hP hS hl; cases hf
    | succ fu ih => exact b157 x1  (fixF (fun _ _ => none) (f_X9_findsSplit_157 n x1) fu) ih
  have j155 : ∀ (S : St) (x1 : Int32) (H : Heap) (locs : List Loc) (ls : Array Slot), f_X9_findsSplit_155 n S x1 = some (r, S2) → PW D y ad S H → va_S (AA ad) s.heap H locs → lv_has ls 4 [(0, .ref (ad 28)), (1, .int x1)] → W p l e (headSpec wsX9_findsSplit ({ frames := 3, cells := 0, slots := 0, locals := 67 })).room s m ([.ref (ad 28), .int a1] : List Value).toArray below meth c H locs 0 0 (QI below r S2 D y ad ([.ref (ad 28), .int a1] : List Value).toArray s) (F0 m 155 ls []) := by
    intro  S x1 H locs ls hf hP hS hl
    unfold f_X9_findsSplit_155 at hf
    refine lv_iconst (v := 5) hx hb dX9_findsSplit_155 (by decide) ?_
    obtain ⟨x2_14, ex2_14, hf⟩ := bd_inv hf
    refine w_topI ex2_14 ?_
    refine lv_istore_n (lv' := [(2, .int x2_14), (0, .ref (ad 28)), (1, .int x1)]) hx hb dX9_findsSplit_156 rfl hl (by decide) rfl (fun ls hl => ?_)
    exact j157 x1  n S x2_14 _ _ _ hf hP hS (lv_sub hl [1, 2, 0] rfl)
  have j115 : ∀ (S : St) (x1 : Int32) (H : Heap) (locs : List Loc) (ls : Array Slot), f_X9_findsSplit_115 n S x1 = some (r, S2) → PW D y ad S H → va_S (AA ad) s.heap H locs → lv_has ls 4 [(0, .ref (ad 28)), (1, .int x1)] → W p l e (headSpec wsX9_findsSplit ({ frames := 3, cells := 0, slots := 0, locals := 67 })).room s m ([.ref (ad 28), .int a1] : List Value).toArray below meth c H locs 0 0 (QI below r S2 D y ad ([.ref (ad 28), .int a1] : List Value).toArray s) (F0 m 115 ls []) := by
    intro  S x1 H locs ls hf hP hS hl
    unfold f_X9_findsSplit_115 at hf
    refine lv_aload_n hx hb dX9_findsSplit_115 rfl (lv_at hl 0 rfl) ?_
    refine w_gI (C := RX9) (T := TX9) hx hb hts n9 hown hK hP t_28 rfl 35 (by decide) L256 rfl dX9_findsSplit_116 ?_
    refine lv_ldc (v := (-2000000001)) hx hb hown K140 dX9_findsSplit_119 ?_
    refine lv_icmp_eq (tgt := 155) hx hb dX9_findsSplit_121 (by decide) (fun b_15 => ?_) (fun b_15 => ?_)
    · have hf := if_t b_15 hf
      exact j155   S x1 _ _ _ hf hP hS (lv_sub hl [0, 1] rfl)
    · have hf := if_f b_15 hf
      refine lv_aload_n hx hb dX9_findsSplit_124 rfl (lv_at hl 0 rfl) ?_
      refine lv_iload_n hx hb dX9_findsSplit_125 rfl (lv_at hl 1 rfl) ?_
      refine lv_aload_n hx hb dX9_findsSplit_126 rfl (lv_at hl 0 rfl) ?_
      refine w_gI (C := RX9) (T := TX9) hx hb hts n9 hown hK hP t_28 rfl 35 (by decide) L256 rfl dX9_findsSplit_127 ?_
      refine lv_aload_n hx hb dX9_findsSplit_130 rfl (lv_at hl 0 rfl) ?_
      refine w_gI (C := RX9) (T := TX9) hx hb hts n9 hown hK hP t_28 rfl 36 (by decide) L259 rfl dX9_findsSplit_131 ?_
      obtain ⟨r_16, S_17, hc_18, hf⟩ := bo_inv hf
      refine w_ci (va_runV (As := [.int x1, .int (S.1 28 35), .int (S.1 28 36)]) (rest := []) ⟨hx, hb, hml, hown, hts⟩ (c_X9_areEven l D y ad aL aU hI n S x1 (S.1 28 35) (S.1 28 36) _ _ hc_18) (cwV 3 hts gX9_findsSplit_X9_areEven rfl rfl rfl (by decide +kernel) ⟨Nat.le_of_ble_eq_true rfl, Nat.le_of_ble_eq_true rfl⟩) (pwu_V t_28 rfl hP hK hZ hS) rfl rfl hl.1 rfl (lv_room (Nat.le_of_ble_eq_true rfl)) dX9_findsSplit_134 ⟨Nat.zero_le _, Nat.zero_le _⟩) hS (fun H locs hP hS => ?_)
      refine lv_if_eq (tgt := 155) hx hb dX9_findsSplit_137 (by decide) (fun b_19 => ?_) (fun b_19 => ?_)
      · have hf := if_t b_19 hf
        exact j155   S_17 x1 _ _ _ hf hP hS (lv_sub hl [0, 1] rfl)
      · have hf := if_f b_19 hf
        refine lv_aload_n hx hb dX9_findsSplit_140 rfl (lv_at hl 0 rfl) ?_
        refine lv_iload_n hx hb dX9_findsSplit_141 rfl (lv_at hl 1 rfl) ?_
        refine lv_iconst (v := 0) hx hb dX9_findsSplit_142 (by decide) ?_
        refine lv_aload_n hx hb dX9_findsSplit_143 rfl (lv_at hl 0 rfl) ?_
        refine w_gI (C := RX9) (T := TX9) hx hb hts n9 hown hK hP t_28 rfl 35 (by decide) L256 rfl dX9_findsSplit_144 ?_
        refine lv_aload_n hx hb dX9_findsSplit_147 rfl (lv_at hl 0 rfl) ?_
        refine w_gI (C := RX9) (T := TX9) hx hb hts n9 hown hK hP t_28 rfl 36 (by decide) L259 rfl dX9_findsSplit_148 ?_
        obtain ⟨r_20, S_21, hc_22, hf⟩ := bo_inv hf
        refine w_ci (va_runV (As := [.int x1, .int (0 : Int32), .int (S_17.1 28 35), .int (S_17.1 28 36)]) (rest := []) ⟨hx, hb, hml, hown, hts⟩ (c_X9_splits l D y ad aL aU hI n S_17 x1 (0 : Int32) (S_17.1 28 35) (S_17.1 28 36) _ _ hc_22) (cwV 4 hts gX9_findsSplit_X9_splits rfl rfl rfl (by decide +kernel) ⟨Nat.le_of_ble_eq_true rfl, Nat.le_of_ble_eq_true rfl⟩) (pwu_V t_28 rfl hP hK hZ hS) rfl rfl hl.1 rfl (lv_room (Nat.le_of_ble_eq_true rfl)) dX9_findsSplit_151 ⟨Nat.zero_le _, Nat.zero_le _⟩) hS (fun H locs hP hS => ?_)
        obtain ⟨g_23, hf⟩ := gd_inv hf
        exact w_zret hx hb hr hlocks g_23 hP hS (rt_inv hf) dX9_findsSplit_154
  have j70 : ∀ (x1 : Int32) (k2 : St → Int32 → Option (Int32 × St)) (hk2 : ∀ (S : St) (x2 : Int32) (H : Heap) (locs : List Loc) (ls : Array Slot), k2 S x2 = some (r, S2) → PW D y ad S H → va_S (AA ad) s.heap H locs → lv_has ls 4 [(0, .ref (ad 28)), (1, .int x1), (2, .int x2)] → W p l e (headSpec wsX9_findsSplit ({ frames := 3, cells := 0, slots := 0, locals := 67 })).room s m ([.ref (ad 28), .int a1] : List Value).toArray below meth c H locs 0 0 (QI below r S2 D y ad ([.ref (ad 28), .int a1] : List Value).toArray s) (F0 m 2 ls [])), ∀ (S : St) (x2 : Int32) (H : Heap) (locs : List Loc) (ls : Array Slot), f_X9_findsSplit_70 n x1 k2 S x2 = some (r, S2) → PW D y ad S H → va_S (AA ad) s.heap H locs → lv_has ls 4 [(0, .ref (ad 28)), (1, .int x1), (2, .int x2)] → W p l e (headSpec wsX9_findsSplit ({ frames := 3, cells := 0, slots := 0, locals := 67 })).room s m ([.ref (ad 28), .int a1] : List Value).toArray below meth c H locs 0 0 (QI below r S2 D y ad ([.ref (ad 28), .int a1] : List Value).toArray s) (F0 m 70 ls []) := by
    intro x1 k2 hk2 S x2 H locs ls hf hP hS hl
    unfold f_X9_findsSplit_70 at hf
    obtain ⟨x2_24, ex2_24, hf⟩ := bd_inv hf
    refine lv_iinc (v := x2_24) (lv' := [(2, .int x2_24), (0, .ref (ad 28)), (1, .int x1)]) hx hb dX9_findsSplit_70 hl (k := 2) rfl (by rw [ex2_24]; rfl) (by decide) rfl (fun ls hl => ?_)
    refine lv_goto (tgt := 2) hx hb dX9_findsSplit_73 (by decide) ?_
    exact hk2 S x2_24 _ _ _ hf hP hS (lv_sub hl [1, 2, 0] rfl)
  have b2 : ∀ (x1 : Int32) (k2 : St → Int32 → Option (Int32 × St)) (hk2 : ∀ (S : St) (x2 : Int32) (H : Heap) (locs : List Loc) (ls : Array Slot), k2 S x2 = some (r, S2) → PW D y ad S H → va_S (AA ad) s.heap H locs → lv_has ls 4 [(0, .ref (ad 28)), (1, .int x1), (2, .int x2)] → W p l e (headSpec wsX9_findsSplit ({ frames := 3, cells := 0, slots := 0, locals := 67 })).room s m ([.ref (ad 28), .int a1] : List Value).toArray below meth c H locs 0 0 (QI below r S2 D y ad ([.ref (ad 28), .int a1] : List Value).toArray s) (F0 m 2 ls [])), ∀ (S : St) (x2 : Int32) (H : Heap) (locs : List Loc) (ls : Array Slot), f_X9_findsSplit_2 n x1 k2 S x2 = some (r, S2) → PW D y ad S H → va_S (AA ad) s.heap H locs → lv_has ls 4 [(0, .ref (ad 28)), (1, .int x1), (2, .int x2)] → W p l e (headSpec wsX9_findsSplit ({ frames := 3, cells := 0, slots := 0, locals := 67 })).room s m ([.ref (ad 28), .int a1] : List Value).toArray below meth c H locs 0 0 (QI below r S2 D y ad ([.ref (ad 28), .int a1] : List Value).toArray s) (F0 m 2 ls []) := by
    intro x1 k2 hk2 S x2 H locs ls hf hP hS hl
    unfold f_X9_findsSplit_2 at hf
    refine lv_iload_n hx hb dX9_findsSplit_2 rfl (lv_at hl 2 rfl) ?_
    refine lv_aload_n hx hb dX9_findsSplit_3 rfl (lv_at hl 0 rfl) ?_
    refine w_gI (C := RX9) (T := TX9) hx hb hts n9 hown hK hP t_28 rfl 2 (by decide) L141 rfl dX9_findsSplit_4 ?_
    refine lv_icmp_ge (tgt := 76) hx hb dX9_findsSplit_7 (by decide) (fun b_25 => ?_) (fun b_25 => ?_)
    · have hf := if_t b_25 hf
      refine lv_aload_n hx hb dX9_findsSplit_76 rfl (lv_at hl 0 rfl) ?_
      refine w_gI (C := RX9) (T := TX9) hx hb hts n9 hown hK hP t_28 rfl 32 (by decide) L233 rfl dX9_findsSplit_77 ?_
      refine lv_iconst (v := 1) hx hb dX9_findsSplit_80 (by decide) ?_
      refine lv_icmp_ne (tgt := 115) hx hb dX9_findsSplit_81 (by decide) (fun b_26 => ?_) (fun b_26 => ?_)
      · have hf := if_f b_26 hf
        exact j115   S x1 _ _ _ hf hP hS (lv_sub hl [0, 1] rfl)
      · have hf := if_t b_26 hf
        refine lv_aload_n hx hb dX9_findsSplit_84 rfl (lv_at hl 0 rfl) ?_
        refine lv_iload_n hx hb dX9_findsSplit_85 rfl (lv_at hl 1 rfl) ?_
        refine lv_aload_n hx hb dX9_findsSplit_86 rfl (lv_at hl 0 rfl) ?_
        refine w_gI (C := RX9) (T := TX9) hx hb hts n9 hown hK hP t_28 rfl 33 (by decide) L236 rfl dX9_findsSplit_87 ?_
        refine lv_aload_n hx hb dX9_findsSplit_90 rfl (lv_at hl 0 rfl) ?_
        refine w_gI (C := RX9) (T := TX9) hx hb hts n9 hown hK hP t_28 rfl 34 (by decide) L239 rfl dX9_findsSplit_91 ?_
        obtain ⟨r_27, S_28, hc_29, hf⟩ := bo_inv hf
        refine w_ci (va_runV (As := [.int x1, .int (S.1 28 33), .int (S.1 28 34)]) (rest := []) ⟨hx, hb, hml, hown, hts⟩ (c_X9_areEven l D y ad aL aU hI n S x1 (S.1 28 33) (S.1 28 34) _ _ hc_29) (cwV 3 hts gX9_findsSplit_X9_areEven rfl rfl rfl (by decide +kernel) ⟨Nat.le_of_ble_eq_true rfl, Nat.le_of_ble_eq_true rfl⟩) (pwu_V t_28 rfl hP hK hZ hS) rfl rfl hl.1 rfl (lv_room (Nat.le_of_ble_eq_true rfl)) dX9_findsSplit_94 ⟨Nat.zero_le _, Nat.zero_le _⟩) hS (fun H locs hP hS => ?_)
        refine lv_if_eq (tgt := 115) hx hb dX9_findsSplit_97 (by decide) (fun b_30 => ?_) (fun b_30 => ?_)
        · have hf := if_t b_30 hf
          exact j115   S_28 x1 _ _ _ hf hP hS (lv_sub hl [0, 1] rfl)
        · have hf := if_f b_30 hf
          refine lv_aload_n hx hb dX9_findsSplit_100 rfl (lv_at hl 0 rfl) ?_
          refine lv_iload_n hx hb dX9_findsSplit_101 rfl (lv_at hl 1 rfl) ?_
          refine lv_iconst (v := 0) hx hb dX9_findsSplit_102 (by decide) ?_
          refine lv_aload_n hx hb dX9_findsSplit_103 rfl (lv_at hl 0 rfl) ?_
          refine w_gI (C := RX9) (T := TX9) hx hb hts n9 hown hK hP t_28 rfl 33 (by decide) L236 rfl dX9_findsSplit_104 ?_
          refine lv_aload_n hx hb dX9_findsSplit_107 rfl (lv_at hl 0 rfl) ?_
          refine w_gI (C := RX9) (T := TX9) hx hb hts n9 hown hK hP t_28 rfl 34 (by decide) L239 rfl dX9_findsSplit_108 ?_
          obtain ⟨r_31, S_32, hc_33, hf⟩ := bo_inv hf
          refine w_ci (va_runV (As := [.int x1, .int (0 : Int32), .int (S_28.1 28 33), .int (S_28.1 28 34)]) (rest := []) ⟨hx, hb, hml, hown, hts⟩ (c_X9_splits l D y ad aL aU hI n S_28 x1 (0 : Int32) (S_28.1 28 33) (S_28.1 28 34) _ _ hc_33) (cwV 4 hts gX9_findsSplit_X9_splits rfl rfl rfl (by decide +kernel) ⟨Nat.le_of_ble_eq_true rfl, Nat.le_of_ble_eq_true rfl⟩) (pwu_V t_28 rfl hP hK hZ hS) rfl rfl hl.1 rfl (lv_room (Nat.le_of_ble_eq_true rfl)) dX9_findsSplit_111 ⟨Nat.zero_le _, Nat.zero_le _⟩) hS (fun H locs hP hS => ?_)
          obtain ⟨g_34, hf⟩ := gd_inv hf
          exact w_zret hx hb hr hlocks g_34 hP hS (rt_inv hf) dX9_findsSplit_114
    · have hf := if_f b_25 hf
      refine lv_aload_n hx hb dX9_findsSplit_10 rfl (lv_at hl 0 rfl) ?_
      refine w_gI (C := RX9) (T := TX9) hx hb hts n9 hown hK hP t_28 rfl 31 (by decide) L221 rfl dX9_findsSplit_11 ?_
      refine lv_iload_n hx hb dX9_findsSplit_14 rfl (lv_at hl 2 rfl) ?_
      obtain ⟨r_35, S_36, hc_37, hf⟩ := bo_inv hf
      refine w_ci (va_runS (As := [.int (S.1 28 31), .int x2]) (rest := []) ⟨hx, hb, hml, hown, hts⟩ (c_X9_has l D y ad aL aU hI n S (S.1 28 31) x2 _ _ hc_37) (cwS 2 hts gX9_findsSplit_X9_has rfl rfl rfl (by decide +kernel) ⟨Nat.le_of_ble_eq_true rfl, Nat.le_of_ble_eq_true rfl⟩) (pwu_S hP hK hZ hS) rfl rfl hl.1 rfl (lv_room (Nat.le_of_ble_eq_true rfl)) dX9_findsSplit_15 ⟨Nat.zero_le _, Nat.zero_le _⟩) hS (fun H locs hP hS => ?_)
      refine lv_if_eq (tgt := 70) hx hb dX9_findsSplit_18 (by decide) (fun b_38 => ?_) (fun b_38 => ?_)
      · have hf := if_t b_38 hf
        exact j70 x1 k2 hk2 S_36 x2 _ _ _ hf hP hS (lv_sub hl [0, 1, 2] rfl)
      · have hf := if_f b_38 hf
        refine lv_aload_n hx hb dX9_findsSplit_21 rfl (lv_at hl 0 rfl) ?_
        refine w_gR (z := 32) (C := RX9) (T := TX9) hx hb hts n9 hown hK hP t_28 rfl 5 (by decide) L19 rfl rfl dX9_findsSplit_22 ?_
        refine lv_iload_n hx hb dX9_findsSplit_25 rfl (lv_at hl 2 rfl) ?_
        obtain ⟨g_39, hf⟩ := gd_inv hf
        refine w_iald hx hb hK hP t_32 g_39 dX9_findsSplit_26 ?_
        refine lv_iconst (v := 1) hx hb dX9_findsSplit_27 (by decide) ?_
        refine lv_icmp_ne (tgt := 70) hx hb dX9_findsSplit_28 (by decide) (fun b_40 => ?_) (fun b_40 => ?_)
        · have hf := if_f b_40 hf
          exact j70 x1 k2 hk2 S_36 x2 _ _ _ hf hP hS (lv_sub hl [0, 1, 2] rfl)
        · have hf := if_t b_40 hf
          refine lv_aload_n hx hb dX9_findsSplit_31 rfl (lv_at hl 0 rfl) ?_
          refine lv_iload_n hx hb dX9_findsSplit_32 rfl (lv_at hl 1 rfl) ?_
          refine lv_aload_n hx hb dX9_findsSplit_33 rfl (lv_at hl 0 rfl) ?_
          refine w_gR (z := 38) (C := RX9) (T := TX9) hx hb hts n9 hown hK hP t_28 rfl 22 (by decide) L37 rfl rfl dX9_findsSplit_34 ?_
          refine lv_iload_n hx hb dX9_findsSplit_37 rfl (lv_at hl 2 rfl) ?_
          obtain ⟨g_41, hf⟩ := gd_inv hf
          refine w_iald hx hb hK hP t_38 g_41 dX9_findsSplit_38 ?_
          refine lv_aload_n hx hb dX9_findsSplit_39 rfl (lv_at hl 0 rfl) ?_
          refine w_gR (z := 39) (C := RX9) (T := TX9) hx hb hts n9 hown hK hP t_28 rfl 23 (by decide) L40 rfl rfl dX9_findsSplit_40 ?_
          refine lv_iload_n hx hb dX9_findsSplit_43 rfl (lv_at hl 2 rfl) ?_
          obtain ⟨g_42, hf⟩ := gd_inv hf
          refine w_iald hx hb hK hP t_39 g_42 dX9_findsSplit_44 ?_
          obtain ⟨r_43, S_44, hc_45, hf⟩ := bo_inv hf
          refine w_ci (va_runV (As := [.int x1, .int (S_36.1 38 (x2).toNatClampNeg), .int (S_36.1 39 (x2).toNatClampNeg)]) (rest := []) ⟨hx, hb, hml, hown, hts⟩ (c_X9_areEven l D y ad aL aU hI n S_36 x1 ((S_36.1 38 (x2).toNatClampNeg)) ((S_36.1 39 (x2).toNatClampNeg)) _ _ hc_45) (cwV 3 hts gX9_findsSplit_X9_areEven rfl rfl rfl (by decide +kernel) ⟨Nat.le_of_ble_eq_true rfl, Nat.le_of_ble_eq_true rfl⟩) (pwu_V t_28 rfl hP hK hZ hS) rfl rfl hl.1 rfl (lv_room (Nat.le_of_ble_eq_true rfl)) dX9_findsSplit_45 ⟨Nat.zero_le _, Nat.zero_le _⟩) hS (fun H locs hP hS => ?_)
          refine lv_if_eq (tgt := 70) hx hb dX9_findsSplit_48 (by decide) (fun b_46 => ?_) (fun b_46 => ?_)
          · have hf := if_t b_46 hf
            exact j70 x1 k2 hk2 S_44 x2 _ _ _ hf hP hS (lv_sub hl [0, 1, 2] rfl)
          · have hf := if_f b_46 hf
            refine lv_aload_n hx hb dX9_findsSplit_51 rfl (lv_at hl 0 rfl) ?_
            refine lv_iload_n hx hb dX9_findsSplit_52 rfl (lv_at hl 1 rfl) ?_
            refine lv_iconst (v := 0) hx hb dX9_findsSplit_53 (by decide) ?_
            refine lv_aload_n hx hb dX9_findsSplit_54 rfl (lv_at hl 0 rfl) ?_
            refine w_gR (z := 38) (C := RX9) (T := TX9) hx hb hts n9 hown hK hP t_28 rfl 22 (by decide) L37 rfl rfl dX9_findsSplit_55 ?_
            refine lv_iload_n hx hb dX9_findsSplit_58 rfl (lv_at hl 2 rfl) ?_
            obtain ⟨g_47, hf⟩ := gd_inv hf
            refine w_iald hx hb hK hP t_38 g_47 dX9_findsSplit_59 ?_
            refine lv_aload_n hx hb dX9_findsSplit_60 rfl (lv_at hl 0 rfl) ?_
            refine w_gR (z := 39) (C := RX9) (T := TX9) hx hb hts n9 hown hK hP t_28 rfl 23 (by decide) L40 rfl rfl dX9_findsSplit_61 ?_
            refine lv_iload_n hx hb dX9_findsSplit_64 rfl (lv_at hl 2 rfl) ?_
            obtain ⟨g_48, hf⟩ := gd_inv hf
            refine w_iald hx hb hK hP t_39 g_48 dX9_findsSplit_65 ?_
            obtain ⟨r_49, S_50, hc_51, hf⟩ := bo_inv hf
            refine w_ci (va_runV (As := [.int x1, .int (0 : Int32), .int (S_44.1 38 (x2).toNatClampNeg), .int (S_44.1 39 (x2).toNatClampNeg)]) (rest := []) ⟨hx, hb, hml, hown, hts⟩ (c_X9_splits l D y ad aL aU hI n S_44 x1 (0 : Int32) ((S_44.1 38 (x2).toNatClampNeg)) ((S_44.1 39 (x2).toNatClampNeg)) _ _ hc_51) (cwV 4 hts gX9_findsSplit_X9_splits rfl rfl rfl (by decide +kernel) ⟨Nat.le_of_ble_eq_true rfl, Nat.le_of_ble_eq_true rfl⟩) (pwu_V t_28 rfl hP hK hZ hS) rfl rfl hl.1 rfl (lv_room (Nat.le_of_ble_eq_true rfl)) dX9_findsSplit_66 ⟨Nat.zero_le _, Nat.zero_le _⟩) hS (fun H locs hP hS => ?_)
            obtain ⟨g_52, hf⟩ := gd_inv hf
            exact w_zret hx hb hr hlocks g_52 hP hS (rt_inv hf) dX9_findsSplit_69
  have j2 : ∀ (x1 : Int32) (fu : Nat), ∀ (S : St) (x2 : Int32) (H : Heap) (locs : List Loc) (ls : Array Slot), fixF (fun _ _ => none) (f_X9_findsSplit_2 n x1) fu S x2 = some (r, S2) → PW D y ad S H → va_S (AA ad) s.heap H locs → lv_has ls 4 [(0, .ref (ad 28)), (1, .int x1), (2, .int x2)] → W p l e (headSpec wsX9_findsSplit ({ frames := 3, cells := 0, slots := 0, locals := 67 })).room s m ([.ref (ad 28), .int a1] : List Value).toArray below meth c H locs 0 0 (QI below r S2 D y ad ([.ref (ad 28), .int a1] : List Value).toArray s) (F0 m 2 ls []) := by
    intro x1  fu
    induction fu with
    | zero => intro S x2 H locs ls hf hP hS hl; cases hf
    | succ fu ih => exact b2 x1  (fixF (fun _ _ => none) (f_X9_findsSplit_2 n x1) fu) ih
  unfold f_X9_findsSplit at hf
  refine lv_iconst (v := 0) hx hb dX9_findsSplit_0 (by decide) ?_
  obtain ⟨x2_53, ex2_53, hf⟩ := bd_inv hf
  refine w_topI ex2_53 ?_
  refine lv_istore_n (lv' := [(2, .int x2_53), (0, .ref (ad 28)), (1, .int a1)]) hx hb dX9_findsSplit_1 rfl hl (by decide) rfl (fun ls hl => ?_)
  exact j2 a1  n S x2_53 _ _ _ hf hP hS (lv_sub hl [1, 2, 0] rfl)
set_option maxHeartbeats 4000000 in
set_option maxRecDepth 100000 in
theorem c_X9_takesSide (l : Launch) (D : va_G) (y : y4) (ad : Nat → Nat) (aL aU : Nat) (hI : Inj ad) (n : Nat) (S : St) (a1 : Int32) (a2 : Int32) (r : Int32) (S2 : St) (hf : f_X9_takesSide n S a1 a2 = some (r, S2)) : KI l D y ad aL aU yX9_takesSide wsX9_takesSide ({ frames := 4, cells := 0, slots := 0, locals := 100 }) [.ref (ad 28), .int a1, .int a2] S r S2 := by
  refine Met.ofW (cc := cX9_takesSide) (maxL := 7) (ret := (some .boolean)) (by decide) rfl ?_
  intro p e s m args below meth c s₁ B hml hv
  obtain ⟨rfl, hP, hK, hZ⟩ := hv
  have hx := B.exec
  have hb := B.bytes
  have hr := B.returns
  have hts := atoms_spec (ws := wsX9_takesSide) B.pre
  have hown : s.vm.findClass RX9 = some m.cls := findClass_of_methodNamed B.named
  have hlocks := B.notSynchronized
  have hS : va_S (AA ad) s.heap s.heap [] := va_S.rf
  have L28 := hts (.fieldLink RX9 28 "JoinedTheoriesModel" "kindOf" "[I") (by decide +kernel)
  have L31 := hts (.fieldLink RX9 31 "JoinedTheoriesModel" "firstOf" "[I") (by decide +kernel)
  have L34 := hts (.fieldLink RX9 34 "JoinedTheoriesModel" "secondOf" "[I") (by decide +kernel)
  have L53 := hts (.fieldLink RX9 53 "JoinedTheoriesModel" "bounds" "[J") (by decide +kernel)
  have L59 := hts (.fieldLink RX9 59 "JoinedTheoriesModel" "splitKind" "[I") (by decide +kernel)
  have L62 := hts (.fieldLink RX9 62 "JoinedTheoriesModel" "splitOne" "[I") (by decide +kernel)
  have L65 := hts (.fieldLink RX9 65 "JoinedTheoriesModel" "splitTwo" "[I") (by decide +kernel)
  have K242 := hts (.constantLong RX9 242 (-1)) (by decide +kernel)
  have n9 : ∀ w ∈ wsX90, w ∈ wsX9_takesSide := by decide +kernel
  have hl := lv_entry ([.ref (ad 28), .int a1, .int a2]) (n := 7) (Nat.le_of_ble_eq_true rfl)
  rw [lg_entry_eq]
  generalize (lg_sl ([.ref (ad 28), .int a1, .int a2]) ++ List.replicate (7 - (lg_sl ([.ref (ad 28), .int a1, .int a2])).length) Slot.unset).toArray = ls at hl ⊢
  have hl : lv_has ls 7 [(0, .ref (ad 28)), (1, .int a1), (2, .int a2)] := hl
  have j191 : ∀ (S : St) (x1 : Int32) (x2 : Int32) (x5 : Int32) (t0 : Int32) (H : Heap) (locs : List Loc) (ls : Array Slot), f_X9_takesSide_191 n S x1 x2 x5 t0 = some (r, S2) → PW D y ad S H → va_S (AA ad) s.heap H locs → lv_has ls 7 [(0, .ref (ad 28)), (1, .int x1), (2, .int x2), (5, .int x5)] → W p l e (headSpec wsX9_takesSide ({ frames := 4, cells := 0, slots := 0, locals := 100 })).room s m ([.ref (ad 28), .int a1, .int a2] : List Value).toArray below meth c H locs 0 0 (QI below r S2 D y ad ([.ref (ad 28), .int a1, .int a2] : List Value).toArray s) (F0 m 191 ls [.int t0]) := by
    intro  S x1 x2 x5 t0 H locs ls hf hP hS hl
    unfold f_X9_takesSide_191 at hf
    obtain ⟨x6_1, ex6_1, hf⟩ := bd_inv hf
    refine w_topI ex6_1 ?_
    refine lv_istore (lv' := [(6, .int x6_1), (0, .ref (ad 28)), (1, .int x1), (2, .int x2), (5, .int x5)]) hx hb dX9_takesSide_191 hl (by decide) rfl (fun ls hl => ?_)
    refine lv_iload_n hx hb dX9_takesSide_193 rfl (lv_at hl 3 rfl) ?_
    refine lv_iconst (v := 2) hx hb dX9_takesSide_194 (by decide) ?_
    refine lv_irem hx hb dX9_takesSide_195 (by decide) ?_
    refine lv_if_ne (tgt := 216) hx hb dX9_takesSide_196 (by decide) (fun b_2 => ?_) (fun b_2 => ?_)
    · have hf := if_f b_2 hf
      refine lv_aload_n hx hb dX9_takesSide_216 rfl (lv_at hl 1 rfl) ?_
      refine lv_iload_n hx hb dX9_takesSide_217 rfl (lv_at hl 2 rfl) ?_
      refine lv_iconst (v := 1) hx hb dX9_takesSide_218 (by decide) ?_
      refine lv_iadd hx hb dX9_takesSide_219 ?_
      refine lv_iload hx hb dX9_takesSide_220 (lv_at hl 0 rfl) ?_
      refine lv_iload hx hb dX9_takesSide_222 (lv_at hl 4 rfl) ?_
      refine lv_ldc2 (v := (-1)) hx hb hown K242 dX9_takesSide_224 ?_
      obtain ⟨r_3, S_4, hc_5, hf⟩ := bo_inv hf
      refine w_ci (va_runV (As := [.int (x1 + (1 : Int32)), .int x6_1, .int x5, .long (-1 : Int64)]) (rest := []) ⟨hx, hb, hml, hown, hts⟩ (c_X9_bound l D y ad aL aU hI n S ((x1 + (1 : Int32))) x6_1 x5 (-1 : Int64) _ _ hc_5) (cwV 4 hts gX9_takesSide_X9_bound rfl rfl rfl (by decide +kernel) ⟨Nat.le_of_ble_eq_true rfl, Nat.le_of_ble_eq_true rfl⟩) (pwu_V t_28 rfl hP hK hZ hS) rfl rfl hl.1 rfl (lv_room (Nat.le_of_ble_eq_true rfl)) dX9_takesSide_227 ⟨Nat.zero_le _, Nat.zero_le _⟩) hS (fun H locs hP hS => ?_)
      obtain ⟨g_6, hf⟩ := gd_inv hf
      exact w_zret hx hb hr hlocks g_6 hP hS (rt_inv hf) dX9_takesSide_230
    · have hf := if_t b_2 hf
      refine lv_aload_n hx hb dX9_takesSide_199 rfl (lv_at hl 1 rfl) ?_
      refine lv_iload_n hx hb dX9_takesSide_200 rfl (lv_at hl 2 rfl) ?_
      refine lv_iconst (v := 1) hx hb dX9_takesSide_201 (by decide) ?_
      refine lv_iadd hx hb dX9_takesSide_202 ?_
      refine lv_iload hx hb dX9_takesSide_203 (lv_at hl 4 rfl) ?_
      refine lv_iload hx hb dX9_takesSide_205 (lv_at hl 0 rfl) ?_
      refine lv_ldc2 (v := (-1)) hx hb hown K242 dX9_takesSide_207 ?_
      obtain ⟨r_7, S_8, hc_9, hf⟩ := bo_inv hf
      refine w_ci (va_runV (As := [.int (x1 + (1 : Int32)), .int x5, .int x6_1, .long (-1 : Int64)]) (rest := []) ⟨hx, hb, hml, hown, hts⟩ (c_X9_bound l D y ad aL aU hI n S ((x1 + (1 : Int32))) x5 x6_1 (-1 : Int64) _ _ hc_9) (cwV 4 hts gX9_takesSide_X9_bound rfl rfl rfl (by decide +kernel) ⟨Nat.le_of_ble_eq_true rfl, Nat.le_of_ble_eq_true rfl⟩) (pwu_V t_28 rfl hP hK hZ hS) rfl rfl hl.1 rfl (lv_room (Nat.le_of_ble_eq_true rfl)) dX9_takesSide_210 ⟨Nat.zero_le _, Nat.zero_le _⟩) hS (fun H locs hP hS => ?_)
      refine lv_goto (tgt := 230) hx hb dX9_takesSide_213 (by decide) ?_
      obtain ⟨g_10, hf⟩ := gd_inv hf
      exact w_zret hx hb hr hlocks g_10 hP hS (rt_inv hf) dX9_takesSide_230
  have j167 : ∀ (S : St) (x1 : Int32) (x2 : Int32) (x4 : Int32) (t0 : Int32) (H : Heap) (locs : List Loc) (ls : Array Slot), f_X9_takesSide_167 n S x1 x2 x4 t0 = some (r, S2) → PW D y ad S H → va_S (AA ad) s.heap H locs → lv_has ls 7 [(0, .ref (ad 28)), (1, .int x1), (2, .int x2), (4, .int x4)] → W p l e (headSpec wsX9_takesSide ({ frames := 4, cells := 0, slots := 0, locals := 100 })).room s m ([.ref (ad 28), .int a1, .int a2] : List Value).toArray below meth c H locs 0 0 (QI below r S2 D y ad ([.ref (ad 28), .int a1, .int a2] : List Value).toArray s) (F0 m 167 ls [.int t0]) := by
    intro  S x1 x2 x4 t0 H locs ls hf hP hS hl
    unfold f_X9_takesSide_167 at hf
    obtain ⟨x5_11, ex5_11, hf⟩ := bd_inv hf
    refine w_topI ex5_11 ?_
    refine lv_istore (lv' := [(5, .int x5_11), (0, .ref (ad 28)), (1, .int x1), (2, .int x2), (4, .int x4)]) hx hb dX9_takesSide_167 hl (by decide) rfl (fun ls hl => ?_)
    refine lv_iload_n hx hb dX9_takesSide_169 rfl (lv_at hl 3 rfl) ?_
    refine lv_iconst (v := 2) hx hb dX9_takesSide_170 (by decide) ?_
    refine lv_icmp_ge (tgt := 184) hx hb dX9_takesSide_171 (by decide) (fun b_12 => ?_) (fun b_12 => ?_)
    · have hf := if_t b_12 hf
      refine lv_aload_n hx hb dX9_takesSide_184 rfl (lv_at hl 1 rfl) ?_
      refine w_gR (z := 37) (C := RX9) (T := TX9) hx hb hts n9 hown hK hP t_28 rfl 21 (by decide) L34 rfl rfl dX9_takesSide_185 ?_
      refine lv_iload hx hb dX9_takesSide_188 (lv_at hl 4 rfl) ?_
      obtain ⟨g_13, hf⟩ := gd_inv hf
      refine w_iald hx hb hK hP t_37 g_13 dX9_takesSide_190 ?_
      exact j191   S x1 x2 x5_11 ((S.1 37 (x4).toNatClampNeg)) _ _ _ hf hP hS (lv_sub hl [1, 2, 3, 0] rfl)
    · have hf := if_f b_12 hf
      refine lv_aload_n hx hb dX9_takesSide_174 rfl (lv_at hl 1 rfl) ?_
      refine w_gR (z := 36) (C := RX9) (T := TX9) hx hb hts n9 hown hK hP t_28 rfl 20 (by decide) L31 rfl rfl dX9_takesSide_175 ?_
      refine lv_iload hx hb dX9_takesSide_178 (lv_at hl 4 rfl) ?_
      obtain ⟨g_14, hf⟩ := gd_inv hf
      refine w_iald hx hb hK hP t_36 g_14 dX9_takesSide_180 ?_
      refine lv_goto (tgt := 191) hx hb dX9_takesSide_181 (by decide) ?_
      exact j191   S x1 x2 x5_11 ((S.1 36 (x4).toNatClampNeg)) _ _ _ hf hP hS (lv_sub hl [1, 2, 3, 0] rfl)
  have j147 : ∀ (S : St) (x1 : Int32) (x2 : Int32) (x3 : Int32) (x4 : Int32) (H : Heap) (locs : List Loc) (ls : Array Slot), f_X9_takesSide_147 n S x1 x2 x3 x4 = some (r, S2) → PW D y ad S H → va_S (AA ad) s.heap H locs → lv_has ls 7 [(0, .ref (ad 28)), (1, .int x1), (2, .int x2), (3, .int x3), (4, .int x4)] → W p l e (headSpec wsX9_takesSide ({ frames := 4, cells := 0, slots := 0, locals := 100 })).room s m ([.ref (ad 28), .int a1, .int a2] : List Value).toArray below meth c H locs 0 0 (QI below r S2 D y ad ([.ref (ad 28), .int a1, .int a2] : List Value).toArray s) (F0 m 147 ls []) := by
    intro  S x1 x2 x3 x4 H locs ls hf hP hS hl
    unfold f_X9_takesSide_147 at hf
    refine lv_iload_n hx hb dX9_takesSide_147 rfl (lv_at hl 2 rfl) ?_
    refine lv_iconst (v := 2) hx hb dX9_takesSide_148 (by decide) ?_
    refine lv_icmp_ge (tgt := 161) hx hb dX9_takesSide_149 (by decide) (fun b_15 => ?_) (fun b_15 => ?_)
    · have hf := if_t b_15 hf
      refine lv_aload_n hx hb dX9_takesSide_161 rfl (lv_at hl 0 rfl) ?_
      refine w_gR (z := 37) (C := RX9) (T := TX9) hx hb hts n9 hown hK hP t_28 rfl 21 (by decide) L34 rfl rfl dX9_takesSide_162 ?_
      refine lv_iload_n hx hb dX9_takesSide_165 rfl (lv_at hl 3 rfl) ?_
      obtain ⟨g_16, hf⟩ := gd_inv hf
      refine w_iald hx hb hK hP t_37 g_16 dX9_takesSide_166 ?_
      exact j167   S x1 x2 x4 ((S.1 37 (x3).toNatClampNeg)) _ _ _ hf hP hS (lv_sub hl [0, 1, 2, 4] rfl)
    · have hf := if_f b_15 hf
      refine lv_aload_n hx hb dX9_takesSide_152 rfl (lv_at hl 0 rfl) ?_
      refine w_gR (z := 36) (C := RX9) (T := TX9) hx hb hts n9 hown hK hP t_28 rfl 20 (by decide) L31 rfl rfl dX9_takesSide_153 ?_
      refine lv_iload_n hx hb dX9_takesSide_156 rfl (lv_at hl 3 rfl) ?_
      obtain ⟨g_17, hf⟩ := gd_inv hf
      refine w_iald hx hb hK hP t_36 g_17 dX9_takesSide_157 ?_
      refine lv_goto (tgt := 167) hx hb dX9_takesSide_158 (by decide) ?_
      exact j167   S x1 x2 x4 ((S.1 36 (x3).toNatClampNeg)) _ _ _ hf hP hS (lv_sub hl [0, 1, 2, 4] rfl)
  have b18 : ∀ (x1 : Int32) (x2 : Int32) (x3 : Int32) (x4 : Int32) (k18 : St → Int32 → Option (Int32 × St)) (hk18 : ∀ (S : St) (x5 : Int32) (H : Heap) (locs : List Loc) (ls : Array Slot), k18 S x5 = some (r, S2) → PW D y ad S H → va_S (AA ad) s.heap H locs → lv_has ls 7 [(0, .ref (ad 28)), (1, .int x1), (2, .int x2), (3, .int x3), (4, .int x4), (5, .int x5)] → W p l e (headSpec wsX9_takesSide ({ frames := 4, cells := 0, slots := 0, locals := 100 })).room s m ([.ref (ad 28), .int a1, .int a2] : List Value).toArray below meth c H locs 0 0 (QI below r S2 D y ad ([.ref (ad 28), .int a1, .int a2] : List Value).toArray s) (F0 m 18 ls [])), ∀ (S : St) (x5 : Int32) (H : Heap) (locs : List Loc) (ls : Array Slot), f_X9_takesSide_18 n x1 x2 x3 x4 k18 S x5 = some (r, S2) → PW D y ad S H → va_S (AA ad) s.heap H locs → lv_has ls 7 [(0, .ref (ad 28)), (1, .int x1), (2, .int x2), (3, .int x3), (4, .int x4), (5, .int x5)] → W p l e (headSpec wsX9_takesSide ({ frames := 4, cells := 0, slots := 0, locals := 100 })).room s m ([.ref (ad 28), .int a1, .int a2] : List Value).toArray below meth c H locs 0 0 (QI below r S2 D y ad ([.ref (ad 28), .int a1, .int a2] : List Value).toArray s) (F0 m 18 ls []) := by
    intro x1 x2 x3 x4 k18 hk18 S x5 H locs ls hf hP hS hl
    unfold f_X9_takesSide_18 at hf
    refine lv_iload hx hb dX9_takesSide_18 (lv_at hl 5 rfl) ?_
    refine lv_bipush (v := (100)) hx hb dX9_takesSide_20 (by decide) ?_
    refine lv_icmp_ge (tgt := 58) hx hb dX9_takesSide_22 (by decide) (fun b_18 => ?_) (fun b_18 => ?_)
    · have hf := if_t b_18 hf
      refine lv_aload_n hx hb dX9_takesSide_58 rfl (lv_at hl 0 rfl) ?_
      refine w_gR (z := 45) (C := RX9) (T := TX9) hx hb hts n9 hown hK hP t_28 rfl 42 (by decide) L59 rfl rfl dX9_takesSide_59 ?_
      refine lv_iload_n hx hb dX9_takesSide_62 rfl (lv_at hl 1 rfl) ?_
      obtain ⟨g_19, hf⟩ := gd_inv hf
      refine w_iald hx hb hK hP t_45 g_19 dX9_takesSide_63 ?_
      refine lv_if_ne (tgt := 114) hx hb dX9_takesSide_64 (by decide) (fun b_20 => ?_) (fun b_20 => ?_)
      · have hf := if_f b_20 hf
        refine lv_iload_n hx hb dX9_takesSide_114 rfl (lv_at hl 2 rfl) ?_
        refine lv_iconst (v := 4) hx hb dX9_takesSide_115 (by decide) ?_
        refine lv_icmp_ne (tgt := 130) hx hb dX9_takesSide_116 (by decide) (fun b_21 => ?_) (fun b_21 => ?_)
        · have hf := if_f b_21 hf
          refine lv_iload_n hx hb dX9_takesSide_130 rfl (lv_at hl 2 rfl) ?_
          refine lv_iconst (v := 1) hx hb dX9_takesSide_131 (by decide) ?_
          refine lv_icmp_le (tgt := 147) hx hb dX9_takesSide_132 (by decide) (fun b_22 => ?_) (fun b_22 => ?_)
          · have hf := if_t b_22 hf
            exact j147   S x1 x2 x3 x4 _ _ _ hf hP hS (lv_sub hl [0, 1, 2, 3, 4] rfl)
          · have hf := if_f b_22 hf
            refine lv_aload_n hx hb dX9_takesSide_135 rfl (lv_at hl 0 rfl) ?_
            refine w_gR (z := 35) (C := RX9) (T := TX9) hx hb hts n9 hown hK hP t_28 rfl 19 (by decide) L28 rfl rfl dX9_takesSide_136 ?_
            refine lv_iload_n hx hb dX9_takesSide_139 rfl (lv_at hl 3 rfl) ?_
            obtain ⟨g_23, hf⟩ := gd_inv hf
            refine w_iald hx hb hK hP t_35 g_23 dX9_takesSide_140 ?_
            refine lv_iconst (v := 1) hx hb dX9_takesSide_141 (by decide) ?_
            refine lv_icmp_ne (tgt := 147) hx hb dX9_takesSide_142 (by decide) (fun b_24 => ?_) (fun b_24 => ?_)
            · have hf := if_f b_24 hf
              exact j147   S x1 x2 x3 x4 _ _ _ hf hP hS (lv_sub hl [0, 1, 2, 3, 4] rfl)
            · have hf := if_t b_24 hf
              refine lv_iconst (v := 0) hx hb dX9_takesSide_145 (by decide) ?_
              exact w_zret hx hb hr hlocks (fun h => h (by decide)) hP hS (rt_inv hf) dX9_takesSide_146
        · have hf := if_t b_21 hf
          refine lv_aload_n hx hb dX9_takesSide_119 rfl (lv_at hl 0 rfl) ?_
          refine lv_iload_n hx hb dX9_takesSide_120 rfl (lv_at hl 1 rfl) ?_
          refine lv_iconst (v := 1) hx hb dX9_takesSide_121 (by decide) ?_
          refine lv_iadd hx hb dX9_takesSide_122 ?_
          refine lv_iload_n hx hb dX9_takesSide_123 rfl (lv_at hl 3 rfl) ?_
          refine lv_iload hx hb dX9_takesSide_124 (lv_at hl 4 rfl) ?_
          obtain ⟨r_25, S_26, hc_27, hf⟩ := bo_inv hf
          refine w_ci (va_runV (As := [.int (x1 + (1 : Int32)), .int x3, .int x4]) (rest := []) ⟨hx, hb, hml, hown, hts⟩ (c_X9_boundBoth l D y ad aL aU hI n S ((x1 + (1 : Int32))) x3 x4 _ _ hc_27) (cwV 3 hts gX9_takesSide_X9_boundBoth rfl rfl rfl (by decide +kernel) ⟨Nat.le_of_ble_eq_true rfl, Nat.le_of_ble_eq_true rfl⟩) (pwu_V t_28 rfl hP hK hZ hS) rfl rfl hl.1 rfl (lv_room (Nat.le_of_ble_eq_true rfl)) dX9_takesSide_126 ⟨Nat.zero_le _, Nat.zero_le _⟩) hS (fun H locs hP hS => ?_)
          obtain ⟨g_28, hf⟩ := gd_inv hf
          exact w_zret hx hb hr hlocks g_28 hP hS (rt_inv hf) dX9_takesSide_129
      · have hf := if_t b_20 hf
        refine lv_iload_n hx hb dX9_takesSide_67 rfl (lv_at hl 2 rfl) ?_
        refine lv_if_ne (tgt := 87) hx hb dX9_takesSide_68 (by decide) (fun b_29 => ?_) (fun b_29 => ?_)
        · have hf := if_f b_29 hf
          refine lv_iload_n hx hb dX9_takesSide_87 rfl (lv_at hl 2 rfl) ?_
          refine lv_iconst (v := 1) hx hb dX9_takesSide_88 (by decide) ?_
          refine lv_icmp_ne (tgt := 112) hx hb dX9_takesSide_89 (by decide) (fun b_30 => ?_) (fun b_30 => ?_)
          · have hf := if_f b_30 hf
            refine lv_iconst (v := 0) hx hb dX9_takesSide_112 (by decide) ?_
            exact w_zret hx hb hr hlocks (fun h => h (by decide)) hP hS (rt_inv hf) dX9_takesSide_113
          · have hf := if_t b_30 hf
            refine lv_aload_n hx hb dX9_takesSide_92 rfl (lv_at hl 0 rfl) ?_
            refine lv_iload_n hx hb dX9_takesSide_93 rfl (lv_at hl 1 rfl) ?_
            refine lv_iconst (v := 1) hx hb dX9_takesSide_94 (by decide) ?_
            refine lv_iadd hx hb dX9_takesSide_95 ?_
            refine lv_iload hx hb dX9_takesSide_96 (lv_at hl 4 rfl) ?_
            refine lv_iload_n hx hb dX9_takesSide_98 rfl (lv_at hl 3 rfl) ?_
            refine lv_ldc2 (v := (-1)) hx hb hown K242 dX9_takesSide_99 ?_
            obtain ⟨r_31, S_32, hc_33, hf⟩ := bo_inv hf
            refine w_ci (va_runV (As := [.int (x1 + (1 : Int32)), .int x4, .int x3, .long (-1 : Int64)]) (rest := []) ⟨hx, hb, hml, hown, hts⟩ (c_X9_bound l D y ad aL aU hI n S ((x1 + (1 : Int32))) x4 x3 (-1 : Int64) _ _ hc_33) (cwV 4 hts gX9_takesSide_X9_bound rfl rfl rfl (by decide +kernel) ⟨Nat.le_of_ble_eq_true rfl, Nat.le_of_ble_eq_true rfl⟩) (pwu_V t_28 rfl hP hK hZ hS) rfl rfl hl.1 rfl (lv_room (Nat.le_of_ble_eq_true rfl)) dX9_takesSide_102 ⟨Nat.zero_le _, Nat.zero_le _⟩) hS (fun H locs hP hS => ?_)
            refine lv_if_eq (tgt := 112) hx hb dX9_takesSide_105 (by decide) (fun b_34 => ?_) (fun b_34 => ?_)
            · have hf := if_t b_34 hf
              refine lv_iconst (v := 0) hx hb dX9_takesSide_112 (by decide) ?_
              exact w_zret hx hb hr hlocks (fun h => h (by decide)) hP hS (rt_inv hf) dX9_takesSide_113
            · have hf := if_f b_34 hf
              refine lv_iconst (v := 1) hx hb dX9_takesSide_108 (by decide) ?_
              refine lv_goto (tgt := 113) hx hb dX9_takesSide_109 (by decide) ?_
              exact w_zret hx hb hr hlocks (fun h => h (by decide)) hP hS (rt_inv hf) dX9_takesSide_113
        · have hf := if_t b_29 hf
          refine lv_aload_n hx hb dX9_takesSide_71 rfl (lv_at hl 0 rfl) ?_
          refine lv_iload_n hx hb dX9_takesSide_72 rfl (lv_at hl 1 rfl) ?_
          refine lv_iconst (v := 1) hx hb dX9_takesSide_73 (by decide) ?_
          refine lv_iadd hx hb dX9_takesSide_74 ?_
          refine lv_iload_n hx hb dX9_takesSide_75 rfl (lv_at hl 3 rfl) ?_
          refine lv_iload hx hb dX9_takesSide_76 (lv_at hl 4 rfl) ?_
          refine lv_ldc2 (v := (-1)) hx hb hown K242 dX9_takesSide_78 ?_
          obtain ⟨r_35, S_36, hc_37, hf⟩ := bo_inv hf
          refine w_ci (va_runV (As := [.int (x1 + (1 : Int32)), .int x3, .int x4, .long (-1 : Int64)]) (rest := []) ⟨hx, hb, hml, hown, hts⟩ (c_X9_bound l D y ad aL aU hI n S ((x1 + (1 : Int32))) x3 x4 (-1 : Int64) _ _ hc_37) (cwV 4 hts gX9_takesSide_X9_bound rfl rfl rfl (by decide +kernel) ⟨Nat.le_of_ble_eq_true rfl, Nat.le_of_ble_eq_true rfl⟩) (pwu_V t_28 rfl hP hK hZ hS) rfl rfl hl.1 rfl (lv_room (Nat.le_of_ble_eq_true rfl)) dX9_takesSide_81 ⟨Nat.zero_le _, Nat.zero_le _⟩) hS (fun H locs hP hS => ?_)
          refine lv_goto (tgt := 113) hx hb dX9_takesSide_84 (by decide) ?_
          obtain ⟨g_38, hf⟩ := gd_inv hf
          exact w_zret hx hb hr hlocks g_38 hP hS (rt_inv hf) dX9_takesSide_113
    · have hf := if_f b_18 hf
      refine lv_aload_n hx hb dX9_takesSide_25 rfl (lv_at hl 0 rfl) ?_
      refine w_gR (z := 43) (C := RX9) (T := TX9) hx hb hts n9 hown hK hP t_28 rfl 29 (by decide) L53 rfl rfl dX9_takesSide_26 ?_
      refine lv_bipush (v := (100)) hx hb dX9_takesSide_29 (by decide) ?_
      refine lv_iload_n hx hb dX9_takesSide_31 rfl (lv_at hl 1 rfl) ?_
      refine lv_imul hx hb dX9_takesSide_32 ?_
      refine lv_bipush (v := (100)) hx hb dX9_takesSide_33 (by decide) ?_
      refine lv_iadd hx hb dX9_takesSide_35 ?_
      refine lv_iload hx hb dX9_takesSide_36 (lv_at hl 5 rfl) ?_
      refine lv_iadd hx hb dX9_takesSide_38 ?_
      refine lv_aload_n hx hb dX9_takesSide_39 rfl (lv_at hl 0 rfl) ?_
      refine w_gR (z := 43) (C := RX9) (T := TX9) hx hb hts n9 hown hK hP t_28 rfl 29 (by decide) L53 rfl rfl dX9_takesSide_40 ?_
      refine lv_bipush (v := (100)) hx hb dX9_takesSide_43 (by decide) ?_
      refine lv_iload_n hx hb dX9_takesSide_45 rfl (lv_at hl 1 rfl) ?_
      refine lv_imul hx hb dX9_takesSide_46 ?_
      refine lv_iload hx hb dX9_takesSide_47 (lv_at hl 5 rfl) ?_
      refine lv_iadd hx hb dX9_takesSide_49 ?_
      obtain ⟨g_39, hf⟩ := gd_inv hf
      refine w_lald hx hb hK hP t_43 g_39 dX9_takesSide_50 ?_
      obtain ⟨g_40, hf⟩ := gd_inv hf
      obtain ⟨S_41, eS_41, hf⟩ := bd_inv hf
      refine w_last hx hb hK hI hP hS t_43 g_40 dX9_takesSide_51 (fun H locs hP hS => ?_)
      rw [← eS_41] at hP
      obtain ⟨x5_42, ex5_42, hf⟩ := bd_inv hf
      refine lv_iinc (v := x5_42) (lv' := [(5, .int x5_42), (0, .ref (ad 28)), (1, .int x1), (2, .int x2), (3, .int x3), (4, .int x4)]) hx hb dX9_takesSide_52 hl (k := 5) rfl (by rw [ex5_42]; rfl) (by decide) rfl (fun ls hl => ?_)
      refine lv_goto (tgt := 18) hx hb dX9_takesSide_55 (by decide) ?_
      exact hk18 S_41 x5_42 _ _ _ hf hP hS (lv_sub hl [1, 2, 3, 4, 5, 0] rfl)
  have j18 : ∀ (x1 : Int32) (x2 : Int32) (x3 : Int32) (x4 : Int32) (fu : Nat), ∀ (S : St) (x5 : Int32) (H : Heap) (locs : List Loc) (ls : Array Slot), fixF (fun _ _ => none) (f_X9_takesSide_18 n x1 x2 x3 x4) fu S x5 = some (r, S2) → PW D y ad S H → va_S (AA ad) s.heap H locs → lv_has ls 7 [(0, .ref (ad 28)), (1, .int x1), (2, .int x2), (3, .int x3), (4, .int x4), (5, .int x5)] → W p l e (headSpec wsX9_takesSide ({ frames := 4, cells := 0, slots := 0, locals := 100 })).room s m ([.ref (ad 28), .int a1, .int a2] : List Value).toArray below meth c H locs 0 0 (QI below r S2 D y ad ([.ref (ad 28), .int a1, .int a2] : List Value).toArray s) (F0 m 18 ls []) := by
    intro x1 x2 x3 x4  fu
    induction fu with
    | zero => intro S x5 H locs ls hf hP hS hl; cases hf
    | succ fu ih => exact b18 x1 x2 x3 x4  (fixF (fun _ _ => none) (f_X9_takesSide_18 n x1 x2 x3 x4) fu) ih
  unfold f_X9_takesSide at hf
  refine lv_aload_n hx hb dX9_takesSide_0 rfl (lv_at hl 0 rfl) ?_
  refine w_gR (z := 46) (C := RX9) (T := TX9) hx hb hts n9 hown hK hP t_28 rfl 43 (by decide) L62 rfl rfl dX9_takesSide_1 ?_
  refine lv_iload_n hx hb dX9_takesSide_4 rfl (lv_at hl 1 rfl) ?_
  obtain ⟨g_43, hf⟩ := gd_inv hf
  refine w_iald hx hb hK hP t_46 g_43 dX9_takesSide_5 ?_
  obtain ⟨x3_44, ex3_44, hf⟩ := bd_inv hf
  refine w_topI ex3_44 ?_
  refine lv_istore_n (lv' := [(3, .int x3_44), (0, .ref (ad 28)), (1, .int a1), (2, .int a2)]) hx hb dX9_takesSide_6 rfl hl (by decide) rfl (fun ls hl => ?_)
  refine lv_aload_n hx hb dX9_takesSide_7 rfl (lv_at hl 1 rfl) ?_
  refine w_gR (z := 47) (C := RX9) (T := TX9) hx hb hts n9 hown hK hP t_28 rfl 44 (by decide) L65 rfl rfl dX9_takesSide_8 ?_
  refine lv_iload_n hx hb dX9_takesSide_11 rfl (lv_at hl 2 rfl) ?_
  obtain ⟨g_45, hf⟩ := gd_inv hf
  refine w_iald hx hb hK hP t_47 g_45 dX9_takesSide_12 ?_
  obtain ⟨x4_46, ex4_46, hf⟩ := bd_inv hf
  refine w_topI ex4_46 ?_
  refine lv_istore (lv' := [(4, .int x4_46), (3, .int x3_44), (0, .ref (ad 28)), (1, .int a1), (2, .int a2)]) hx hb dX9_takesSide_13 hl (by decide) rfl (fun ls hl => ?_)
  refine lv_iconst (v := 0) hx hb dX9_takesSide_15 (by decide) ?_
  obtain ⟨x5_47, ex5_47, hf⟩ := bd_inv hf
  refine w_topI ex5_47 ?_
  refine lv_istore (lv' := [(5, .int x5_47), (4, .int x4_46), (3, .int x3_44), (0, .ref (ad 28)), (1, .int a1), (2, .int a2)]) hx hb dX9_takesSide_16 hl (by decide) rfl (fun ls hl => ?_)
  exact j18 a1 a2 x3_44 x4_46  n S x5_47 _ _ _ hf hP hS (lv_sub hl [3, 4, 5, 2, 1, 0] rfl)
set_option maxHeartbeats 4000000 in
set_option maxRecDepth 100000 in
theorem c_X9_soughtBy (l : Launch) (D : va_G) (y : y4) (ad : Nat → Nat) (aL aU : Nat) (hI : Inj ad) (n : Nat) (S : St) (a1 : Int32) (r : Int64) (S2 : St) (hf : f_X9_soughtBy n S a1 = some (r, S2)) : KL l D y ad aL aU yX9_soughtBy wsX9_soughtBy ({ frames := 1, cells := 0, slots := 0, locals := 20 }) [.ref (ad 28), .int a1] S r S2 := by
  refine Met.ofW (cc := cX9_soughtBy) (maxL := 2) (ret := (some .long)) (by decide) rfl ?_
  intro p e s m args below meth c s₁ B hml hv
  obtain ⟨rfl, hP, hK, hZ⟩ := hv
  have hx := B.exec
  have hb := B.bytes
  have hr := B.returns
  have hts := atoms_spec (ws := wsX9_soughtBy) B.pre
  have hown : s.vm.findClass RX9 = some m.cls := findClass_of_methodNamed B.named
  have hlocks := B.notSynchronized
  have hS : va_S (AA ad) s.heap s.heap [] := va_S.rf
  have L53 := hts (.fieldLink RX9 53 "JoinedTheoriesModel" "bounds" "[J") (by decide +kernel)
  have L244 := hts (.fieldLink RX9 244 "JoinedTheoriesModel" "wantTo" "I") (by decide +kernel)
  have L265 := hts (.fieldLink RX9 265 "JoinedTheoriesModel" "wantFrom" "I") (by decide +kernel)
  have n9 : ∀ w ∈ wsX90, w ∈ wsX9_soughtBy := by decide +kernel
  have hl := lv_entry ([.ref (ad 28), .int a1]) (n := 2) (Nat.le_of_ble_eq_true rfl)
  rw [lg_entry_eq]
  generalize (lg_sl ([.ref (ad 28), .int a1]) ++ List.replicate (2 - (lg_sl ([.ref (ad 28), .int a1])).length) Slot.unset).toArray = ls at hl ⊢
  have hl : lv_has ls 2 [(0, .ref (ad 28)), (1, .int a1)] := hl
  unfold f_X9_soughtBy at hf
  refine lv_aload_n hx hb dX9_soughtBy_0 rfl (lv_at hl 0 rfl) ?_
  refine w_gR (z := 43) (C := RX9) (T := TX9) hx hb hts n9 hown hK hP t_28 rfl 29 (by decide) L53 rfl rfl dX9_soughtBy_1 ?_
  refine lv_bipush (v := (100)) hx hb dX9_soughtBy_4 (by decide) ?_
  refine lv_iload_n hx hb dX9_soughtBy_6 rfl (lv_at hl 1 rfl) ?_
  refine lv_imul hx hb dX9_soughtBy_7 ?_
  refine lv_bipush (v := (10)) hx hb dX9_soughtBy_8 (by decide) ?_
  refine lv_aload_n hx hb dX9_soughtBy_10 rfl (lv_at hl 0 rfl) ?_
  refine w_gI (C := RX9) (T := TX9) hx hb hts n9 hown hK hP t_28 rfl 37 (by decide) L265 rfl dX9_soughtBy_11 ?_
  refine lv_imul hx hb dX9_soughtBy_14 ?_
  refine lv_iadd hx hb dX9_soughtBy_15 ?_
  refine lv_aload_n hx hb dX9_soughtBy_16 rfl (lv_at hl 0 rfl) ?_
  refine w_gI (C := RX9) (T := TX9) hx hb hts n9 hown hK hP t_28 rfl 38 (by decide) L244 rfl dX9_soughtBy_17 ?_
  refine lv_iadd hx hb dX9_soughtBy_20 ?_
  obtain ⟨g_1, hf⟩ := gd_inv hf
  refine w_lald hx hb hK hP t_43 g_1 dX9_soughtBy_21 ?_
  exact w_lret hx hb hr hlocks hP hS (rt_inv hf) dX9_soughtBy_22
set_option maxHeartbeats 4000000 in
set_option maxRecDepth 100000 in
theorem c_X9_isDone (l : Launch) (D : va_G) (y : y4) (ad : Nat → Nat) (aL aU : Nat) (hI : Inj ad) (n : Nat) (S : St) (r : Int32) (S2 : St) (hf : f_X9_isDone n S = some (r, S2)) : KI l D y ad aL aU yX9_isDone wsX9_isDone ({ frames := 1, cells := 0, slots := 0, locals := 20 }) [.ref (ad 28)] S r S2 := by
  refine Met.ofW (cc := cX9_isDone) (maxL := 1) (ret := (some .boolean)) (by decide) rfl ?_
  intro p e s m args below meth c s₁ B hml hv
  obtain ⟨rfl, hP, hK, hZ⟩ := hv
  have hx := B.exec
  have hb := B.bytes
  have hr := B.returns
  have hts := atoms_spec (ws := wsX9_isDone) B.pre
  have hown : s.vm.findClass RX9 = some m.cls := findClass_of_methodNamed B.named
  have hlocks := B.notSynchronized
  have hS : va_S (AA ad) s.heap s.heap [] := va_S.rf
  have L244 := hts (.fieldLink RX9 244 "JoinedTheoriesModel" "wantTo" "I") (by decide +kernel)
  have L268 := hts (.fieldLink RX9 268 "JoinedTheoriesModel" "isEndless" "Z") (by decide +kernel)
  have L271 := hts (.fieldLink RX9 271 "JoinedTheoriesModel" "isFound" "Z") (by decide +kernel)
  have K140 := hts (.constant RX9 140 (-2000000001)) (by decide +kernel)
  have n9 : ∀ w ∈ wsX90, w ∈ wsX9_isDone := by decide +kernel
  have hl := lv_entry ([.ref (ad 28)]) (n := 1) (Nat.le_of_ble_eq_true rfl)
  rw [lg_entry_eq]
  generalize (lg_sl ([.ref (ad 28)]) ++ List.replicate (1 - (lg_sl ([.ref (ad 28)])).length) Slot.unset).toArray = ls at hl ⊢
  have hl : lv_has ls 1 [(0, .ref (ad 28))] := hl
  have j23 : ∀ (S : St) (H : Heap) (locs : List Loc) (ls : Array Slot), f_X9_isDone_23 n S = some (r, S2) → PW D y ad S H → va_S (AA ad) s.heap H locs → lv_has ls 1 [(0, .ref (ad 28))] → W p l e (headSpec wsX9_isDone ({ frames := 1, cells := 0, slots := 0, locals := 20 })).room s m ([.ref (ad 28)] : List Value).toArray below meth c H locs 0 0 (QI below r S2 D y ad ([.ref (ad 28)] : List Value).toArray s) (F0 m 23 ls []) := by
    intro  S H locs ls hf hP hS hl
    unfold f_X9_isDone_23 at hf
    refine lv_iconst (v := 1) hx hb dX9_isDone_23 (by decide) ?_
    refine lv_goto (tgt := 28) hx hb dX9_isDone_24 (by decide) ?_
    exact w_zret hx hb hr hlocks (fun h => h (by decide)) hP hS (rt_inv hf) dX9_isDone_28
  unfold f_X9_isDone at hf
  refine lv_aload_n hx hb dX9_isDone_0 rfl (lv_at hl 0 rfl) ?_
  refine w_gI (C := RX9) (T := TX9) hx hb hts n9 hown hK hP t_28 rfl 40 (by decide) L268 rfl dX9_isDone_1 ?_
  refine lv_if_ne (tgt := 23) hx hb dX9_isDone_4 (by decide) (fun b_1 => ?_) (fun b_1 => ?_)
  · have hf := if_f b_1 hf
    exact j23   S  _ _ _ hf hP hS (lv_sub hl [0] rfl)
  · have hf := if_t b_1 hf
    refine lv_aload_n hx hb dX9_isDone_7 rfl (lv_at hl 0 rfl) ?_
    refine w_gI (C := RX9) (T := TX9) hx hb hts n9 hown hK hP t_28 rfl 39 (by decide) L271 rfl dX9_isDone_8 ?_
    refine lv_if_eq (tgt := 27) hx hb dX9_isDone_11 (by decide) (fun b_2 => ?_) (fun b_2 => ?_)
    · have hf := if_t b_2 hf
      refine lv_iconst (v := 0) hx hb dX9_isDone_27 (by decide) ?_
      exact w_zret hx hb hr hlocks (fun h => h (by decide)) hP hS (rt_inv hf) dX9_isDone_28
    · have hf := if_f b_2 hf
      refine lv_aload_n hx hb dX9_isDone_14 rfl (lv_at hl 0 rfl) ?_
      refine w_gI (C := RX9) (T := TX9) hx hb hts n9 hown hK hP t_28 rfl 38 (by decide) L244 rfl dX9_isDone_15 ?_
      refine lv_ldc (v := (-2000000001)) hx hb hown K140 dX9_isDone_18 ?_
      refine lv_icmp_ne (tgt := 27) hx hb dX9_isDone_20 (by decide) (fun b_3 => ?_) (fun b_3 => ?_)
      · have hf := if_f b_3 hf
        refine lv_iconst (v := 0) hx hb dX9_isDone_27 (by decide) ?_
        exact w_zret hx hb hr hlocks (fun h => h (by decide)) hP hS (rt_inv hf) dX9_isDone_28
      · have hf := if_t b_3 hf
        exact j23   S  _ _ _ hf hP hS (lv_sub hl [0] rfl)
set_option maxHeartbeats 4000000 in
set_option maxRecDepth 100000 in
theorem c_X9_opens (l : Launch) (D : va_G) (y : y4) (ad : Nat → Nat) (aL aU : Nat) (hI : Inj ad) (n : Nat) (S : St) (a1 : Int32) (r : Int32) (S2 : St) (hf : f_X9_opens n S a1 = some (r, S2)) : KI l D y ad aL aU yX9_opens wsX9_opens ({ frames := 4, cells := 0, slots := 0, locals := 90 }) [.ref (ad 28), .int a1] S r S2 := by
  refine Met.ofW (cc := cX9_opens) (maxL := 2) (ret := (some .boolean)) (by decide) rfl ?_
  intro p e s m args below meth c s₁ B hml hv
  obtain ⟨rfl, hP, hK, hZ⟩ := hv
  have hx := B.exec
  have hb := B.bytes
  have hr := B.returns
  have hts := atoms_spec (ws := wsX9_opens) B.pre
  have hown : s.vm.findClass RX9 = some m.cls := findClass_of_methodNamed B.named
  have hlocks := B.notSynchronized
  have hS : va_S (AA ad) s.heap s.heap [] := va_S.rf
  have L244 := hts (.fieldLink RX9 244 "JoinedTheoriesModel" "wantTo" "I") (by decide +kernel)
  have L268 := hts (.fieldLink RX9 268 "JoinedTheoriesModel" "isEndless" "Z") (by decide +kernel)
  have L271 := hts (.fieldLink RX9 271 "JoinedTheoriesModel" "isFound" "Z") (by decide +kernel)
  have L278 := hts (.fieldLink RX9 278 "JoinedTheoriesModel" "greatest" "J") (by decide +kernel)
  have K140 := hts (.constant RX9 140 (-2000000001)) (by decide +kernel)
  have K176 := hts (.constantLong RX9 176 (1152921504606846976)) (by decide +kernel)
  have n9 : ∀ w ∈ wsX90, w ∈ wsX9_opens := by decide +kernel
  have hl := lv_entry ([.ref (ad 28), .int a1]) (n := 2) (Nat.le_of_ble_eq_true rfl)
  rw [lg_entry_eq]
  generalize (lg_sl ([.ref (ad 28), .int a1]) ++ List.replicate (2 - (lg_sl ([.ref (ad 28), .int a1])).length) Slot.unset).toArray = ls at hl ⊢
  have hl : lv_has ls 2 [(0, .ref (ad 28)), (1, .int a1)] := hl
  have j100 : ∀ (S : St) (t1 : Int64) (H : Heap) (locs : List Loc) (ls : Array Slot), f_X9_opens_100 n S t1 = some (r, S2) → PW D y ad S H → va_S (AA ad) s.heap H locs → lv_has ls 2 [(0, .ref (ad 28))] → W p l e (headSpec wsX9_opens ({ frames := 4, cells := 0, slots := 0, locals := 90 })).room s m ([.ref (ad 28), .int a1] : List Value).toArray below meth c H locs 0 0 (QI below r S2 D y ad ([.ref (ad 28), .int a1] : List Value).toArray s) (F0 m 100 ls [.long t1, .ref (ad 28)]) := by
    intro  S t1 H locs ls hf hP hS hl
    unfold f_X9_opens_100 at hf
    obtain ⟨S_1, eS_1, hf⟩ := bd_inv hf
    refine w_pL (C := RX9) (T := TX9) hx hb hts n9 tyX9 tyX9_ok nmX9 hown hK hI hP hS t_28 rfl 41 (by decide) L278 rfl rfl rfl dX9_opens_100 (fun H locs hP hS => ?_)
    rw [← eS_1] at hP
    refine lv_iconst (v := 0) hx hb dX9_opens_103 (by decide) ?_
    exact w_zret hx hb hr hlocks (fun h => h (by decide)) hP hS (rt_inv hf) dX9_opens_104
  have j78 : ∀ (S : St) (x1 : Int32) (t1 : Int32) (H : Heap) (locs : List Loc) (ls : Array Slot), f_X9_opens_78 n S x1 t1 = some (r, S2) → PW D y ad S H → va_S (AA ad) s.heap H locs → lv_has ls 2 [(0, .ref (ad 28)), (1, .int x1)] → W p l e (headSpec wsX9_opens ({ frames := 4, cells := 0, slots := 0, locals := 90 })).room s m ([.ref (ad 28), .int a1] : List Value).toArray below meth c H locs 0 0 (QI below r S2 D y ad ([.ref (ad 28), .int a1] : List Value).toArray s) (F0 m 78 ls [.int t1, .ref (ad 28)]) := by
    intro  S x1 t1 H locs ls hf hP hS hl
    unfold f_X9_opens_78 at hf
    obtain ⟨g_3, hf⟩ := gd_inv hf
    obtain ⟨S_2, eS_2, hf⟩ := bd_inv hf
    refine w_pI (ty := .boolean) (C := RX9) (T := TX9) hx hb hts n9 tyX9 tyX9_ok nmX9 hown hK hI hP hS t_28 rfl 40 (by decide) L268 rfl rfl rfl (zok g_3) dX9_opens_78 (fun H locs hP hS => ?_)
    rw [← eS_2] at hP
    refine lv_aload_n hx hb dX9_opens_81 rfl (lv_at hl 0 rfl) ?_
    refine lv_aload_n hx hb dX9_opens_82 rfl (lv_at hl 0 rfl) ?_
    refine w_gI (C := RX9) (T := TX9) hx hb hts n9 hown hK hP t_28 rfl 38 (by decide) L244 rfl dX9_opens_83 ?_
    refine lv_ldc (v := (-2000000001)) hx hb hown K140 dX9_opens_86 ?_
    refine lv_icmp_eq (tgt := 99) hx hb dX9_opens_88 (by decide) (fun b_4 => ?_) (fun b_4 => ?_)
    · have hf := if_t b_4 hf
      refine lv_lconst (v := 0) hx hb dX9_opens_99 (by decide) ?_
      exact j100   S_2 ((0 : Int64)) _ _ _ hf hP hS (lv_sub hl [0] rfl)
    · have hf := if_f b_4 hf
      refine lv_aload_n hx hb dX9_opens_91 rfl (lv_at hl 0 rfl) ?_
      refine lv_iload_n hx hb dX9_opens_92 rfl (lv_at hl 1 rfl) ?_
      obtain ⟨r_5, S_6, hc_7, hf⟩ := bo_inv hf
      refine w_cl (va_runV (As := [.int x1]) (rest := [.ref (ad 28)]) ⟨hx, hb, hml, hown, hts⟩ (c_X9_soughtBy l D y ad aL aU hI n S_2 x1 _ _ hc_7) (cwV 1 hts gX9_opens_X9_soughtBy rfl rfl rfl (by decide +kernel) ⟨Nat.le_of_ble_eq_true rfl, Nat.le_of_ble_eq_true rfl⟩) (pwu_V t_28 rfl hP hK hZ hS) rfl rfl hl.1 rfl (lv_room (Nat.le_of_ble_eq_true rfl)) dX9_opens_93 ⟨Nat.zero_le _, Nat.zero_le _⟩) hS (fun H locs hP hS => ?_)
      refine lv_goto (tgt := 100) hx hb dX9_opens_96 (by decide) ?_
      exact j100   S_6 r_5 _ _ _ hf hP hS (lv_sub hl [0] rfl)
  have j77 : ∀ (S : St) (x1 : Int32) (H : Heap) (locs : List Loc) (ls : Array Slot), f_X9_opens_77 n S x1 = some (r, S2) → PW D y ad S H → va_S (AA ad) s.heap H locs → lv_has ls 2 [(0, .ref (ad 28)), (1, .int x1)] → W p l e (headSpec wsX9_opens ({ frames := 4, cells := 0, slots := 0, locals := 90 })).room s m ([.ref (ad 28), .int a1] : List Value).toArray below meth c H locs 0 0 (QI below r S2 D y ad ([.ref (ad 28), .int a1] : List Value).toArray s) (F0 m 77 ls [.ref (ad 28)]) := by
    intro  S x1 H locs ls hf hP hS hl
    unfold f_X9_opens_77 at hf
    refine lv_iconst (v := 0) hx hb dX9_opens_77 (by decide) ?_
    exact j78   S x1 ((0 : Int32)) _ _ _ hf hP hS (lv_sub hl [0, 1] rfl)
  have j31 : ∀ (S : St) (x1 : Int32) (H : Heap) (locs : List Loc) (ls : Array Slot), f_X9_opens_31 n S x1 = some (r, S2) → PW D y ad S H → va_S (AA ad) s.heap H locs → lv_has ls 2 [(0, .ref (ad 28)), (1, .int x1)] → W p l e (headSpec wsX9_opens ({ frames := 4, cells := 0, slots := 0, locals := 90 })).room s m ([.ref (ad 28), .int a1] : List Value).toArray below meth c H locs 0 0 (QI below r S2 D y ad ([.ref (ad 28), .int a1] : List Value).toArray s) (F0 m 31 ls []) := by
    intro  S x1 H locs ls hf hP hS hl
    unfold f_X9_opens_31 at hf
    refine lv_aload_n hx hb dX9_opens_31 rfl (lv_at hl 0 rfl) ?_
    refine lv_iload_n hx hb dX9_opens_32 rfl (lv_at hl 1 rfl) ?_
    obtain ⟨r_8, S_9, hc_10, hf⟩ := bo_inv hf
    refine w_cv (va_runV (As := [.int x1]) (rest := []) ⟨hx, hb, hml, hown, hts⟩ (c_X9_fill l D y ad aL aU hI n S x1 _ _ hc_10) (cwV 1 hts gX9_opens_X9_fill rfl rfl rfl (by decide +kernel) ⟨Nat.le_of_ble_eq_true rfl, Nat.le_of_ble_eq_true rfl⟩) (pwu_V t_28 rfl hP hK hZ hS) rfl rfl hl.1 rfl (lv_room (Nat.le_of_ble_eq_true rfl)) dX9_opens_33 ⟨Nat.zero_le _, Nat.zero_le _⟩) hS (fun H locs hP hS => ?_)
    refine lv_aload_n hx hb dX9_opens_36 rfl (lv_at hl 0 rfl) ?_
    refine lv_iload_n hx hb dX9_opens_37 rfl (lv_at hl 1 rfl) ?_
    obtain ⟨r_11, S_12, hc_13, hf⟩ := bo_inv hf
    refine w_ci (va_runV (As := [.int x1]) (rest := []) ⟨hx, hb, hml, hown, hts⟩ (c_X9_findsSplit l D y ad aL aU hI n S_9 x1 _ _ hc_13) (cwV 1 hts gX9_opens_X9_findsSplit rfl rfl rfl (by decide +kernel) ⟨Nat.le_of_ble_eq_true rfl, Nat.le_of_ble_eq_true rfl⟩) (pwu_V t_28 rfl hP hK hZ hS) rfl rfl hl.1 rfl (lv_room (Nat.le_of_ble_eq_true rfl)) dX9_opens_38 ⟨Nat.zero_le _, Nat.zero_le _⟩) hS (fun H locs hP hS => ?_)
    refine lv_if_eq (tgt := 46) hx hb dX9_opens_41 (by decide) (fun b_14 => ?_) (fun b_14 => ?_)
    · have hf := if_t b_14 hf
      refine lv_aload_n hx hb dX9_opens_46 rfl (lv_at hl 0 rfl) ?_
      refine lv_iconst (v := 1) hx hb dX9_opens_47 (by decide) ?_
      obtain ⟨S_15, eS_15, hf⟩ := bd_inv hf
      refine w_pI (ty := .boolean) (C := RX9) (T := TX9) hx hb hts n9 tyX9 tyX9_ok nmX9 hown hK hI hP hS t_28 rfl 39 (by decide) L271 rfl rfl rfl ⟨rfl, rfl⟩ dX9_opens_48 (fun H locs hP hS => ?_)
      rw [← eS_15] at hP
      refine lv_aload_n hx hb dX9_opens_51 rfl (lv_at hl 0 rfl) ?_
      refine lv_aload_n hx hb dX9_opens_52 rfl (lv_at hl 0 rfl) ?_
      refine w_gI (C := RX9) (T := TX9) hx hb hts n9 hown hK hP t_28 rfl 38 (by decide) L244 rfl dX9_opens_53 ?_
      refine lv_ldc (v := (-2000000001)) hx hb hown K140 dX9_opens_56 ?_
      refine lv_icmp_eq (tgt := 77) hx hb dX9_opens_58 (by decide) (fun b_16 => ?_) (fun b_16 => ?_)
      · have hf := if_t b_16 hf
        exact j77   S_15 x1 _ _ _ hf hP hS (lv_sub hl [0, 1] rfl)
      · have hf := if_f b_16 hf
        refine lv_aload_n hx hb dX9_opens_61 rfl (lv_at hl 0 rfl) ?_
        refine lv_iload_n hx hb dX9_opens_62 rfl (lv_at hl 1 rfl) ?_
        obtain ⟨r_17, S_18, hc_19, hf⟩ := bo_inv hf
        refine w_cl (va_runV (As := [.int x1]) (rest := [.ref (ad 28)]) ⟨hx, hb, hml, hown, hts⟩ (c_X9_soughtBy l D y ad aL aU hI n S_15 x1 _ _ hc_19) (cwV 1 hts gX9_opens_X9_soughtBy rfl rfl rfl (by decide +kernel) ⟨Nat.le_of_ble_eq_true rfl, Nat.le_of_ble_eq_true rfl⟩) (pwu_V t_28 rfl hP hK hZ hS) rfl rfl hl.1 rfl (lv_room (Nat.le_of_ble_eq_true rfl)) dX9_opens_63 ⟨Nat.zero_le _, Nat.zero_le _⟩) hS (fun H locs hP hS => ?_)
        refine lv_ldc2 (v := (1152921504606846976)) hx hb hown K176 dX9_opens_66 ?_
        refine W.lcmp hx hb dX9_opens_69 ?_
        refine lv_if_ne (tgt := 77) hx hb dX9_opens_70 (by decide) (fun b_20 => ?_) (fun b_20 => ?_)
        · have hf := if_f b_20 hf
          exact j77   S_18 x1 _ _ _ hf hP hS (lv_sub hl [0, 1] rfl)
        · have hf := if_t b_20 hf
          refine lv_iconst (v := 1) hx hb dX9_opens_73 (by decide) ?_
          refine lv_goto (tgt := 78) hx hb dX9_opens_74 (by decide) ?_
          exact j78   S_18 x1 ((1 : Int32)) _ _ _ hf hP hS (lv_sub hl [0, 1] rfl)
    · have hf := if_f b_14 hf
      refine lv_iconst (v := 1) hx hb dX9_opens_44 (by decide) ?_
      exact w_zret hx hb hr hlocks (fun h => h (by decide)) hP hS (rt_inv hf) dX9_opens_45
  unfold f_X9_opens at hf
  refine lv_aload_n hx hb dX9_opens_0 rfl (lv_at hl 0 rfl) ?_
  refine w_gI (C := RX9) (T := TX9) hx hb hts n9 hown hK hP t_28 rfl 38 (by decide) L244 rfl dX9_opens_1 ?_
  refine lv_ldc (v := (-2000000001)) hx hb hown K140 dX9_opens_4 ?_
  refine lv_icmp_eq (tgt := 31) hx hb dX9_opens_6 (by decide) (fun b_21 => ?_) (fun b_21 => ?_)
  · have hf := if_t b_21 hf
    exact j31   S a1 _ _ _ hf hP hS (lv_sub hl [0, 1] rfl)
  · have hf := if_f b_21 hf
    refine lv_aload_n hx hb dX9_opens_9 rfl (lv_at hl 0 rfl) ?_
    refine w_gI (C := RX9) (T := TX9) hx hb hts n9 hown hK hP t_28 rfl 39 (by decide) L271 rfl dX9_opens_10 ?_
    refine lv_if_eq (tgt := 31) hx hb dX9_opens_13 (by decide) (fun b_22 => ?_) (fun b_22 => ?_)
    · have hf := if_t b_22 hf
      exact j31   S a1 _ _ _ hf hP hS (lv_sub hl [0, 1] rfl)
    · have hf := if_f b_22 hf
      refine lv_aload_n hx hb dX9_opens_16 rfl (lv_at hl 0 rfl) ?_
      refine lv_iload_n hx hb dX9_opens_17 rfl (lv_at hl 1 rfl) ?_
      obtain ⟨r_23, S_24, hc_25, hf⟩ := bo_inv hf
      refine w_cl (va_runV (As := [.int a1]) (rest := []) ⟨hx, hb, hml, hown, hts⟩ (c_X9_soughtBy l D y ad aL aU hI n S a1 _ _ hc_25) (cwV 1 hts gX9_opens_X9_soughtBy rfl rfl rfl (by decide +kernel) ⟨Nat.le_of_ble_eq_true rfl, Nat.le_of_ble_eq_true rfl⟩) (pwu_V t_28 rfl hP hK hZ hS) rfl rfl hl.1 rfl (lv_room (Nat.le_of_ble_eq_true rfl)) dX9_opens_18 ⟨Nat.zero_le _, Nat.zero_le _⟩) hS (fun H locs hP hS => ?_)
      refine lv_aload_n hx hb dX9_opens_21 rfl (lv_at hl 0 rfl) ?_
      refine w_gL (C := RX9) (T := TX9) hx hb hts n9 hown hK hP t_28 rfl 41 (by decide) L278 rfl dX9_opens_22 ?_
      refine W.lcmp hx hb dX9_opens_25 ?_
      refine lv_if_gt (tgt := 31) hx hb dX9_opens_26 (by decide) (fun b_26 => ?_) (fun b_26 => ?_)
      · have hf := if_t b_26 hf
        exact j31   S_24 a1 _ _ _ hf hP hS (lv_sub hl [0, 1] rfl)
      · have hf := if_f b_26 hf
        refine lv_iconst (v := 0) hx hb dX9_opens_29 (by decide) ?_
        exact w_zret hx hb hr hlocks (fun h => h (by decide)) hP hS (rt_inv hf) dX9_opens_30
set_option maxHeartbeats 4000000 in
set_option maxRecDepth 100000 in
theorem c_X9_explore (l : Launch) (D : va_G) (y : y4) (ad : Nat → Nat) (aL aU : Nat) (hI : Inj ad) (n : Nat) (S : St) (r : Unit) (S2 : St) (hf : f_X9_explore n S = some (r, S2)) : KV l D y ad aL aU yX9_explore wsX9_explore ({ frames := 5, cells := 0, slots := 0, locals := 126 }) [.ref (ad 28)] S r S2 := by
  refine Met.ofW (cc := cX9_explore) (maxL := 3) (ret := none) (by decide) rfl ?_
  intro p e s m args below meth c s₁ B hml hv
  obtain ⟨rfl, hP, hK, hZ⟩ := hv
  have hx := B.exec
  have hb := B.bytes
  have hr := B.returns
  have hts := atoms_spec (ws := wsX9_explore) B.pre
  have hown : s.vm.findClass RX9 = some m.cls := findClass_of_methodNamed B.named
  have hlocks := B.notSynchronized
  have hS : va_S (AA ad) s.heap s.heap [] := va_S.rf
  have L68 := hts (.fieldLink RX9 68 "JoinedTheoriesModel" "sideAt" "[I") (by decide +kernel)
  have K140 := hts (.constant RX9 140 (-2000000001)) (by decide +kernel)
  have n9 : ∀ w ∈ wsX90, w ∈ wsX9_explore := by decide +kernel
  have hl := lv_entry ([.ref (ad 28)]) (n := 3) (Nat.le_of_ble_eq_true rfl)
  rw [lg_entry_eq]
  generalize (lg_sl ([.ref (ad 28)]) ++ List.replicate (3 - (lg_sl ([.ref (ad 28)])).length) Slot.unset).toArray = ls at hl ⊢
  have hl : lv_has ls 3 [(0, .ref (ad 28))] := hl
  have j107 : ∀ (k10 : St → Int32 → Option (Unit × St)) (hk10 : ∀ (S : St) (x1 : Int32) (H : Heap) (locs : List Loc) (ls : Array Slot), k10 S x1 = some (r, S2) → PW D y ad S H → va_S (AA ad) s.heap H locs → lv_has ls 3 [(0, .ref (ad 28)), (1, .int x1)] → W p l e (headSpec wsX9_explore ({ frames := 5, cells := 0, slots := 0, locals := 126 })).room s m ([.ref (ad 28)] : List Value).toArray below meth c H locs 0 0 (QV below r S2 D y ad ([.ref (ad 28)] : List Value).toArray s) (F0 m 10 ls [])), ∀ (S : St) (x1 : Int32) (H : Heap) (locs : List Loc) (ls : Array Slot), f_X9_explore_107 n k10 S x1 = some (r, S2) → PW D y ad S H → va_S (AA ad) s.heap H locs → lv_has ls 3 [(0, .ref (ad 28)), (1, .int x1)] → W p l e (headSpec wsX9_explore ({ frames := 5, cells := 0, slots := 0, locals := 126 })).room s m ([.ref (ad 28)] : List Value).toArray below meth c H locs 0 0 (QV below r S2 D y ad ([.ref (ad 28)] : List Value).toArray s) (F0 m 107 ls []) := by
    intro  k10 hk10 S x1 H locs ls hf hP hS hl
    unfold f_X9_explore_107 at hf
    refine lv_goto (tgt := 10) hx hb dX9_explore_107 (by decide) ?_
    exact hk10 S x1 _ _ _ hf hP hS (lv_sub hl [0, 1] rfl)
  have j50 : ∀ (k10 : St → Int32 → Option (Unit × St)) (hk10 : ∀ (S : St) (x1 : Int32) (H : Heap) (locs : List Loc) (ls : Array Slot), k10 S x1 = some (r, S2) → PW D y ad S H → va_S (AA ad) s.heap H locs → lv_has ls 3 [(0, .ref (ad 28)), (1, .int x1)] → W p l e (headSpec wsX9_explore ({ frames := 5, cells := 0, slots := 0, locals := 126 })).room s m ([.ref (ad 28)] : List Value).toArray below meth c H locs 0 0 (QV below r S2 D y ad ([.ref (ad 28)] : List Value).toArray s) (F0 m 10 ls [])), ∀ (S : St) (x1 : Int32) (t1 : Int32) (t2 : Int32) (H : Heap) (locs : List Loc) (ls : Array Slot), f_X9_explore_50 n k10 S x1 t1 t2 = some (r, S2) → PW D y ad S H → va_S (AA ad) s.heap H locs → lv_has ls 3 [(0, .ref (ad 28)), (1, .int x1)] → W p l e (headSpec wsX9_explore ({ frames := 5, cells := 0, slots := 0, locals := 126 })).room s m ([.ref (ad 28)] : List Value).toArray below meth c H locs 0 0 (QV below r S2 D y ad ([.ref (ad 28)] : List Value).toArray s) (F0 m 50 ls [.int t2, .int t1, .ref (ad 48)]) := by
    intro  k10 hk10 S x1 t1 t2 H locs ls hf hP hS hl
    unfold f_X9_explore_50 at hf
    obtain ⟨g_1, hf⟩ := gd_inv hf
    obtain ⟨S_2, eS_2, hf⟩ := bd_inv hf
    refine w_iast hx hb hK hI hP hS t_48 g_1 dX9_explore_50 (fun H locs hP hS => ?_)
    rw [← eS_2] at hP
    refine lv_goto (tgt := 10) hx hb dX9_explore_51 (by decide) ?_
    exact hk10 S_2 x1 _ _ _ hf hP hS (lv_sub hl [0, 1] rfl)
  have b10 : ∀ (k10 : St → Int32 → Option (Unit × St)) (hk10 : ∀ (S : St) (x1 : Int32) (H : Heap) (locs : List Loc) (ls : Array Slot), k10 S x1 = some (r, S2) → PW D y ad S H → va_S (AA ad) s.heap H locs → lv_has ls 3 [(0, .ref (ad 28)), (1, .int x1)] → W p l e (headSpec wsX9_explore ({ frames := 5, cells := 0, slots := 0, locals := 126 })).room s m ([.ref (ad 28)] : List Value).toArray below meth c H locs 0 0 (QV below r S2 D y ad ([.ref (ad 28)] : List Value).toArray s) (F0 m 10 ls [])), ∀ (S : St) (x1 : Int32) (H : Heap) (locs : List Loc) (ls : Array Slot), f_X9_explore_10 n k10 S x1 = some (r, S2) → PW D y ad S H → va_S (AA ad) s.heap H locs → lv_has ls 3 [(0, .ref (ad 28)), (1, .int x1)] → W p l e (headSpec wsX9_explore ({ frames := 5, cells := 0, slots := 0, locals := 126 })).room s m ([.ref (ad 28)] : List Value).toArray below meth c H locs 0 0 (QV below r S2 D y ad ([.ref (ad 28)] : List Value).toArray s) (F0 m 10 ls []) := by
    intro  k10 hk10 S x1 H locs ls hf hP hS hl
    unfold f_X9_explore_10 at hf
    refine lv_iload_n hx hb dX9_explore_10 rfl (lv_at hl 1 rfl) ?_
    refine lv_if_lt (tgt := 110) hx hb dX9_explore_11 (by decide) (fun b_3 => ?_) (fun b_3 => ?_)
    · have hf := if_t b_3 hf
      exact w_vret hx hb hr hlocks hP hS (rt_inv hf) dX9_explore_110
    · have hf := if_f b_3 hf
      refine lv_aload_n hx hb dX9_explore_14 rfl (lv_at hl 0 rfl) ?_
      obtain ⟨r_4, S_5, hc_6, hf⟩ := bo_inv hf
      refine w_ci (va_runV (As := []) (rest := []) ⟨hx, hb, hml, hown, hts⟩ (c_X9_isDone l D y ad aL aU hI n S  _ _ hc_6) (cwV 0 hts gX9_explore_X9_isDone rfl rfl rfl (by decide +kernel) ⟨Nat.le_of_ble_eq_true rfl, Nat.le_of_ble_eq_true rfl⟩) (pwu_V t_28 rfl hP hK hZ hS) rfl rfl hl.1 rfl (lv_room (Nat.le_of_ble_eq_true rfl)) dX9_explore_15 ⟨Nat.zero_le _, Nat.zero_le _⟩) hS (fun H locs hP hS => ?_)
      refine lv_if_ne (tgt := 110) hx hb dX9_explore_18 (by decide) (fun b_7 => ?_) (fun b_7 => ?_)
      · have hf := if_f b_7 hf
        exact w_vret hx hb hr hlocks hP hS (rt_inv hf) dX9_explore_110
      · have hf := if_t b_7 hf
        refine lv_aload_n hx hb dX9_explore_21 rfl (lv_at hl 0 rfl) ?_
        refine w_gR (z := 48) (C := RX9) (T := TX9) hx hb hts n9 hown hK hP t_28 rfl 45 (by decide) L68 rfl rfl dX9_explore_22 ?_
        refine lv_iload_n hx hb dX9_explore_25 rfl (lv_at hl 1 rfl) ?_
        obtain ⟨g_8, hf⟩ := gd_inv hf
        refine w_iald hx hb hK hP t_48 g_8 dX9_explore_26 ?_
        refine lv_ldc (v := (-2000000001)) hx hb hown K140 dX9_explore_27 ?_
        refine lv_icmp_ne (tgt := 54) hx hb dX9_explore_29 (by decide) (fun b_9 => ?_) (fun b_9 => ?_)
        · have hf := if_f b_9 hf
          refine lv_aload_n hx hb dX9_explore_54 rfl (lv_at hl 0 rfl) ?_
          refine w_gR (z := 48) (C := RX9) (T := TX9) hx hb hts n9 hown hK hP t_28 rfl 45 (by decide) L68 rfl rfl dX9_explore_55 ?_
          refine lv_iload_n hx hb dX9_explore_58 rfl (lv_at hl 1 rfl) ?_
          obtain ⟨g_10, hf⟩ := gd_inv hf
          refine w_iald hx hb hK hP t_48 g_10 dX9_explore_59 ?_
          refine lv_iconst (v := 4) hx hb dX9_explore_60 (by decide) ?_
          refine lv_icmp_le (tgt := 70) hx hb dX9_explore_61 (by decide) (fun b_11 => ?_) (fun b_11 => ?_)
          · have hf := if_t b_11 hf
            refine lv_aload_n hx hb dX9_explore_70 rfl (lv_at hl 0 rfl) ?_
            refine lv_iload_n hx hb dX9_explore_71 rfl (lv_at hl 1 rfl) ?_
            refine lv_aload_n hx hb dX9_explore_72 rfl (lv_at hl 0 rfl) ?_
            refine w_gR (z := 48) (C := RX9) (T := TX9) hx hb hts n9 hown hK hP t_28 rfl 45 (by decide) L68 rfl rfl dX9_explore_73 ?_
            refine lv_iload_n hx hb dX9_explore_76 rfl (lv_at hl 1 rfl) ?_
            obtain ⟨g_12, hf⟩ := gd_inv hf
            refine w_iald hx hb hK hP t_48 g_12 dX9_explore_77 ?_
            obtain ⟨r_13, S_14, hc_15, hf⟩ := bo_inv hf
            refine w_ci (va_runV (As := [.int x1, .int (S_5.1 48 (x1).toNatClampNeg)]) (rest := []) ⟨hx, hb, hml, hown, hts⟩ (c_X9_takesSide l D y ad aL aU hI n S_5 x1 ((S_5.1 48 (x1).toNatClampNeg)) _ _ hc_15) (cwV 2 hts gX9_explore_X9_takesSide rfl rfl rfl (by decide +kernel) ⟨Nat.le_of_ble_eq_true rfl, Nat.le_of_ble_eq_true rfl⟩) (pwu_V t_28 rfl hP hK hZ hS) rfl rfl hl.1 rfl (lv_room (Nat.le_of_ble_eq_true rfl)) dX9_explore_78 ⟨Nat.zero_le _, Nat.zero_le _⟩) hS (fun H locs hP hS => ?_)
            obtain ⟨x2_16, ex2_16, hf⟩ := bd_inv hf
            refine w_topI ex2_16 ?_
            refine lv_istore_n (lv' := [(2, .int x2_16), (0, .ref (ad 28)), (1, .int x1)]) hx hb dX9_explore_81 rfl hl (by decide) rfl (fun ls hl => ?_)
            refine lv_aload_n hx hb dX9_explore_82 rfl (lv_at hl 1 rfl) ?_
            refine w_gR (z := 48) (C := RX9) (T := TX9) hx hb hts n9 hown hK hP t_28 rfl 45 (by decide) L68 rfl rfl dX9_explore_83 ?_
            refine lv_iload_n hx hb dX9_explore_86 rfl (lv_at hl 2 rfl) ?_
            refine lv_dup2_11 hx hb dX9_explore_87 rfl rfl ?_
            obtain ⟨g_17, hf⟩ := gd_inv hf
            refine w_iald hx hb hK hP t_48 g_17 dX9_explore_88 ?_
            refine lv_iconst (v := 1) hx hb dX9_explore_89 (by decide) ?_
            refine lv_iadd hx hb dX9_explore_90 ?_
            obtain ⟨g_18, hf⟩ := gd_inv hf
            obtain ⟨S_19, eS_19, hf⟩ := bd_inv hf
            refine w_iast hx hb hK hI hP hS t_48 g_18 dX9_explore_91 (fun H locs hP hS => ?_)
            rw [← eS_19] at hP
            refine lv_iload_n hx hb dX9_explore_92 rfl (lv_at hl 0 rfl) ?_
            refine lv_if_eq (tgt := 107) hx hb dX9_explore_93 (by decide) (fun b_20 => ?_) (fun b_20 => ?_)
            · have hf := if_t b_20 hf
              exact j107  k10 hk10 S_19 x1 _ _ _ hf hP hS (lv_sub hl [1, 2] rfl)
            · have hf := if_f b_20 hf
              obtain ⟨x1_21, ex1_21, hf⟩ := bd_inv hf
              refine lv_iinc (v := x1_21) (lv' := [(1, .int x1_21), (2, .int x2_16), (0, .ref (ad 28))]) hx hb dX9_explore_96 hl (k := 2) rfl (by rw [ex1_21]; rfl) (by decide) rfl (fun ls hl => ?_)
              refine lv_aload_n hx hb dX9_explore_99 rfl (lv_at hl 2 rfl) ?_
              refine w_gR (z := 48) (C := RX9) (T := TX9) hx hb hts n9 hown hK hP t_28 rfl 45 (by decide) L68 rfl rfl dX9_explore_100 ?_
              refine lv_iload_n hx hb dX9_explore_103 rfl (lv_at hl 0 rfl) ?_
              refine lv_ldc (v := (-2000000001)) hx hb hown K140 dX9_explore_104 ?_
              obtain ⟨g_22, hf⟩ := gd_inv hf
              obtain ⟨S_23, eS_23, hf⟩ := bd_inv hf
              refine w_iast hx hb hK hI hP hS t_48 g_22 dX9_explore_106 (fun H locs hP hS => ?_)
              rw [← eS_23] at hP
              exact j107  k10 hk10 S_23 x1_21 _ _ _ hf hP hS (lv_sub hl [2, 0] rfl)
          · have hf := if_f b_11 hf
            obtain ⟨x1_24, ex1_24, hf⟩ := bd_inv hf
            refine lv_iinc (v := x1_24) (lv' := [(1, .int x1_24), (0, .ref (ad 28))]) hx hb dX9_explore_64 hl (k := 1) rfl (by rw [ex1_24]; rfl) (by decide) rfl (fun ls hl => ?_)
            refine lv_goto (tgt := 10) hx hb dX9_explore_67 (by decide) ?_
            exact hk10 S_5 x1_24 _ _ _ hf hP hS (lv_sub hl [1, 0] rfl)
        · have hf := if_t b_9 hf
          refine lv_aload_n hx hb dX9_explore_32 rfl (lv_at hl 0 rfl) ?_
          refine w_gR (z := 48) (C := RX9) (T := TX9) hx hb hts n9 hown hK hP t_28 rfl 45 (by decide) L68 rfl rfl dX9_explore_33 ?_
          refine lv_iload_n hx hb dX9_explore_36 rfl (lv_at hl 1 rfl) ?_
          refine lv_aload_n hx hb dX9_explore_37 rfl (lv_at hl 0 rfl) ?_
          refine lv_iload_n hx hb dX9_explore_38 rfl (lv_at hl 1 rfl) ?_
          obtain ⟨r_25, S_26, hc_27, hf⟩ := bo_inv hf
          refine w_ci (va_runV (As := [.int x1]) (rest := [.int x1, .ref (ad 48)]) ⟨hx, hb, hml, hown, hts⟩ (c_X9_opens l D y ad aL aU hI n S_5 x1 _ _ hc_27) (cwV 1 hts gX9_explore_X9_opens rfl rfl rfl (by decide +kernel) ⟨Nat.le_of_ble_eq_true rfl, Nat.le_of_ble_eq_true rfl⟩) (pwu_V t_28 rfl hP hK hZ hS) rfl rfl hl.1 rfl (lv_room (Nat.le_of_ble_eq_true rfl)) dX9_explore_39 ⟨Nat.zero_le _, Nat.zero_le _⟩) hS (fun H locs hP hS => ?_)
          refine lv_if_eq (tgt := 49) hx hb dX9_explore_42 (by decide) (fun b_28 => ?_) (fun b_28 => ?_)
          · have hf := if_t b_28 hf
            refine lv_iconst (v := 5) hx hb dX9_explore_49 (by decide) ?_
            exact j50  k10 hk10 S_26 x1 x1 ((5 : Int32)) _ _ _ hf hP hS (lv_sub hl [0, 1] rfl)
          · have hf := if_f b_28 hf
            refine lv_iconst (v := 0) hx hb dX9_explore_45 (by decide) ?_
            refine lv_goto (tgt := 50) hx hb dX9_explore_46 (by decide) ?_
            exact j50  k10 hk10 S_26 x1 x1 ((0 : Int32)) _ _ _ hf hP hS (lv_sub hl [0, 1] rfl)
  have j10 : ∀ (fu : Nat), ∀ (S : St) (x1 : Int32) (H : Heap) (locs : List Loc) (ls : Array Slot), fixF (fun _ _ => none) (f_X9_explore_10 n) fu S x1 = some (r, S2) → PW D y ad S H → va_S (AA ad) s.heap H locs → lv_has ls 3 [(0, .ref (ad 28)), (1, .int x1)] → W p l e (headSpec wsX9_explore ({ frames := 5, cells := 0, slots := 0, locals := 126 })).room s m ([.ref (ad 28)] : List Value).toArray below meth c H locs 0 0 (QV below r S2 D y ad ([.ref (ad 28)] : List Value).toArray s) (F0 m 10 ls []) := by
    intro   fu
    induction fu with
    | zero => intro S x1 H locs ls hf hP hS hl; cases hf
    | succ fu ih => exact b10   (fixF (fun _ _ => none) (f_X9_explore_10 n) fu) ih
  unfold f_X9_explore at hf
  refine lv_iconst (v := 0) hx hb dX9_explore_0 (by decide) ?_
  obtain ⟨x1_29, ex1_29, hf⟩ := bd_inv hf
  refine w_topI ex1_29 ?_
  refine lv_istore_n (lv' := [(1, .int x1_29), (0, .ref (ad 28))]) hx hb dX9_explore_1 rfl hl (by decide) rfl (fun ls hl => ?_)
  refine lv_aload_n hx hb dX9_explore_2 rfl (lv_at hl 1 rfl) ?_
  refine w_gR (z := 48) (C := RX9) (T := TX9) hx hb hts n9 hown hK hP t_28 rfl 45 (by decide) L68 rfl rfl dX9_explore_3 ?_
  refine lv_iconst (v := 0) hx hb dX9_explore_6 (by decide) ?_
  refine lv_ldc (v := (-2000000001)) hx hb hown K140 dX9_explore_7 ?_
  obtain ⟨g_30, hf⟩ := gd_inv hf
  obtain ⟨S_31, eS_31, hf⟩ := bd_inv hf
  refine w_iast hx hb hK hI hP hS t_48 g_30 dX9_explore_9 (fun H locs hP hS => ?_)
  rw [← eS_31] at hP
  exact j10   n S_31 x1_29 _ _ _ hf hP hS (lv_sub hl [1, 0] rfl)
set_option maxHeartbeats 4000000 in
set_option maxRecDepth 100000 in
theorem c_X9_seek (l : Launch) (D : va_G) (y : y4) (ad : Nat → Nat) (aL aU : Nat) (hI : Inj ad) (n : Nat) (S : St) (a1 : Int32) (r : Unit) (S2 : St) (hf : f_X9_seek n S a1 = some (r, S2)) : KV l D y ad aL aU yX9_seek wsX9_seek ({ frames := 6, cells := 0, slots := 0, locals := 148 }) [.ref (ad 28), .int a1] S r S2 := by
  refine Met.ofW (cc := cX9_seek) (maxL := 2) (ret := none) (by decide) rfl ?_
  intro p e s m args below meth c s₁ B hml hv
  obtain ⟨rfl, hP, hK, hZ⟩ := hv
  have hx := B.exec
  have hb := B.bytes
  have hr := B.returns
  have hts := atoms_spec (ws := wsX9_seek) B.pre
  have hown : s.vm.findClass RX9 = some m.cls := findClass_of_methodNamed B.named
  have hlocks := B.notSynchronized
  have hS : va_S (AA ad) s.heap s.heap [] := va_S.rf
  have L221 := hts (.fieldLink RX9 221 "JoinedTheoriesModel" "some" "I") (by decide +kernel)
  have L268 := hts (.fieldLink RX9 268 "JoinedTheoriesModel" "isEndless" "Z") (by decide +kernel)
  have L271 := hts (.fieldLink RX9 271 "JoinedTheoriesModel" "isFound" "Z") (by decide +kernel)
  have L278 := hts (.fieldLink RX9 278 "JoinedTheoriesModel" "greatest" "J") (by decide +kernel)
  have n9 : ∀ w ∈ wsX90, w ∈ wsX9_seek := by decide +kernel
  have hl := lv_entry ([.ref (ad 28), .int a1]) (n := 2) (Nat.le_of_ble_eq_true rfl)
  rw [lg_entry_eq]
  generalize (lg_sl ([.ref (ad 28), .int a1]) ++ List.replicate (2 - (lg_sl ([.ref (ad 28), .int a1])).length) Slot.unset).toArray = ls at hl ⊢
  have hl : lv_has ls 2 [(0, .ref (ad 28)), (1, .int a1)] := hl
  unfold f_X9_seek at hf
  refine lv_aload_n hx hb dX9_seek_0 rfl (lv_at hl 0 rfl) ?_
  refine lv_iload_n hx hb dX9_seek_1 rfl (lv_at hl 1 rfl) ?_
  obtain ⟨S_1, eS_1, hf⟩ := bd_inv hf
  refine w_pI (ty := .int) (C := RX9) (T := TX9) hx hb hts n9 tyX9 tyX9_ok nmX9 hown hK hI hP hS t_28 rfl 31 (by decide) L221 rfl rfl rfl ⟨rfl, rfl⟩ dX9_seek_2 (fun H locs hP hS => ?_)
  rw [← eS_1] at hP
  refine lv_aload_n hx hb dX9_seek_5 rfl (lv_at hl 0 rfl) ?_
  refine lv_iconst (v := 0) hx hb dX9_seek_6 (by decide) ?_
  obtain ⟨S_2, eS_2, hf⟩ := bd_inv hf
  refine w_pI (ty := .boolean) (C := RX9) (T := TX9) hx hb hts n9 tyX9 tyX9_ok nmX9 hown hK hI hP hS t_28 rfl 39 (by decide) L271 rfl rfl rfl ⟨rfl, rfl⟩ dX9_seek_7 (fun H locs hP hS => ?_)
  rw [← eS_2] at hP
  refine lv_aload_n hx hb dX9_seek_10 rfl (lv_at hl 0 rfl) ?_
  refine lv_iconst (v := 0) hx hb dX9_seek_11 (by decide) ?_
  obtain ⟨S_3, eS_3, hf⟩ := bd_inv hf
  refine w_pI (ty := .boolean) (C := RX9) (T := TX9) hx hb hts n9 tyX9 tyX9_ok nmX9 hown hK hI hP hS t_28 rfl 40 (by decide) L268 rfl rfl rfl ⟨rfl, rfl⟩ dX9_seek_12 (fun H locs hP hS => ?_)
  rw [← eS_3] at hP
  refine lv_aload_n hx hb dX9_seek_15 rfl (lv_at hl 0 rfl) ?_
  refine lv_lconst (v := 0) hx hb dX9_seek_16 (by decide) ?_
  obtain ⟨S_4, eS_4, hf⟩ := bd_inv hf
  refine w_pL (C := RX9) (T := TX9) hx hb hts n9 tyX9 tyX9_ok nmX9 hown hK hI hP hS t_28 rfl 41 (by decide) L278 rfl rfl rfl dX9_seek_17 (fun H locs hP hS => ?_)
  rw [← eS_4] at hP
  refine lv_aload_n hx hb dX9_seek_20 rfl (lv_at hl 0 rfl) ?_
  obtain ⟨r_5, S_6, hc_7, hf⟩ := bo_inv hf
  refine w_ci (va_runV (As := []) (rest := []) ⟨hx, hb, hml, hown, hts⟩ (c_X9_layFirst l D y ad aL aU hI n S_4  _ _ hc_7) (cwV 0 hts gX9_seek_X9_layFirst rfl rfl rfl (by decide +kernel) ⟨Nat.le_of_ble_eq_true rfl, Nat.le_of_ble_eq_true rfl⟩) (pwu_V t_28 rfl hP hK hZ hS) rfl rfl hl.1 rfl (lv_room (Nat.le_of_ble_eq_true rfl)) dX9_seek_21 ⟨Nat.zero_le _, Nat.zero_le _⟩) hS (fun H locs hP hS => ?_)
  refine lv_if_eq (tgt := 31) hx hb dX9_seek_24 (by decide) (fun b_8 => ?_) (fun b_8 => ?_)
  · have hf := if_t b_8 hf
    exact w_vret hx hb hr hlocks hP hS (rt_inv hf) dX9_seek_31
  · have hf := if_f b_8 hf
    refine lv_aload_n hx hb dX9_seek_27 rfl (lv_at hl 0 rfl) ?_
    obtain ⟨r_9, S_10, hc_11, hf⟩ := bo_inv hf
    refine w_cv (va_runV (As := []) (rest := []) ⟨hx, hb, hml, hown, hts⟩ (c_X9_explore l D y ad aL aU hI n S_6  _ _ hc_11) (cwV 0 hts gX9_seek_X9_explore rfl rfl rfl (by decide +kernel) ⟨Nat.le_of_ble_eq_true rfl, Nat.le_of_ble_eq_true rfl⟩) (pwu_V t_28 rfl hP hK hZ hS) rfl rfl hl.1 rfl (lv_room (Nat.le_of_ble_eq_true rfl)) dX9_seek_28 ⟨Nat.zero_le _, Nat.zero_le _⟩) hS (fun H locs hP hS => ?_)
    exact w_vret hx hb hr hlocks hP hS (rt_inv hf) dX9_seek_31
set_option maxHeartbeats 4000000 in
set_option maxRecDepth 100000 in
theorem c_X9_asksPlain (l : Launch) (D : va_G) (y : y4) (ad : Nat → Nat) (aL aU : Nat) (hI : Inj ad) (n : Nat) (S : St) (r : Unit) (S2 : St) (hf : f_X9_asksPlain n S = some (r, S2)) : KV l D y ad aL aU yX9_asksPlain wsX9_asksPlain ({ frames := 1, cells := 0, slots := 0, locals := 20 }) [.ref (ad 28)] S r S2 := by
  refine Met.ofW (cc := cX9_asksPlain) (maxL := 1) (ret := none) (by decide) rfl ?_
  intro p e s m args below meth c s₁ B hml hv
  obtain ⟨rfl, hP, hK, hZ⟩ := hv
  have hx := B.exec
  have hb := B.bytes
  have hr := B.returns
  have hts := atoms_spec (ws := wsX9_asksPlain) B.pre
  have hown : s.vm.findClass RX9 = some m.cls := findClass_of_methodNamed B.named
  have hlocks := B.notSynchronized
  have hS : va_S (AA ad) s.heap s.heap [] := va_S.rf
  have L233 := hts (.fieldLink RX9 233 "JoinedTheoriesModel" "moreSort" "I") (by decide +kernel)
  have L244 := hts (.fieldLink RX9 244 "JoinedTheoriesModel" "wantTo" "I") (by decide +kernel)
  have L256 := hts (.fieldLink RX9 256 "JoinedTheoriesModel" "otherLeft" "I") (by decide +kernel)
  have L265 := hts (.fieldLink RX9 265 "JoinedTheoriesModel" "wantFrom" "I") (by decide +kernel)
  have K140 := hts (.constant RX9 140 (-2000000001)) (by decide +kernel)
  have n9 : ∀ w ∈ wsX90, w ∈ wsX9_asksPlain := by decide +kernel
  have hl := lv_entry ([.ref (ad 28)]) (n := 1) (Nat.le_of_ble_eq_true rfl)
  rw [lg_entry_eq]
  generalize (lg_sl ([.ref (ad 28)]) ++ List.replicate (1 - (lg_sl ([.ref (ad 28)])).length) Slot.unset).toArray = ls at hl ⊢
  have hl : lv_has ls 1 [(0, .ref (ad 28))] := hl
  unfold f_X9_asksPlain at hf
  refine lv_aload_n hx hb dX9_asksPlain_0 rfl (lv_at hl 0 rfl) ?_
  refine lv_ldc (v := (-2000000001)) hx hb hown K140 dX9_asksPlain_1 ?_
  obtain ⟨S_1, eS_1, hf⟩ := bd_inv hf
  refine w_pI (ty := .int) (C := RX9) (T := TX9) hx hb hts n9 tyX9 tyX9_ok nmX9 hown hK hI hP hS t_28 rfl 32 (by decide) L233 rfl rfl rfl ⟨rfl, rfl⟩ dX9_asksPlain_3 (fun H locs hP hS => ?_)
  rw [← eS_1] at hP
  refine lv_aload_n hx hb dX9_asksPlain_6 rfl (lv_at hl 0 rfl) ?_
  refine lv_ldc (v := (-2000000001)) hx hb hown K140 dX9_asksPlain_7 ?_
  obtain ⟨S_2, eS_2, hf⟩ := bd_inv hf
  refine w_pI (ty := .int) (C := RX9) (T := TX9) hx hb hts n9 tyX9 tyX9_ok nmX9 hown hK hI hP hS t_28 rfl 35 (by decide) L256 rfl rfl rfl ⟨rfl, rfl⟩ dX9_asksPlain_9 (fun H locs hP hS => ?_)
  rw [← eS_2] at hP
  refine lv_aload_n hx hb dX9_asksPlain_12 rfl (lv_at hl 0 rfl) ?_
  refine lv_ldc (v := (-2000000001)) hx hb hown K140 dX9_asksPlain_13 ?_
  obtain ⟨S_3, eS_3, hf⟩ := bd_inv hf
  refine w_pI (ty := .int) (C := RX9) (T := TX9) hx hb hts n9 tyX9 tyX9_ok nmX9 hown hK hI hP hS t_28 rfl 37 (by decide) L265 rfl rfl rfl ⟨rfl, rfl⟩ dX9_asksPlain_15 (fun H locs hP hS => ?_)
  rw [← eS_3] at hP
  refine lv_aload_n hx hb dX9_asksPlain_18 rfl (lv_at hl 0 rfl) ?_
  refine lv_ldc (v := (-2000000001)) hx hb hown K140 dX9_asksPlain_19 ?_
  obtain ⟨S_4, eS_4, hf⟩ := bd_inv hf
  refine w_pI (ty := .int) (C := RX9) (T := TX9) hx hb hts n9 tyX9 tyX9_ok nmX9 hown hK hI hP hS t_28 rfl 38 (by decide) L244 rfl rfl rfl ⟨rfl, rfl⟩ dX9_asksPlain_21 (fun H locs hP hS => ?_)
  rw [← eS_4] at hP
  exact w_vret hx hb hr hlocks hP hS (rt_inv hf) dX9_asksPlain_24
set_option maxHeartbeats 4000000 in
set_option maxRecDepth 100000 in
theorem c_X9_all (l : Launch) (D : va_G) (y : y4) (ad : Nat → Nat) (aL aU : Nat) (hI : Inj ad) (n : Nat) (S : St) (r : Int32) (S2 : St) (hf : f_X9_all n S = some (r, S2)) : KI l D y ad aL aU yX9_all wsX9_all ({ frames := 1, cells := 0, slots := 0, locals := 20 }) [.ref (ad 28)] S r S2 := by
  refine Met.ofW (cc := cX9_all) (maxL := 1) (ret := (some .int)) (by decide) rfl ?_
  intro p e s m args below meth c s₁ B hml hv
  obtain ⟨rfl, hP, hK, hZ⟩ := hv
  have hx := B.exec
  have hb := B.bytes
  have hr := B.returns
  have hts := atoms_spec (ws := wsX9_all) B.pre
  have hown : s.vm.findClass RX9 = some m.cls := findClass_of_methodNamed B.named
  have hlocks := B.notSynchronized
  have hS : va_S (AA ad) s.heap s.heap [] := va_S.rf
  have L141 := hts (.fieldLink RX9 141 "JoinedTheoriesModel" "literals" "I") (by decide +kernel)
  have n9 : ∀ w ∈ wsX90, w ∈ wsX9_all := by decide +kernel
  have hl := lv_entry ([.ref (ad 28)]) (n := 1) (Nat.le_of_ble_eq_true rfl)
  rw [lg_entry_eq]
  generalize (lg_sl ([.ref (ad 28)]) ++ List.replicate (1 - (lg_sl ([.ref (ad 28)])).length) Slot.unset).toArray = ls at hl ⊢
  have hl : lv_has ls 1 [(0, .ref (ad 28))] := hl
  unfold f_X9_all at hf
  refine lv_iconst (v := 1) hx hb dX9_all_0 (by decide) ?_
  refine lv_aload_n hx hb dX9_all_1 rfl (lv_at hl 0 rfl) ?_
  refine w_gI (C := RX9) (T := TX9) hx hb hts n9 hown hK hP t_28 rfl 2 (by decide) L141 rfl dX9_all_2 ?_
  refine lv_ishl hx hb dX9_all_5 ?_
  refine lv_iconst (v := 1) hx hb dX9_all_6 (by decide) ?_
  refine lv_isub hx hb dX9_all_7 ?_
  exact w_iret hx hb hr hlocks hP hS (rt_inv hf) dX9_all_8
set_option maxHeartbeats 4000000 in
set_option maxRecDepth 100000 in
theorem c_X9_holdsWith (l : Launch) (D : va_G) (y : y4) (ad : Nat → Nat) (aL aU : Nat) (hI : Inj ad) (n : Nat) (S : St) (a1 : Int32) (r : Int32) (S2 : St) (hf : f_X9_holdsWith n S a1 = some (r, S2)) : KI l D y ad aL aU yX9_holdsWith wsX9_holdsWith ({ frames := 7, cells := 0, slots := 0, locals := 169 }) [.ref (ad 28), .int a1] S r S2 := by
  refine Met.ofW (cc := cX9_holdsWith) (maxL := 2) (ret := (some .boolean)) (by decide) rfl ?_
  intro p e s m args below meth c s₁ B hml hv
  obtain ⟨rfl, hP, hK, hZ⟩ := hv
  have hx := B.exec
  have hb := B.bytes
  have hr := B.returns
  have hts := atoms_spec (ws := wsX9_holdsWith) B.pre
  have hown : s.vm.findClass RX9 = some m.cls := findClass_of_methodNamed B.named
  have hlocks := B.notSynchronized
  have hS : va_S (AA ad) s.heap s.heap [] := va_S.rf
  have L271 := hts (.fieldLink RX9 271 "JoinedTheoriesModel" "isFound" "Z") (by decide +kernel)
  have n9 : ∀ w ∈ wsX90, w ∈ wsX9_holdsWith := by decide +kernel
  have hl := lv_entry ([.ref (ad 28), .int a1]) (n := 2) (Nat.le_of_ble_eq_true rfl)
  rw [lg_entry_eq]
  generalize (lg_sl ([.ref (ad 28), .int a1]) ++ List.replicate (2 - (lg_sl ([.ref (ad 28), .int a1])).length) Slot.unset).toArray = ls at hl ⊢
  have hl : lv_has ls 2 [(0, .ref (ad 28)), (1, .int a1)] := hl
  unfold f_X9_holdsWith at hf
  refine lv_aload_n hx hb dX9_holdsWith_0 rfl (lv_at hl 0 rfl) ?_
  obtain ⟨r_1, S_2, hc_3, hf⟩ := bo_inv hf
  refine w_cv (va_runV (As := []) (rest := []) ⟨hx, hb, hml, hown, hts⟩ (c_X9_asksPlain l D y ad aL aU hI n S  _ _ hc_3) (cwV 0 hts gX9_holdsWith_X9_asksPlain rfl rfl rfl (by decide +kernel) ⟨Nat.le_of_ble_eq_true rfl, Nat.le_of_ble_eq_true rfl⟩) (pwu_V t_28 rfl hP hK hZ hS) rfl rfl hl.1 rfl (lv_room (Nat.le_of_ble_eq_true rfl)) dX9_holdsWith_1 ⟨Nat.zero_le _, Nat.zero_le _⟩) hS (fun H locs hP hS => ?_)
  refine lv_aload_n hx hb dX9_holdsWith_4 rfl (lv_at hl 0 rfl) ?_
  refine lv_iload_n hx hb dX9_holdsWith_5 rfl (lv_at hl 1 rfl) ?_
  obtain ⟨r_4, S_5, hc_6, hf⟩ := bo_inv hf
  refine w_cv (va_runV (As := [.int a1]) (rest := []) ⟨hx, hb, hml, hown, hts⟩ (c_X9_seek l D y ad aL aU hI n S_2 a1 _ _ hc_6) (cwV 1 hts gX9_holdsWith_X9_seek rfl rfl rfl (by decide +kernel) ⟨Nat.le_of_ble_eq_true rfl, Nat.le_of_ble_eq_true rfl⟩) (pwu_V t_28 rfl hP hK hZ hS) rfl rfl hl.1 rfl (lv_room (Nat.le_of_ble_eq_true rfl)) dX9_holdsWith_6 ⟨Nat.zero_le _, Nat.zero_le _⟩) hS (fun H locs hP hS => ?_)
  refine lv_aload_n hx hb dX9_holdsWith_9 rfl (lv_at hl 0 rfl) ?_
  refine w_gI (C := RX9) (T := TX9) hx hb hts n9 hown hK hP t_28 rfl 39 (by decide) L271 rfl dX9_holdsWith_10 ?_
  obtain ⟨g_7, hf⟩ := gd_inv hf
  exact w_zret hx hb hr hlocks g_7 hP hS (rt_inv hf) dX9_holdsWith_13
set_option maxHeartbeats 4000000 in
set_option maxRecDepth 100000 in
theorem c_X9_holdsMore (l : Launch) (D : va_G) (y : y4) (ad : Nat → Nat) (aL aU : Nat) (hI : Inj ad) (n : Nat) (S : St) (a1 : Int32) (a2 : Int32) (a3 : Int32) (r : Int32) (S2 : St) (hf : f_X9_holdsMore n S a1 a2 a3 = some (r, S2)) : KI l D y ad aL aU yX9_holdsMore wsX9_holdsMore ({ frames := 7, cells := 0, slots := 0, locals := 169 }) [.ref (ad 28), .int a1, .int a2, .int a3] S r S2 := by
  refine Met.ofW (cc := cX9_holdsMore) (maxL := 4) (ret := (some .boolean)) (by decide) rfl ?_
  intro p e s m args below meth c s₁ B hml hv
  obtain ⟨rfl, hP, hK, hZ⟩ := hv
  have hx := B.exec
  have hb := B.bytes
  have hr := B.returns
  have hts := atoms_spec (ws := wsX9_holdsMore) B.pre
  have hown : s.vm.findClass RX9 = some m.cls := findClass_of_methodNamed B.named
  have hlocks := B.notSynchronized
  have hS : va_S (AA ad) s.heap s.heap [] := va_S.rf
  have L233 := hts (.fieldLink RX9 233 "JoinedTheoriesModel" "moreSort" "I") (by decide +kernel)
  have L236 := hts (.fieldLink RX9 236 "JoinedTheoriesModel" "moreLeft" "I") (by decide +kernel)
  have L239 := hts (.fieldLink RX9 239 "JoinedTheoriesModel" "moreRight" "I") (by decide +kernel)
  have L271 := hts (.fieldLink RX9 271 "JoinedTheoriesModel" "isFound" "Z") (by decide +kernel)
  have n9 : ∀ w ∈ wsX90, w ∈ wsX9_holdsMore := by decide +kernel
  have hl := lv_entry ([.ref (ad 28), .int a1, .int a2, .int a3]) (n := 4) (Nat.le_of_ble_eq_true rfl)
  rw [lg_entry_eq]
  generalize (lg_sl ([.ref (ad 28), .int a1, .int a2, .int a3]) ++ List.replicate (4 - (lg_sl ([.ref (ad 28), .int a1, .int a2, .int a3])).length) Slot.unset).toArray = ls at hl ⊢
  have hl : lv_has ls 4 [(0, .ref (ad 28)), (1, .int a1), (2, .int a2), (3, .int a3)] := hl
  unfold f_X9_holdsMore at hf
  refine lv_aload_n hx hb dX9_holdsMore_0 rfl (lv_at hl 0 rfl) ?_
  obtain ⟨r_1, S_2, hc_3, hf⟩ := bo_inv hf
  refine w_cv (va_runV (As := []) (rest := []) ⟨hx, hb, hml, hown, hts⟩ (c_X9_asksPlain l D y ad aL aU hI n S  _ _ hc_3) (cwV 0 hts gX9_holdsMore_X9_asksPlain rfl rfl rfl (by decide +kernel) ⟨Nat.le_of_ble_eq_true rfl, Nat.le_of_ble_eq_true rfl⟩) (pwu_V t_28 rfl hP hK hZ hS) rfl rfl hl.1 rfl (lv_room (Nat.le_of_ble_eq_true rfl)) dX9_holdsMore_1 ⟨Nat.zero_le _, Nat.zero_le _⟩) hS (fun H locs hP hS => ?_)
  refine lv_aload_n hx hb dX9_holdsMore_4 rfl (lv_at hl 0 rfl) ?_
  refine lv_iload_n hx hb dX9_holdsMore_5 rfl (lv_at hl 1 rfl) ?_
  obtain ⟨S_4, eS_4, hf⟩ := bd_inv hf
  refine w_pI (ty := .int) (C := RX9) (T := TX9) hx hb hts n9 tyX9 tyX9_ok nmX9 hown hK hI hP hS t_28 rfl 32 (by decide) L233 rfl rfl rfl ⟨rfl, rfl⟩ dX9_holdsMore_6 (fun H locs hP hS => ?_)
  rw [← eS_4] at hP
  refine lv_aload_n hx hb dX9_holdsMore_9 rfl (lv_at hl 0 rfl) ?_
  refine lv_iload_n hx hb dX9_holdsMore_10 rfl (lv_at hl 2 rfl) ?_
  obtain ⟨S_5, eS_5, hf⟩ := bd_inv hf
  refine w_pI (ty := .int) (C := RX9) (T := TX9) hx hb hts n9 tyX9 tyX9_ok nmX9 hown hK hI hP hS t_28 rfl 33 (by decide) L236 rfl rfl rfl ⟨rfl, rfl⟩ dX9_holdsMore_11 (fun H locs hP hS => ?_)
  rw [← eS_5] at hP
  refine lv_aload_n hx hb dX9_holdsMore_14 rfl (lv_at hl 0 rfl) ?_
  refine lv_iload_n hx hb dX9_holdsMore_15 rfl (lv_at hl 3 rfl) ?_
  obtain ⟨S_6, eS_6, hf⟩ := bd_inv hf
  refine w_pI (ty := .int) (C := RX9) (T := TX9) hx hb hts n9 tyX9 tyX9_ok nmX9 hown hK hI hP hS t_28 rfl 34 (by decide) L239 rfl rfl rfl ⟨rfl, rfl⟩ dX9_holdsMore_16 (fun H locs hP hS => ?_)
  rw [← eS_6] at hP
  refine lv_aload_n hx hb dX9_holdsMore_19 rfl (lv_at hl 0 rfl) ?_
  refine lv_aload_n hx hb dX9_holdsMore_20 rfl (lv_at hl 0 rfl) ?_
  obtain ⟨r_7, S_8, hc_9, hf⟩ := bo_inv hf
  refine w_ci (va_runV (As := []) (rest := [.ref (ad 28)]) ⟨hx, hb, hml, hown, hts⟩ (c_X9_all l D y ad aL aU hI n S_6  _ _ hc_9) (cwV 0 hts gX9_holdsMore_X9_all rfl rfl rfl (by decide +kernel) ⟨Nat.le_of_ble_eq_true rfl, Nat.le_of_ble_eq_true rfl⟩) (pwu_V t_28 rfl hP hK hZ hS) rfl rfl hl.1 rfl (lv_room (Nat.le_of_ble_eq_true rfl)) dX9_holdsMore_21 ⟨Nat.zero_le _, Nat.zero_le _⟩) hS (fun H locs hP hS => ?_)
  obtain ⟨r_10, S_11, hc_12, hf⟩ := bo_inv hf
  refine w_cv (va_runV (As := [.int r_7]) (rest := []) ⟨hx, hb, hml, hown, hts⟩ (c_X9_seek l D y ad aL aU hI n S_8 r_7 _ _ hc_12) (cwV 1 hts gX9_holdsMore_X9_seek rfl rfl rfl (by decide +kernel) ⟨Nat.le_of_ble_eq_true rfl, Nat.le_of_ble_eq_true rfl⟩) (pwu_V t_28 rfl hP hK hZ hS) rfl rfl hl.1 rfl (lv_room (Nat.le_of_ble_eq_true rfl)) dX9_holdsMore_24 ⟨Nat.zero_le _, Nat.zero_le _⟩) hS (fun H locs hP hS => ?_)
  refine lv_aload_n hx hb dX9_holdsMore_27 rfl (lv_at hl 0 rfl) ?_
  refine w_gI (C := RX9) (T := TX9) hx hb hts n9 hown hK hP t_28 rfl 39 (by decide) L271 rfl dX9_holdsMore_28 ?_
  obtain ⟨g_13, hf⟩ := gd_inv hf
  exact w_zret hx hb hr hlocks g_13 hP hS (rt_inv hf) dX9_holdsMore_31
set_option maxHeartbeats 4000000 in
set_option maxRecDepth 100000 in
theorem c_X9_holds (l : Launch) (D : va_G) (y : y4) (ad : Nat → Nat) (aL aU : Nat) (hI : Inj ad) (n : Nat) (S : St) (r : Int32) (S2 : St) (hf : f_X9_holds n S = some (r, S2)) : KI l D y ad aL aU yX9_holds wsX9_holds ({ frames := 8, cells := 0, slots := 0, locals := 190 }) [.ref (ad 28)] S r S2 := by
  refine Met.ofW (cc := cX9_holds) (maxL := 1) (ret := (some .int)) (by decide) rfl ?_
  intro p e s m args below meth c s₁ B hml hv
  obtain ⟨rfl, hP, hK, hZ⟩ := hv
  have hx := B.exec
  have hb := B.bytes
  have hr := B.returns
  have hts := atoms_spec (ws := wsX9_holds) B.pre
  have hown : s.vm.findClass RX9 = some m.cls := findClass_of_methodNamed B.named
  have hlocks := B.notSynchronized
  have hS : va_S (AA ad) s.heap s.heap [] := va_S.rf
  have hl := lv_entry ([.ref (ad 28)]) (n := 1) (Nat.le_of_ble_eq_true rfl)
  rw [lg_entry_eq]
  generalize (lg_sl ([.ref (ad 28)]) ++ List.replicate (1 - (lg_sl ([.ref (ad 28)])).length) Slot.unset).toArray = ls at hl ⊢
  have hl : lv_has ls 1 [(0, .ref (ad 28))] := hl
  unfold f_X9_holds at hf
  refine lv_aload_n hx hb dX9_holds_0 rfl (lv_at hl 0 rfl) ?_
  refine lv_aload_n hx hb dX9_holds_1 rfl (lv_at hl 0 rfl) ?_
  obtain ⟨r_1, S_2, hc_3, hf⟩ := bo_inv hf
  refine w_ci (va_runV (As := []) (rest := [.ref (ad 28)]) ⟨hx, hb, hml, hown, hts⟩ (c_X9_all l D y ad aL aU hI n S  _ _ hc_3) (cwV 0 hts gX9_holds_X9_all rfl rfl rfl (by decide +kernel) ⟨Nat.le_of_ble_eq_true rfl, Nat.le_of_ble_eq_true rfl⟩) (pwu_V t_28 rfl hP hK hZ hS) rfl rfl hl.1 rfl (lv_room (Nat.le_of_ble_eq_true rfl)) dX9_holds_2 ⟨Nat.zero_le _, Nat.zero_le _⟩) hS (fun H locs hP hS => ?_)
  obtain ⟨r_4, S_5, hc_6, hf⟩ := bo_inv hf
  refine w_ci (va_runV (As := [.int r_1]) (rest := []) ⟨hx, hb, hml, hown, hts⟩ (c_X9_holdsWith l D y ad aL aU hI n S_2 r_1 _ _ hc_6) (cwV 1 hts gX9_holds_X9_holdsWith rfl rfl rfl (by decide +kernel) ⟨Nat.le_of_ble_eq_true rfl, Nat.le_of_ble_eq_true rfl⟩) (pwu_V t_28 rfl hP hK hZ hS) rfl rfl hl.1 rfl (lv_room (Nat.le_of_ble_eq_true rfl)) dX9_holds_5 ⟨Nat.zero_le _, Nat.zero_le _⟩) hS (fun H locs hP hS => ?_)
  refine lv_if_eq (tgt := 15) hx hb dX9_holds_8 (by decide) (fun b_7 => ?_) (fun b_7 => ?_)
  · have hf := if_t b_7 hf
    refine lv_iconst (v := 0) hx hb dX9_holds_15 (by decide) ?_
    exact w_iret hx hb hr hlocks hP hS (rt_inv hf) dX9_holds_16
  · have hf := if_f b_7 hf
    refine lv_iconst (v := 1) hx hb dX9_holds_11 (by decide) ?_
    refine lv_goto (tgt := 16) hx hb dX9_holds_12 (by decide) ?_
    exact w_iret hx hb hr hlocks hP hS (rt_inv hf) dX9_holds_16
set_option maxHeartbeats 4000000 in
set_option maxRecDepth 100000 in
theorem c_X9_apartNow (l : Launch) (D : va_G) (y : y4) (ad : Nat → Nat) (aL aU : Nat) (hI : Inj ad) (n : Nat) (S : St) (a1 : Int32) (a2 : Int32) (r : Int32) (S2 : St) (hf : f_X9_apartNow n S a1 a2 = some (r, S2)) : KI l D y ad aL aU yX9_apartNow wsX9_apartNow ({ frames := 7, cells := 0, slots := 0, locals := 169 }) [.ref (ad 28), .int a1, .int a2] S r S2 := by
  refine Met.ofW (cc := cX9_apartNow) (maxL := 3) (ret := (some .int)) (by decide) rfl ?_
  intro p e s m args below meth c s₁ B hml hv
  obtain ⟨rfl, hP, hK, hZ⟩ := hv
  have hx := B.exec
  have hb := B.bytes
  have hr := B.returns
  have hts := atoms_spec (ws := wsX9_apartNow) B.pre
  have hown : s.vm.findClass RX9 = some m.cls := findClass_of_methodNamed B.named
  have hlocks := B.notSynchronized
  have hS : va_S (AA ad) s.heap s.heap [] := va_S.rf
  have L244 := hts (.fieldLink RX9 244 "JoinedTheoriesModel" "wantTo" "I") (by decide +kernel)
  have L265 := hts (.fieldLink RX9 265 "JoinedTheoriesModel" "wantFrom" "I") (by decide +kernel)
  have L268 := hts (.fieldLink RX9 268 "JoinedTheoriesModel" "isEndless" "Z") (by decide +kernel)
  have L271 := hts (.fieldLink RX9 271 "JoinedTheoriesModel" "isFound" "Z") (by decide +kernel)
  have L278 := hts (.fieldLink RX9 278 "JoinedTheoriesModel" "greatest" "J") (by decide +kernel)
  have K140 := hts (.constant RX9 140 (-2000000001)) (by decide +kernel)
  have K152 := hts (.constant RX9 152 (-2000000004)) (by decide +kernel)
  have n9 : ∀ w ∈ wsX90, w ∈ wsX9_apartNow := by decide +kernel
  have hl := lv_entry ([.ref (ad 28), .int a1, .int a2]) (n := 3) (Nat.le_of_ble_eq_true rfl)
  rw [lg_entry_eq]
  generalize (lg_sl ([.ref (ad 28), .int a1, .int a2]) ++ List.replicate (3 - (lg_sl ([.ref (ad 28), .int a1, .int a2])).length) Slot.unset).toArray = ls at hl ⊢
  have hl : lv_has ls 3 [(0, .ref (ad 28)), (1, .int a1), (2, .int a2)] := hl
  unfold f_X9_apartNow at hf
  refine lv_aload_n hx hb dX9_apartNow_0 rfl (lv_at hl 0 rfl) ?_
  obtain ⟨r_1, S_2, hc_3, hf⟩ := bo_inv hf
  refine w_cv (va_runV (As := []) (rest := []) ⟨hx, hb, hml, hown, hts⟩ (c_X9_asksPlain l D y ad aL aU hI n S  _ _ hc_3) (cwV 0 hts gX9_apartNow_X9_asksPlain rfl rfl rfl (by decide +kernel) ⟨Nat.le_of_ble_eq_true rfl, Nat.le_of_ble_eq_true rfl⟩) (pwu_V t_28 rfl hP hK hZ hS) rfl rfl hl.1 rfl (lv_room (Nat.le_of_ble_eq_true rfl)) dX9_apartNow_1 ⟨Nat.zero_le _, Nat.zero_le _⟩) hS (fun H locs hP hS => ?_)
  refine lv_aload_n hx hb dX9_apartNow_4 rfl (lv_at hl 0 rfl) ?_
  refine lv_iload_n hx hb dX9_apartNow_5 rfl (lv_at hl 1 rfl) ?_
  obtain ⟨S_4, eS_4, hf⟩ := bd_inv hf
  refine w_pI (ty := .int) (C := RX9) (T := TX9) hx hb hts n9 tyX9 tyX9_ok nmX9 hown hK hI hP hS t_28 rfl 37 (by decide) L265 rfl rfl rfl ⟨rfl, rfl⟩ dX9_apartNow_6 (fun H locs hP hS => ?_)
  rw [← eS_4] at hP
  refine lv_aload_n hx hb dX9_apartNow_9 rfl (lv_at hl 0 rfl) ?_
  refine lv_iload_n hx hb dX9_apartNow_10 rfl (lv_at hl 2 rfl) ?_
  obtain ⟨S_5, eS_5, hf⟩ := bd_inv hf
  refine w_pI (ty := .int) (C := RX9) (T := TX9) hx hb hts n9 tyX9 tyX9_ok nmX9 hown hK hI hP hS t_28 rfl 38 (by decide) L244 rfl rfl rfl ⟨rfl, rfl⟩ dX9_apartNow_11 (fun H locs hP hS => ?_)
  rw [← eS_5] at hP
  refine lv_aload_n hx hb dX9_apartNow_14 rfl (lv_at hl 0 rfl) ?_
  refine lv_aload_n hx hb dX9_apartNow_15 rfl (lv_at hl 0 rfl) ?_
  obtain ⟨r_6, S_7, hc_8, hf⟩ := bo_inv hf
  refine w_ci (va_runV (As := []) (rest := [.ref (ad 28)]) ⟨hx, hb, hml, hown, hts⟩ (c_X9_all l D y ad aL aU hI n S_5  _ _ hc_8) (cwV 0 hts gX9_apartNow_X9_all rfl rfl rfl (by decide +kernel) ⟨Nat.le_of_ble_eq_true rfl, Nat.le_of_ble_eq_true rfl⟩) (pwu_V t_28 rfl hP hK hZ hS) rfl rfl hl.1 rfl (lv_room (Nat.le_of_ble_eq_true rfl)) dX9_apartNow_16 ⟨Nat.zero_le _, Nat.zero_le _⟩) hS (fun H locs hP hS => ?_)
  obtain ⟨r_9, S_10, hc_11, hf⟩ := bo_inv hf
  refine w_cv (va_runV (As := [.int r_6]) (rest := []) ⟨hx, hb, hml, hown, hts⟩ (c_X9_seek l D y ad aL aU hI n S_7 r_6 _ _ hc_11) (cwV 1 hts gX9_apartNow_X9_seek rfl rfl rfl (by decide +kernel) ⟨Nat.le_of_ble_eq_true rfl, Nat.le_of_ble_eq_true rfl⟩) (pwu_V t_28 rfl hP hK hZ hS) rfl rfl hl.1 rfl (lv_room (Nat.le_of_ble_eq_true rfl)) dX9_apartNow_19 ⟨Nat.zero_le _, Nat.zero_le _⟩) hS (fun H locs hP hS => ?_)
  refine lv_aload_n hx hb dX9_apartNow_22 rfl (lv_at hl 0 rfl) ?_
  refine w_gI (C := RX9) (T := TX9) hx hb hts n9 hown hK hP t_28 rfl 39 (by decide) L271 rfl dX9_apartNow_23 ?_
  refine lv_if_ne (tgt := 34) hx hb dX9_apartNow_26 (by decide) (fun b_12 => ?_) (fun b_12 => ?_)
  · have hf := if_f b_12 hf
    refine lv_aload_n hx hb dX9_apartNow_34 rfl (lv_at hl 0 rfl) ?_
    refine w_gI (C := RX9) (T := TX9) hx hb hts n9 hown hK hP t_28 rfl 40 (by decide) L268 rfl dX9_apartNow_35 ?_
    refine lv_if_eq (tgt := 46) hx hb dX9_apartNow_38 (by decide) (fun b_13 => ?_) (fun b_13 => ?_)
    · have hf := if_t b_13 hf
      refine lv_aload_n hx hb dX9_apartNow_46 rfl (lv_at hl 0 rfl) ?_
      refine w_gL (C := RX9) (T := TX9) hx hb hts n9 hown hK hP t_28 rfl 41 (by decide) L278 rfl dX9_apartNow_47 ?_
      obtain ⟨r_14, S_15, hc_16, hf⟩ := bo_inv hf
      refine w_ci (va_runS (As := [.long (S_10.2 28 41)]) (rest := []) ⟨hx, hb, hml, hown, hts⟩ (c_X9_told l D y ad aL aU hI n S_10 (S_10.2 28 41) _ _ hc_16) (cwS 1 hts gX9_apartNow_X9_told rfl rfl rfl (by decide +kernel) ⟨Nat.le_of_ble_eq_true rfl, Nat.le_of_ble_eq_true rfl⟩) (pwu_S hP hK hZ hS) rfl rfl hl.1 rfl (lv_room (Nat.le_of_ble_eq_true rfl)) dX9_apartNow_50 ⟨Nat.zero_le _, Nat.zero_le _⟩) hS (fun H locs hP hS => ?_)
      exact w_iret hx hb hr hlocks hP hS (rt_inv hf) dX9_apartNow_53
    · have hf := if_f b_13 hf
      refine lv_ldc (v := (-2000000001)) hx hb hown K140 dX9_apartNow_41 ?_
      refine lv_goto (tgt := 53) hx hb dX9_apartNow_43 (by decide) ?_
      exact w_iret hx hb hr hlocks hP hS (rt_inv hf) dX9_apartNow_53
  · have hf := if_t b_12 hf
    refine lv_ldc (v := (-2000000004)) hx hb hown K152 dX9_apartNow_29 ?_
    refine lv_goto (tgt := 53) hx hb dX9_apartNow_31 (by decide) ?_
    exact w_iret hx hb hr hlocks hP hS (rt_inv hf) dX9_apartNow_53
set_option maxHeartbeats 4000000 in
set_option maxRecDepth 100000 in
theorem c_X9_apart (l : Launch) (D : va_G) (y : y4) (ad : Nat → Nat) (aL aU : Nat) (hI : Inj ad) (n : Nat) (S : St) (a1 : Int32) (a2 : Int32) (r : Int32) (S2 : St) (hf : f_X9_apart n S a1 a2 = some (r, S2)) : KI l D y ad aL aU yX9_apart wsX9_apart ({ frames := 8, cells := 0, slots := 0, locals := 191 }) [.ref (ad 28), .int a1, .int a2] S r S2 := by
  refine Met.ofW (cc := cX9_apart) (maxL := 3) (ret := (some .int)) (by decide) rfl ?_
  intro p e s m args below meth c s₁ B hml hv
  obtain ⟨rfl, hP, hK, hZ⟩ := hv
  have hx := B.exec
  have hb := B.bytes
  have hr := B.returns
  have hts := atoms_spec (ws := wsX9_apart) B.pre
  have hown : s.vm.findClass RX9 = some m.cls := findClass_of_methodNamed B.named
  have hlocks := B.notSynchronized
  have hS : va_S (AA ad) s.heap s.heap [] := va_S.rf
  have K159 := hts (.constant RX9 159 (-2000000002)) (by decide +kernel)
  have hl := lv_entry ([.ref (ad 28), .int a1, .int a2]) (n := 3) (Nat.le_of_ble_eq_true rfl)
  rw [lg_entry_eq]
  generalize (lg_sl ([.ref (ad 28), .int a1, .int a2]) ++ List.replicate (3 - (lg_sl ([.ref (ad 28), .int a1, .int a2])).length) Slot.unset).toArray = ls at hl ⊢
  have hl : lv_has ls 3 [(0, .ref (ad 28)), (1, .int a1), (2, .int a2)] := hl
  unfold f_X9_apart at hf
  refine lv_aload_n hx hb dX9_apart_0 rfl (lv_at hl 0 rfl) ?_
  refine lv_iload_n hx hb dX9_apart_1 rfl (lv_at hl 1 rfl) ?_
  refine lv_iload_n hx hb dX9_apart_2 rfl (lv_at hl 2 rfl) ?_
  obtain ⟨r_1, S_2, hc_3, hf⟩ := bo_inv hf
  refine w_ci (va_runV (As := [.int a1, .int a2]) (rest := []) ⟨hx, hb, hml, hown, hts⟩ (c_X9_areTerms l D y ad aL aU hI n S a1 a2 _ _ hc_3) (cwV 2 hts gX9_apart_X9_areTerms rfl rfl rfl (by decide +kernel) ⟨Nat.le_of_ble_eq_true rfl, Nat.le_of_ble_eq_true rfl⟩) (pwu_V t_28 rfl hP hK hZ hS) rfl rfl hl.1 rfl (lv_room (Nat.le_of_ble_eq_true rfl)) dX9_apart_3 ⟨Nat.zero_le _, Nat.zero_le _⟩) hS (fun H locs hP hS => ?_)
  refine lv_if_eq (tgt := 18) hx hb dX9_apart_6 (by decide) (fun b_4 => ?_) (fun b_4 => ?_)
  · have hf := if_t b_4 hf
    refine lv_ldc (v := (-2000000002)) hx hb hown K159 dX9_apart_18 ?_
    exact w_iret hx hb hr hlocks hP hS (rt_inv hf) dX9_apart_20
  · have hf := if_f b_4 hf
    refine lv_aload_n hx hb dX9_apart_9 rfl (lv_at hl 0 rfl) ?_
    refine lv_iload_n hx hb dX9_apart_10 rfl (lv_at hl 1 rfl) ?_
    refine lv_iload_n hx hb dX9_apart_11 rfl (lv_at hl 2 rfl) ?_
    obtain ⟨r_5, S_6, hc_7, hf⟩ := bo_inv hf
    refine w_ci (va_runV (As := [.int a1, .int a2]) (rest := []) ⟨hx, hb, hml, hown, hts⟩ (c_X9_apartNow l D y ad aL aU hI n S_2 a1 a2 _ _ hc_7) (cwV 2 hts gX9_apart_X9_apartNow rfl rfl rfl (by decide +kernel) ⟨Nat.le_of_ble_eq_true rfl, Nat.le_of_ble_eq_true rfl⟩) (pwu_V t_28 rfl hP hK hZ hS) rfl rfl hl.1 rfl (lv_room (Nat.le_of_ble_eq_true rfl)) dX9_apart_12 ⟨Nat.zero_le _, Nat.zero_le _⟩) hS (fun H locs hP hS => ?_)
    refine lv_goto (tgt := 20) hx hb dX9_apart_15 (by decide) ?_
    exact w_iret hx hb hr hlocks hP hS (rt_inv hf) dX9_apart_20
set_option maxHeartbeats 4000000 in
set_option maxRecDepth 100000 in
theorem c_X9_impliedNow (l : Launch) (D : va_G) (y : y4) (ad : Nat → Nat) (aL aU : Nat) (hI : Inj ad) (n : Nat) (S : St) (a1 : Int32) (a2 : Int32) (a3 : Int32) (r : Int32) (S2 : St) (hf : f_X9_impliedNow n S a1 a2 a3 = some (r, S2)) : KI l D y ad aL aU yX9_impliedNow wsX9_impliedNow ({ frames := 8, cells := 0, slots := 0, locals := 192 }) [.ref (ad 28), .int a1, .int a2, .int a3] S r S2 := by
  refine Met.ofW (cc := cX9_impliedNow) (maxL := 5) (ret := (some .int)) (by decide) rfl ?_
  intro p e s m args below meth c s₁ B hml hv
  obtain ⟨rfl, hP, hK, hZ⟩ := hv
  have hx := B.exec
  have hb := B.bytes
  have hr := B.returns
  have hts := atoms_spec (ws := wsX9_impliedNow) B.pre
  have hown : s.vm.findClass RX9 = some m.cls := findClass_of_methodNamed B.named
  have hlocks := B.notSynchronized
  have hS : va_S (AA ad) s.heap s.heap [] := va_S.rf
  have K152 := hts (.constant RX9 152 (-2000000004)) (by decide +kernel)
  have hl := lv_entry ([.ref (ad 28), .int a1, .int a2, .int a3]) (n := 5) (Nat.le_of_ble_eq_true rfl)
  rw [lg_entry_eq]
  generalize (lg_sl ([.ref (ad 28), .int a1, .int a2, .int a3]) ++ List.replicate (5 - (lg_sl ([.ref (ad 28), .int a1, .int a2, .int a3])).length) Slot.unset).toArray = ls at hl ⊢
  have hl : lv_has ls 5 [(0, .ref (ad 28)), (1, .int a1), (2, .int a2), (3, .int a3)] := hl
  have j50 : ∀ (S : St) (t0 : Int32) (H : Heap) (locs : List Loc) (ls : Array Slot), f_X9_impliedNow_50 n S t0 = some (r, S2) → PW D y ad S H → va_S (AA ad) s.heap H locs → lv_has ls 5 [(0, .ref (ad 28))] → W p l e (headSpec wsX9_impliedNow ({ frames := 8, cells := 0, slots := 0, locals := 192 })).room s m ([.ref (ad 28), .int a1, .int a2, .int a3] : List Value).toArray below meth c H locs 0 0 (QI below r S2 D y ad ([.ref (ad 28), .int a1, .int a2, .int a3] : List Value).toArray s) (F0 m 50 ls [.int t0]) := by
    intro  S t0 H locs ls hf hP hS hl
    unfold f_X9_impliedNow_50 at hf
    obtain ⟨x4_1, ex4_1, hf⟩ := bd_inv hf
    refine w_topI ex4_1 ?_
    refine lv_istore (lv' := [(4, .int x4_1), (0, .ref (ad 28))]) hx hb dX9_impliedNow_50 hl (by decide) rfl (fun ls hl => ?_)
    refine lv_iload hx hb dX9_impliedNow_52 (lv_at hl 0 rfl) ?_
    refine lv_if_eq (tgt := 61) hx hb dX9_impliedNow_54 (by decide) (fun b_2 => ?_) (fun b_2 => ?_)
    · have hf := if_t b_2 hf
      refine lv_iconst (v := 1) hx hb dX9_impliedNow_61 (by decide) ?_
      exact w_iret hx hb hr hlocks hP hS (rt_inv hf) dX9_impliedNow_62
    · have hf := if_f b_2 hf
      refine lv_iconst (v := 0) hx hb dX9_impliedNow_57 (by decide) ?_
      refine lv_goto (tgt := 62) hx hb dX9_impliedNow_58 (by decide) ?_
      exact w_iret hx hb hr hlocks hP hS (rt_inv hf) dX9_impliedNow_62
  unfold f_X9_impliedNow at hf
  refine lv_aload_n hx hb dX9_impliedNow_0 rfl (lv_at hl 0 rfl) ?_
  refine lv_aload_n hx hb dX9_impliedNow_1 rfl (lv_at hl 0 rfl) ?_
  obtain ⟨r_3, S_4, hc_5, hf⟩ := bo_inv hf
  refine w_ci (va_runV (As := []) (rest := [.ref (ad 28)]) ⟨hx, hb, hml, hown, hts⟩ (c_X9_all l D y ad aL aU hI n S  _ _ hc_5) (cwV 0 hts gX9_impliedNow_X9_all rfl rfl rfl (by decide +kernel) ⟨Nat.le_of_ble_eq_true rfl, Nat.le_of_ble_eq_true rfl⟩) (pwu_V t_28 rfl hP hK hZ hS) rfl rfl hl.1 rfl (lv_room (Nat.le_of_ble_eq_true rfl)) dX9_impliedNow_2 ⟨Nat.zero_le _, Nat.zero_le _⟩) hS (fun H locs hP hS => ?_)
  obtain ⟨r_6, S_7, hc_8, hf⟩ := bo_inv hf
  refine w_ci (va_runV (As := [.int r_3]) (rest := []) ⟨hx, hb, hml, hown, hts⟩ (c_X9_holdsWith l D y ad aL aU hI n S_4 r_3 _ _ hc_8) (cwV 1 hts gX9_impliedNow_X9_holdsWith rfl rfl rfl (by decide +kernel) ⟨Nat.le_of_ble_eq_true rfl, Nat.le_of_ble_eq_true rfl⟩) (pwu_V t_28 rfl hP hK hZ hS) rfl rfl hl.1 rfl (lv_room (Nat.le_of_ble_eq_true rfl)) dX9_impliedNow_5 ⟨Nat.zero_le _, Nat.zero_le _⟩) hS (fun H locs hP hS => ?_)
  refine lv_if_ne (tgt := 14) hx hb dX9_impliedNow_8 (by decide) (fun b_9 => ?_) (fun b_9 => ?_)
  · have hf := if_f b_9 hf
    refine lv_iload_n hx hb dX9_impliedNow_14 rfl (lv_at hl 3 rfl) ?_
    refine lv_if_ne (tgt := 28) hx hb dX9_impliedNow_15 (by decide) (fun b_10 => ?_) (fun b_10 => ?_)
    · have hf := if_f b_10 hf
      refine lv_iload_n hx hb dX9_impliedNow_28 rfl (lv_at hl 3 rfl) ?_
      refine lv_iconst (v := 1) hx hb dX9_impliedNow_29 (by decide) ?_
      refine lv_icmp_ne (tgt := 43) hx hb dX9_impliedNow_30 (by decide) (fun b_11 => ?_) (fun b_11 => ?_)
      · have hf := if_f b_11 hf
        refine lv_aload_n hx hb dX9_impliedNow_43 rfl (lv_at hl 0 rfl) ?_
        refine lv_iconst (v := 2) hx hb dX9_impliedNow_44 (by decide) ?_
        refine lv_iload_n hx hb dX9_impliedNow_45 rfl (lv_at hl 2 rfl) ?_
        refine lv_iload_n hx hb dX9_impliedNow_46 rfl (lv_at hl 1 rfl) ?_
        obtain ⟨r_12, S_13, hc_14, hf⟩ := bo_inv hf
        refine w_ci (va_runV (As := [.int (2 : Int32), .int a2, .int a1]) (rest := []) ⟨hx, hb, hml, hown, hts⟩ (c_X9_holdsMore l D y ad aL aU hI n S_7 (2 : Int32) a2 a1 _ _ hc_14) (cwV 3 hts gX9_impliedNow_X9_holdsMore rfl rfl rfl (by decide +kernel) ⟨Nat.le_of_ble_eq_true rfl, Nat.le_of_ble_eq_true rfl⟩) (pwu_V t_28 rfl hP hK hZ hS) rfl rfl hl.1 rfl (lv_room (Nat.le_of_ble_eq_true rfl)) dX9_impliedNow_47 ⟨Nat.zero_le _, Nat.zero_le _⟩) hS (fun H locs hP hS => ?_)
        exact j50   S_13 r_12 _ _ _ hf hP hS (lv_sub hl [0] rfl)
      · have hf := if_t b_11 hf
        refine lv_aload_n hx hb dX9_impliedNow_33 rfl (lv_at hl 0 rfl) ?_
        refine lv_iconst (v := 0) hx hb dX9_impliedNow_34 (by decide) ?_
        refine lv_iload_n hx hb dX9_impliedNow_35 rfl (lv_at hl 1 rfl) ?_
        refine lv_iload_n hx hb dX9_impliedNow_36 rfl (lv_at hl 2 rfl) ?_
        obtain ⟨r_15, S_16, hc_17, hf⟩ := bo_inv hf
        refine w_ci (va_runV (As := [.int (0 : Int32), .int a1, .int a2]) (rest := []) ⟨hx, hb, hml, hown, hts⟩ (c_X9_holdsMore l D y ad aL aU hI n S_7 (0 : Int32) a1 a2 _ _ hc_17) (cwV 3 hts gX9_impliedNow_X9_holdsMore rfl rfl rfl (by decide +kernel) ⟨Nat.le_of_ble_eq_true rfl, Nat.le_of_ble_eq_true rfl⟩) (pwu_V t_28 rfl hP hK hZ hS) rfl rfl hl.1 rfl (lv_room (Nat.le_of_ble_eq_true rfl)) dX9_impliedNow_37 ⟨Nat.zero_le _, Nat.zero_le _⟩) hS (fun H locs hP hS => ?_)
        refine lv_goto (tgt := 50) hx hb dX9_impliedNow_40 (by decide) ?_
        exact j50   S_16 r_15 _ _ _ hf hP hS (lv_sub hl [0] rfl)
    · have hf := if_t b_10 hf
      refine lv_aload_n hx hb dX9_impliedNow_18 rfl (lv_at hl 0 rfl) ?_
      refine lv_iconst (v := 1) hx hb dX9_impliedNow_19 (by decide) ?_
      refine lv_iload_n hx hb dX9_impliedNow_20 rfl (lv_at hl 1 rfl) ?_
      refine lv_iload_n hx hb dX9_impliedNow_21 rfl (lv_at hl 2 rfl) ?_
      obtain ⟨r_18, S_19, hc_20, hf⟩ := bo_inv hf
      refine w_ci (va_runV (As := [.int (1 : Int32), .int a1, .int a2]) (rest := []) ⟨hx, hb, hml, hown, hts⟩ (c_X9_holdsMore l D y ad aL aU hI n S_7 (1 : Int32) a1 a2 _ _ hc_20) (cwV 3 hts gX9_impliedNow_X9_holdsMore rfl rfl rfl (by decide +kernel) ⟨Nat.le_of_ble_eq_true rfl, Nat.le_of_ble_eq_true rfl⟩) (pwu_V t_28 rfl hP hK hZ hS) rfl rfl hl.1 rfl (lv_room (Nat.le_of_ble_eq_true rfl)) dX9_impliedNow_22 ⟨Nat.zero_le _, Nat.zero_le _⟩) hS (fun H locs hP hS => ?_)
      refine lv_goto (tgt := 50) hx hb dX9_impliedNow_25 (by decide) ?_
      exact j50   S_19 r_18 _ _ _ hf hP hS (lv_sub hl [0] rfl)
  · have hf := if_t b_9 hf
    refine lv_ldc (v := (-2000000004)) hx hb hown K152 dX9_impliedNow_11 ?_
    exact w_iret hx hb hr hlocks hP hS (rt_inv hf) dX9_impliedNow_13
set_option maxHeartbeats 4000000 in
set_option maxRecDepth 100000 in
theorem c_X9_implied (l : Launch) (D : va_G) (y : y4) (ad : Nat → Nat) (aL aU : Nat) (hI : Inj ad) (n : Nat) (S : St) (a1 : Int32) (a2 : Int32) (a3 : Int32) (r : Int32) (S2 : St) (hf : f_X9_implied n S a1 a2 a3 = some (r, S2)) : KI l D y ad aL aU yX9_implied wsX9_implied ({ frames := 9, cells := 0, slots := 0, locals := 216 }) [.ref (ad 28), .int a1, .int a2, .int a3] S r S2 := by
  refine Met.ofW (cc := cX9_implied) (maxL := 4) (ret := (some .int)) (by decide) rfl ?_
  intro p e s m args below meth c s₁ B hml hv
  obtain ⟨rfl, hP, hK, hZ⟩ := hv
  have hx := B.exec
  have hb := B.bytes
  have hr := B.returns
  have hts := atoms_spec (ws := wsX9_implied) B.pre
  have hown : s.vm.findClass RX9 = some m.cls := findClass_of_methodNamed B.named
  have hlocks := B.notSynchronized
  have hS : va_S (AA ad) s.heap s.heap [] := va_S.rf
  have K81 := hts (.constant RX9 81 (-2000000003)) (by decide +kernel)
  have K159 := hts (.constant RX9 159 (-2000000002)) (by decide +kernel)
  have hl := lv_entry ([.ref (ad 28), .int a1, .int a2, .int a3]) (n := 4) (Nat.le_of_ble_eq_true rfl)
  rw [lg_entry_eq]
  generalize (lg_sl ([.ref (ad 28), .int a1, .int a2, .int a3]) ++ List.replicate (4 - (lg_sl ([.ref (ad 28), .int a1, .int a2, .int a3])).length) Slot.unset).toArray = ls at hl ⊢
  have hl : lv_has ls 4 [(0, .ref (ad 28)), (1, .int a1), (2, .int a2), (3, .int a3)] := hl
  unfold f_X9_implied at hf
  refine lv_aload_n hx hb dX9_implied_0 rfl (lv_at hl 0 rfl) ?_
  refine lv_iload_n hx hb dX9_implied_1 rfl (lv_at hl 1 rfl) ?_
  refine lv_iload_n hx hb dX9_implied_2 rfl (lv_at hl 2 rfl) ?_
  obtain ⟨r_1, S_2, hc_3, hf⟩ := bo_inv hf
  refine w_ci (va_runV (As := [.int a1, .int a2]) (rest := []) ⟨hx, hb, hml, hown, hts⟩ (c_X9_areTerms l D y ad aL aU hI n S a1 a2 _ _ hc_3) (cwV 2 hts gX9_implied_X9_areTerms rfl rfl rfl (by decide +kernel) ⟨Nat.le_of_ble_eq_true rfl, Nat.le_of_ble_eq_true rfl⟩) (pwu_V t_28 rfl hP hK hZ hS) rfl rfl hl.1 rfl (lv_room (Nat.le_of_ble_eq_true rfl)) dX9_implied_3 ⟨Nat.zero_le _, Nat.zero_le _⟩) hS (fun H locs hP hS => ?_)
  refine lv_if_ne (tgt := 12) hx hb dX9_implied_6 (by decide) (fun b_4 => ?_) (fun b_4 => ?_)
  · have hf := if_f b_4 hf
    refine lv_iload_n hx hb dX9_implied_12 rfl (lv_at hl 3 rfl) ?_
    refine lv_iconst (v := 0) hx hb dX9_implied_13 (by decide) ?_
    refine lv_iconst (v := 2) hx hb dX9_implied_14 (by decide) ?_
    obtain ⟨r_5, S_6, hc_7, hf⟩ := bo_inv hf
    refine w_ci (va_runS (As := [.int a3, .int (0 : Int32), .int (2 : Int32)]) (rest := []) ⟨hx, hb, hml, hown, hts⟩ (c_X9_within l D y ad aL aU hI n S_2 a3 (0 : Int32) (2 : Int32) _ _ hc_7) (cwS 3 hts gX9_implied_X9_within rfl rfl rfl (by decide +kernel) ⟨Nat.le_of_ble_eq_true rfl, Nat.le_of_ble_eq_true rfl⟩) (pwu_S hP hK hZ hS) rfl rfl hl.1 rfl (lv_room (Nat.le_of_ble_eq_true rfl)) dX9_implied_15 ⟨Nat.zero_le _, Nat.zero_le _⟩) hS (fun H locs hP hS => ?_)
    refine lv_if_eq (tgt := 31) hx hb dX9_implied_18 (by decide) (fun b_8 => ?_) (fun b_8 => ?_)
    · have hf := if_t b_8 hf
      refine lv_ldc (v := (-2000000003)) hx hb hown K81 dX9_implied_31 ?_
      exact w_iret hx hb hr hlocks hP hS (rt_inv hf) dX9_implied_33
    · have hf := if_f b_8 hf
      refine lv_aload_n hx hb dX9_implied_21 rfl (lv_at hl 0 rfl) ?_
      refine lv_iload_n hx hb dX9_implied_22 rfl (lv_at hl 1 rfl) ?_
      refine lv_iload_n hx hb dX9_implied_23 rfl (lv_at hl 2 rfl) ?_
      refine lv_iload_n hx hb dX9_implied_24 rfl (lv_at hl 3 rfl) ?_
      obtain ⟨r_9, S_10, hc_11, hf⟩ := bo_inv hf
      refine w_ci (va_runV (As := [.int a1, .int a2, .int a3]) (rest := []) ⟨hx, hb, hml, hown, hts⟩ (c_X9_impliedNow l D y ad aL aU hI n S_6 a1 a2 a3 _ _ hc_11) (cwV 3 hts gX9_implied_X9_impliedNow rfl rfl rfl (by decide +kernel) ⟨Nat.le_of_ble_eq_true rfl, Nat.le_of_ble_eq_true rfl⟩) (pwu_V t_28 rfl hP hK hZ hS) rfl rfl hl.1 rfl (lv_room (Nat.le_of_ble_eq_true rfl)) dX9_implied_25 ⟨Nat.zero_le _, Nat.zero_le _⟩) hS (fun H locs hP hS => ?_)
      refine lv_goto (tgt := 33) hx hb dX9_implied_28 (by decide) ?_
      exact w_iret hx hb hr hlocks hP hS (rt_inv hf) dX9_implied_33
  · have hf := if_t b_4 hf
    refine lv_ldc (v := (-2000000002)) hx hb hown K159 dX9_implied_9 ?_
    exact w_iret hx hb hr hlocks hP hS (rt_inv hf) dX9_implied_11
