set_option maxHeartbeats 4000000 in
set_option maxRecDepth 100000 in
theorem c_X8_digest (l : Launch) (D : va_G) (y : y4) (ad : Nat → Nat) (aL aU : Nat) (hI : Inj ad) (n : Nat) (S : St) (r : Int64) (S2 : St) (hf : f_X8_digest n S = some (r, S2)) : KL l D y ad aL aU yX8_digest wsX8_digest ({ frames := 32, cells := 0, slots := 0, locals := 787 }) [.ref (ad 0)] S r S2 := by
  refine Met.ofW (cc := cX8_digest) (maxL := 5) (ret := (some .long)) (by decide) rfl ?_
  intro p e s m args below meth c s₁ B hml hv
  obtain ⟨rfl, hP, hK, hZ⟩ := hv
  have hx := B.exec
  have hb := B.bytes
  have hr := B.returns
  have hts := atoms_spec (ws := wsX8_digest) B.pre
  have hown : s.vm.findClass RX8 = some m.cls := findClass_of_methodNamed B.named
  have hlocks := B.notSynchronized
  have hS : va_S (AA ad) s.heap s.heap [] := va_S.rf
  have L9 := hts (.fieldLink RX8 9 "JoinedTheories" "page" "[I") (by decide +kernel)
  have L23 := hts (.fieldLink RX8 23 "JoinedTheories" "terms" "LJoinedTheories$Terms;") (by decide +kernel)
  have L33 := hts (.fieldLink RX8 33 "JoinedTheories" "literals" "LJoinedTheories$Literals;") (by decide +kernel)
  have L63 := hts (.fieldLink RX8 63 "JoinedTheories" "pageSize" "I") (by decide +kernel)
  have K230 := hts (.constantLong RX8 230 (1609)) (by decide +kernel)
  have K232 := hts (.constantLong RX8 232 (31)) (by decide +kernel)
  have n8 : ∀ w ∈ wsX80, w ∈ wsX8_digest := by decide +kernel
  have hl := lv_entry ([.ref (ad 0)]) (n := 5) (Nat.le_of_ble_eq_true rfl)
  rw [lg_entry_eq]
  generalize (lg_sl ([.ref (ad 0)]) ++ List.replicate (5 - (lg_sl ([.ref (ad 0)])).length) Slot.unset).toArray = ls at hl ⊢
  have hl : lv_has ls 5 [(0, .ref (ad 0))] := hl
  have b178 : ∀ (k178 : St → Int64 → Int32 → Option (Int64 × St)) (hk178 : ∀ (S : St) (x1 : Int64) (x3 : Int32) (H : Heap) (locs : List Loc) (ls : Array Slot), k178 S x1 x3 = some (r, S2) → PW D y ad S H → va_S (AA ad) s.heap H locs → lv_has ls 5 [(0, .ref (ad 0)), (1, .long x1), (3, .int x3)] → W p l e (headSpec wsX8_digest ({ frames := 32, cells := 0, slots := 0, locals := 787 })).room s m ([.ref (ad 0)] : List Value).toArray below meth c H locs 0 0 (QL below r S2 D y ad ([.ref (ad 0)] : List Value).toArray s) (F0 m 178 ls [])), ∀ (S : St) (x1 : Int64) (x3 : Int32) (H : Heap) (locs : List Loc) (ls : Array Slot), f_X8_digest_178 n k178 S x1 x3 = some (r, S2) → PW D y ad S H → va_S (AA ad) s.heap H locs → lv_has ls 5 [(0, .ref (ad 0)), (1, .long x1), (3, .int x3)] → W p l e (headSpec wsX8_digest ({ frames := 32, cells := 0, slots := 0, locals := 787 })).room s m ([.ref (ad 0)] : List Value).toArray below meth c H locs 0 0 (QL below r S2 D y ad ([.ref (ad 0)] : List Value).toArray s) (F0 m 178 ls []) := by
    intro  k178 hk178 S x1 x3 H locs ls hf hP hS hl
    unfold f_X8_digest_178 at hf
    refine lv_iload_n hx hb dX8_digest_178 rfl (lv_at hl 2 rfl) ?_
    refine lv_iconst (v := 5) hx hb dX8_digest_179 (by decide) ?_
    refine lv_icmp_gt (tgt := 202) hx hb dX8_digest_180 (by decide) (fun b_1 => ?_) (fun b_1 => ?_)
    · have hf := if_t b_1 hf
      refine lv_lload_n hx hb dX8_digest_202 rfl (lv_at hl 1 rfl) ?_
      exact w_lret hx hb hr hlocks hP hS (rt_inv hf) dX8_digest_203
    · have hf := if_f b_1 hf
      refine lv_ldc2 (v := (31)) hx hb hown K232 dX8_digest_183 ?_
      refine lv_lload_n hx hb dX8_digest_186 rfl (lv_at hl 1 rfl) ?_
      refine lv_lmul hx hb dX8_digest_187 ?_
      refine lv_aload_n hx hb dX8_digest_188 rfl (lv_at hl 0 rfl) ?_
      refine lv_iload_n hx hb dX8_digest_189 rfl (lv_at hl 2 rfl) ?_
      obtain ⟨r_2, S_3, hc_4, hf⟩ := bo_inv hf
      refine w_ci (va_runV (As := [.int x3]) (rest := [.long ((31 : Int64) * x1)]) ⟨hx, hb, hml, hown, hts⟩ (c_X8_count l D y ad aL aU hI n S x3 _ _ hc_4) (cwV 1 hts gX8_digest_X8_count rfl rfl rfl (by decide +kernel) ⟨Nat.le_of_ble_eq_true rfl, Nat.le_of_ble_eq_true rfl⟩) (pwu_V t_0 rfl hP hK hZ hS) rfl rfl hl.1 rfl (lv_room (Nat.le_of_ble_eq_true rfl)) dX8_digest_190 ⟨Nat.zero_le _, Nat.zero_le _⟩) hS (fun H locs hP hS => ?_)
      refine lv_i2l hx hb dX8_digest_193 rfl ?_
      refine lv_ladd hx hb dX8_digest_194 ?_
      obtain ⟨x1_5, ex1_5, hf⟩ := bd_inv hf
      refine w_topL ex1_5 ?_
      refine lv_lstore_n (lv' := [(1, .long x1_5), (0, .ref (ad 0)), (3, .int x3)]) hx hb dX8_digest_195 rfl hl (by decide) rfl (fun ls hl => ?_)
      obtain ⟨x3_6, ex3_6, hf⟩ := bd_inv hf
      refine lv_iinc (v := x3_6) (lv' := [(3, .int x3_6), (1, .long x1_5), (0, .ref (ad 0))]) hx hb dX8_digest_196 hl (k := 2) rfl (by rw [ex3_6]; rfl) (by decide) rfl (fun ls hl => ?_)
      refine lv_goto (tgt := 178) hx hb dX8_digest_199 (by decide) ?_
      exact hk178 S_3 x1_5 x3_6 _ _ _ hf hP hS (lv_sub hl [2, 1, 0] rfl)
  have j178 : ∀ (fu : Nat), ∀ (S : St) (x1 : Int64) (x3 : Int32) (H : Heap) (locs : List Loc) (ls : Array Slot), fixF (fun _ _ _ => none) (f_X8_digest_178 n) fu S x1 x3 = some (r, S2) → PW D y ad S H → va_S (AA ad) s.heap H locs → lv_has ls 5 [(0, .ref (ad 0)), (1, .long x1), (3, .int x3)] → W p l e (headSpec wsX8_digest ({ frames := 32, cells := 0, slots := 0, locals := 787 })).room s m ([.ref (ad 0)] : List Value).toArray below meth c H locs 0 0 (QL below r S2 D y ad ([.ref (ad 0)] : List Value).toArray s) (F0 m 178 ls []) := by
    intro   fu
    induction fu with
    | zero => intro S x1 x3 H locs ls hf hP hS hl; cases hf
    | succ fu ih => exact b178   (fixF (fun _ _ _ => none) (f_X8_digest_178 n) fu) ih
  have j176 : ∀ (S : St) (x1 : Int64) (H : Heap) (locs : List Loc) (ls : Array Slot), f_X8_digest_176 n S x1 = some (r, S2) → PW D y ad S H → va_S (AA ad) s.heap H locs → lv_has ls 5 [(0, .ref (ad 0)), (1, .long x1)] → W p l e (headSpec wsX8_digest ({ frames := 32, cells := 0, slots := 0, locals := 787 })).room s m ([.ref (ad 0)] : List Value).toArray below meth c H locs 0 0 (QL below r S2 D y ad ([.ref (ad 0)] : List Value).toArray s) (F0 m 176 ls []) := by
    intro  S x1 H locs ls hf hP hS hl
    unfold f_X8_digest_176 at hf
    refine lv_iconst (v := 0) hx hb dX8_digest_176 (by decide) ?_
    obtain ⟨x3_7, ex3_7, hf⟩ := bd_inv hf
    refine w_topI ex3_7 ?_
    refine lv_istore_n (lv' := [(3, .int x3_7), (0, .ref (ad 0)), (1, .long x1)]) hx hb dX8_digest_177 rfl hl (by decide) rfl (fun ls hl => ?_)
    exact j178   n S x1 x3_7 _ _ _ hf hP hS (lv_sub hl [1, 2, 0] rfl)
  have b142 : ∀ (k142 : St → Int64 → Int32 → Option (Int64 × St)) (hk142 : ∀ (S : St) (x1 : Int64) (x3 : Int32) (H : Heap) (locs : List Loc) (ls : Array Slot), k142 S x1 x3 = some (r, S2) → PW D y ad S H → va_S (AA ad) s.heap H locs → lv_has ls 5 [(0, .ref (ad 0)), (1, .long x1), (3, .int x3)] → W p l e (headSpec wsX8_digest ({ frames := 32, cells := 0, slots := 0, locals := 787 })).room s m ([.ref (ad 0)] : List Value).toArray below meth c H locs 0 0 (QL below r S2 D y ad ([.ref (ad 0)] : List Value).toArray s) (F0 m 142 ls [])), ∀ (S : St) (x1 : Int64) (x3 : Int32) (H : Heap) (locs : List Loc) (ls : Array Slot), f_X8_digest_142 n k142 S x1 x3 = some (r, S2) → PW D y ad S H → va_S (AA ad) s.heap H locs → lv_has ls 5 [(0, .ref (ad 0)), (1, .long x1), (3, .int x3)] → W p l e (headSpec wsX8_digest ({ frames := 32, cells := 0, slots := 0, locals := 787 })).room s m ([.ref (ad 0)] : List Value).toArray below meth c H locs 0 0 (QL below r S2 D y ad ([.ref (ad 0)] : List Value).toArray s) (F0 m 142 ls []) := by
    intro  k142 hk142 S x1 x3 H locs ls hf hP hS hl
    unfold f_X8_digest_142 at hf
    refine lv_iload_n hx hb dX8_digest_142 rfl (lv_at hl 2 rfl) ?_
    refine lv_aload_n hx hb dX8_digest_143 rfl (lv_at hl 0 rfl) ?_
    refine w_gI (C := RX8) (T := TX8) hx hb hts n8 hown hK hP t_0 rfl 1 (by decide) L63 rfl dX8_digest_144 ?_
    refine lv_icmp_ge (tgt := 176) hx hb dX8_digest_147 (by decide) (fun b_8 => ?_) (fun b_8 => ?_)
    · have hf := if_t b_8 hf
      exact j176   S x1 _ _ _ hf hP hS (lv_sub hl [0, 1] rfl)
    · have hf := if_f b_8 hf
      refine lv_iload_n hx hb dX8_digest_150 rfl (lv_at hl 2 rfl) ?_
      refine lv_bipush (v := (40)) hx hb dX8_digest_151 (by decide) ?_
      refine lv_icmp_ge (tgt := 176) hx hb dX8_digest_153 (by decide) (fun b_9 => ?_) (fun b_9 => ?_)
      · have hf := if_t b_9 hf
        exact j176   S x1 _ _ _ hf hP hS (lv_sub hl [0, 1] rfl)
      · have hf := if_f b_9 hf
        refine lv_ldc2 (v := (31)) hx hb hown K232 dX8_digest_156 ?_
        refine lv_lload_n hx hb dX8_digest_159 rfl (lv_at hl 1 rfl) ?_
        refine lv_lmul hx hb dX8_digest_160 ?_
        refine lv_aload_n hx hb dX8_digest_161 rfl (lv_at hl 0 rfl) ?_
        refine w_gR (z := 1) (C := RX8) (T := TX8) hx hb hts n8 hown hK hP t_0 rfl 0 (by decide) L9 rfl rfl dX8_digest_162 ?_
        refine lv_iload_n hx hb dX8_digest_165 rfl (lv_at hl 2 rfl) ?_
        obtain ⟨g_10, hf⟩ := gd_inv hf
        refine w_iald hx hb hK hP t_1 g_10 dX8_digest_166 ?_
        refine lv_i2l hx hb dX8_digest_167 rfl ?_
        refine lv_ladd hx hb dX8_digest_168 ?_
        obtain ⟨x1_11, ex1_11, hf⟩ := bd_inv hf
        refine w_topL ex1_11 ?_
        refine lv_lstore_n (lv' := [(1, .long x1_11), (0, .ref (ad 0)), (3, .int x3)]) hx hb dX8_digest_169 rfl hl (by decide) rfl (fun ls hl => ?_)
        obtain ⟨x3_12, ex3_12, hf⟩ := bd_inv hf
        refine lv_iinc (v := x3_12) (lv' := [(3, .int x3_12), (1, .long x1_11), (0, .ref (ad 0))]) hx hb dX8_digest_170 hl (k := 2) rfl (by rw [ex3_12]; rfl) (by decide) rfl (fun ls hl => ?_)
        refine lv_goto (tgt := 142) hx hb dX8_digest_173 (by decide) ?_
        exact hk142 S x1_11 x3_12 _ _ _ hf hP hS (lv_sub hl [2, 1, 0] rfl)
  have j142 : ∀ (fu : Nat), ∀ (S : St) (x1 : Int64) (x3 : Int32) (H : Heap) (locs : List Loc) (ls : Array Slot), fixF (fun _ _ _ => none) (f_X8_digest_142 n) fu S x1 x3 = some (r, S2) → PW D y ad S H → va_S (AA ad) s.heap H locs → lv_has ls 5 [(0, .ref (ad 0)), (1, .long x1), (3, .int x3)] → W p l e (headSpec wsX8_digest ({ frames := 32, cells := 0, slots := 0, locals := 787 })).room s m ([.ref (ad 0)] : List Value).toArray below meth c H locs 0 0 (QL below r S2 D y ad ([.ref (ad 0)] : List Value).toArray s) (F0 m 142 ls []) := by
    intro   fu
    induction fu with
    | zero => intro S x1 x3 H locs ls hf hP hS hl; cases hf
    | succ fu ih => exact b142   (fixF (fun _ _ _ => none) (f_X8_digest_142 n) fu) ih
  have b104 : ∀ (k104 : St → Int64 → Int32 → Option (Int64 × St)) (hk104 : ∀ (S : St) (x1 : Int64) (x3 : Int32) (H : Heap) (locs : List Loc) (ls : Array Slot), k104 S x1 x3 = some (r, S2) → PW D y ad S H → va_S (AA ad) s.heap H locs → lv_has ls 5 [(0, .ref (ad 0)), (1, .long x1), (3, .int x3)] → W p l e (headSpec wsX8_digest ({ frames := 32, cells := 0, slots := 0, locals := 787 })).room s m ([.ref (ad 0)] : List Value).toArray below meth c H locs 0 0 (QL below r S2 D y ad ([.ref (ad 0)] : List Value).toArray s) (F0 m 104 ls [])), ∀ (S : St) (x1 : Int64) (x3 : Int32) (H : Heap) (locs : List Loc) (ls : Array Slot), f_X8_digest_104 n k104 S x1 x3 = some (r, S2) → PW D y ad S H → va_S (AA ad) s.heap H locs → lv_has ls 5 [(0, .ref (ad 0)), (1, .long x1), (3, .int x3)] → W p l e (headSpec wsX8_digest ({ frames := 32, cells := 0, slots := 0, locals := 787 })).room s m ([.ref (ad 0)] : List Value).toArray below meth c H locs 0 0 (QL below r S2 D y ad ([.ref (ad 0)] : List Value).toArray s) (F0 m 104 ls []) := by
    intro  k104 hk104 S x1 x3 H locs ls hf hP hS hl
    unfold f_X8_digest_104 at hf
    refine lv_iload_n hx hb dX8_digest_104 rfl (lv_at hl 2 rfl) ?_
    refine lv_iconst (v := 2) hx hb dX8_digest_105 (by decide) ?_
    refine lv_icmp_gt (tgt := 128) hx hb dX8_digest_106 (by decide) (fun b_13 => ?_) (fun b_13 => ?_)
    · have hf := if_t b_13 hf
      refine lv_ldc2 (v := (31)) hx hb hown K232 dX8_digest_128 ?_
      refine lv_lload_n hx hb dX8_digest_131 rfl (lv_at hl 1 rfl) ?_
      refine lv_lmul hx hb dX8_digest_132 ?_
      refine lv_aload_n hx hb dX8_digest_133 rfl (lv_at hl 0 rfl) ?_
      obtain ⟨r_14, S_15, hc_16, hf⟩ := bo_inv hf
      refine w_ci (va_runV (As := []) (rest := [.long ((31 : Int64) * x1)]) ⟨hx, hb, hml, hown, hts⟩ (c_X8_holds l D y ad aL aU hI n S  _ _ hc_16) (cwV 0 hts gX8_digest_X8_holds rfl rfl rfl (by decide +kernel) ⟨Nat.le_of_ble_eq_true rfl, Nat.le_of_ble_eq_true rfl⟩) (pwu_V t_0 rfl hP hK hZ hS) rfl rfl hl.1 rfl (lv_room (Nat.le_of_ble_eq_true rfl)) dX8_digest_134 ⟨Nat.zero_le _, Nat.zero_le _⟩) hS (fun H locs hP hS => ?_)
      refine lv_i2l hx hb dX8_digest_137 rfl ?_
      refine lv_ladd hx hb dX8_digest_138 ?_
      obtain ⟨x1_17, ex1_17, hf⟩ := bd_inv hf
      refine w_topL ex1_17 ?_
      refine lv_lstore_n (lv' := [(1, .long x1_17), (0, .ref (ad 0)), (3, .int x3)]) hx hb dX8_digest_139 rfl hl (by decide) rfl (fun ls hl => ?_)
      refine lv_iconst (v := 0) hx hb dX8_digest_140 (by decide) ?_
      obtain ⟨x3_18, ex3_18, hf⟩ := bd_inv hf
      refine w_topI ex3_18 ?_
      refine lv_istore_n (lv' := [(3, .int x3_18), (1, .long x1_17), (0, .ref (ad 0))]) hx hb dX8_digest_141 rfl hl (by decide) rfl (fun ls hl => ?_)
      exact j142   n S_15 x1_17 x3_18 _ _ _ hf hP hS (lv_sub hl [2, 1, 0] rfl)
    · have hf := if_f b_13 hf
      refine lv_ldc2 (v := (31)) hx hb hown K232 dX8_digest_109 ?_
      refine lv_lload_n hx hb dX8_digest_112 rfl (lv_at hl 1 rfl) ?_
      refine lv_lmul hx hb dX8_digest_113 ?_
      refine lv_aload_n hx hb dX8_digest_114 rfl (lv_at hl 0 rfl) ?_
      refine lv_iload_n hx hb dX8_digest_115 rfl (lv_at hl 2 rfl) ?_
      obtain ⟨r_19, S_20, hc_21, hf⟩ := bo_inv hf
      refine w_ci (va_runV (As := [.int x3]) (rest := [.long ((31 : Int64) * x1)]) ⟨hx, hb, hml, hown, hts⟩ (c_X8_exchange l D y ad aL aU hI n S x3 _ _ hc_21) (cwV 1 hts gX8_digest_X8_exchange rfl rfl rfl (by decide +kernel) ⟨Nat.le_of_ble_eq_true rfl, Nat.le_of_ble_eq_true rfl⟩) (pwu_V t_0 rfl hP hK hZ hS) rfl rfl hl.1 rfl (lv_room (Nat.le_of_ble_eq_true rfl)) dX8_digest_116 ⟨Nat.zero_le _, Nat.zero_le _⟩) hS (fun H locs hP hS => ?_)
      refine lv_i2l hx hb dX8_digest_119 rfl ?_
      refine lv_ladd hx hb dX8_digest_120 ?_
      obtain ⟨x1_22, ex1_22, hf⟩ := bd_inv hf
      refine w_topL ex1_22 ?_
      refine lv_lstore_n (lv' := [(1, .long x1_22), (0, .ref (ad 0)), (3, .int x3)]) hx hb dX8_digest_121 rfl hl (by decide) rfl (fun ls hl => ?_)
      obtain ⟨x3_23, ex3_23, hf⟩ := bd_inv hf
      refine lv_iinc (v := x3_23) (lv' := [(3, .int x3_23), (1, .long x1_22), (0, .ref (ad 0))]) hx hb dX8_digest_122 hl (k := 2) rfl (by rw [ex3_23]; rfl) (by decide) rfl (fun ls hl => ?_)
      refine lv_goto (tgt := 104) hx hb dX8_digest_125 (by decide) ?_
      exact hk104 S_20 x1_22 x3_23 _ _ _ hf hP hS (lv_sub hl [2, 1, 0] rfl)
  have j104 : ∀ (fu : Nat), ∀ (S : St) (x1 : Int64) (x3 : Int32) (H : Heap) (locs : List Loc) (ls : Array Slot), fixF (fun _ _ _ => none) (f_X8_digest_104 n) fu S x1 x3 = some (r, S2) → PW D y ad S H → va_S (AA ad) s.heap H locs → lv_has ls 5 [(0, .ref (ad 0)), (1, .long x1), (3, .int x3)] → W p l e (headSpec wsX8_digest ({ frames := 32, cells := 0, slots := 0, locals := 787 })).room s m ([.ref (ad 0)] : List Value).toArray below meth c H locs 0 0 (QL below r S2 D y ad ([.ref (ad 0)] : List Value).toArray s) (F0 m 104 ls []) := by
    intro   fu
    induction fu with
    | zero => intro S x1 x3 H locs ls hf hP hS hl; cases hf
    | succ fu ih => exact b104   (fixF (fun _ _ _ => none) (f_X8_digest_104 n) fu) ih
  have b69 : ∀ (x3 : Int32) (k55 : St → Int64 → Int32 → Option (Int64 × St)) (hk55 : ∀ (S : St) (x1 : Int64) (x3 : Int32) (H : Heap) (locs : List Loc) (ls : Array Slot), k55 S x1 x3 = some (r, S2) → PW D y ad S H → va_S (AA ad) s.heap H locs → lv_has ls 5 [(0, .ref (ad 0)), (1, .long x1), (3, .int x3)] → W p l e (headSpec wsX8_digest ({ frames := 32, cells := 0, slots := 0, locals := 787 })).room s m ([.ref (ad 0)] : List Value).toArray below meth c H locs 0 0 (QL below r S2 D y ad ([.ref (ad 0)] : List Value).toArray s) (F0 m 55 ls [])) (k69 : St → Int64 → Int32 → Option (Int64 × St)) (hk69 : ∀ (S : St) (x1 : Int64) (x4 : Int32) (H : Heap) (locs : List Loc) (ls : Array Slot), k69 S x1 x4 = some (r, S2) → PW D y ad S H → va_S (AA ad) s.heap H locs → lv_has ls 5 [(0, .ref (ad 0)), (1, .long x1), (3, .int x3), (4, .int x4)] → W p l e (headSpec wsX8_digest ({ frames := 32, cells := 0, slots := 0, locals := 787 })).room s m ([.ref (ad 0)] : List Value).toArray below meth c H locs 0 0 (QL below r S2 D y ad ([.ref (ad 0)] : List Value).toArray s) (F0 m 69 ls [])), ∀ (S : St) (x1 : Int64) (x4 : Int32) (H : Heap) (locs : List Loc) (ls : Array Slot), f_X8_digest_69 n x3 k55 k69 S x1 x4 = some (r, S2) → PW D y ad S H → va_S (AA ad) s.heap H locs → lv_has ls 5 [(0, .ref (ad 0)), (1, .long x1), (3, .int x3), (4, .int x4)] → W p l e (headSpec wsX8_digest ({ frames := 32, cells := 0, slots := 0, locals := 787 })).room s m ([.ref (ad 0)] : List Value).toArray below meth c H locs 0 0 (QL below r S2 D y ad ([.ref (ad 0)] : List Value).toArray s) (F0 m 69 ls []) := by
    intro x3 k55 hk55 k69 hk69 S x1 x4 H locs ls hf hP hS hl
    unfold f_X8_digest_69 at hf
    refine lv_iload hx hb dX8_digest_69 (lv_at hl 3 rfl) ?_
    refine lv_iconst (v := 5) hx hb dX8_digest_71 (by decide) ?_
    refine lv_icmp_gt (tgt := 96) hx hb dX8_digest_72 (by decide) (fun b_24 => ?_) (fun b_24 => ?_)
    · have hf := if_t b_24 hf
      obtain ⟨x3_25, ex3_25, hf⟩ := bd_inv hf
      refine lv_iinc (v := x3_25) (lv' := [(3, .int x3_25), (0, .ref (ad 0)), (1, .long x1), (4, .int x4)]) hx hb dX8_digest_96 hl (k := 2) rfl (by rw [ex3_25]; rfl) (by decide) rfl (fun ls hl => ?_)
      refine lv_goto (tgt := 55) hx hb dX8_digest_99 (by decide) ?_
      exact hk55 S x1 x3_25 _ _ _ hf hP hS (lv_sub hl [1, 2, 0] rfl)
    · have hf := if_f b_24 hf
      refine lv_ldc2 (v := (31)) hx hb hown K232 dX8_digest_75 ?_
      refine lv_lload_n hx hb dX8_digest_78 rfl (lv_at hl 1 rfl) ?_
      refine lv_lmul hx hb dX8_digest_79 ?_
      refine lv_aload_n hx hb dX8_digest_80 rfl (lv_at hl 0 rfl) ?_
      refine lv_iload_n hx hb dX8_digest_81 rfl (lv_at hl 2 rfl) ?_
      refine lv_iload hx hb dX8_digest_82 (lv_at hl 3 rfl) ?_
      obtain ⟨r_26, S_27, hc_28, hf⟩ := bo_inv hf
      refine w_ci (va_runV (As := [.int x3, .int x4]) (rest := [.long ((31 : Int64) * x1)]) ⟨hx, hb, hml, hown, hts⟩ (c_X8_term l D y ad aL aU hI n S x3 x4 _ _ hc_28) (cwV 2 hts gX8_digest_X8_term rfl rfl rfl (by decide +kernel) ⟨Nat.le_of_ble_eq_true rfl, Nat.le_of_ble_eq_true rfl⟩) (pwu_V t_0 rfl hP hK hZ hS) rfl rfl hl.1 rfl (lv_room (Nat.le_of_ble_eq_true rfl)) dX8_digest_84 ⟨Nat.zero_le _, Nat.zero_le _⟩) hS (fun H locs hP hS => ?_)
      refine lv_i2l hx hb dX8_digest_87 rfl ?_
      refine lv_ladd hx hb dX8_digest_88 ?_
      obtain ⟨x1_29, ex1_29, hf⟩ := bd_inv hf
      refine w_topL ex1_29 ?_
      refine lv_lstore_n (lv' := [(1, .long x1_29), (0, .ref (ad 0)), (3, .int x3), (4, .int x4)]) hx hb dX8_digest_89 rfl hl (by decide) rfl (fun ls hl => ?_)
      obtain ⟨x4_30, ex4_30, hf⟩ := bd_inv hf
      refine lv_iinc (v := x4_30) (lv' := [(4, .int x4_30), (1, .long x1_29), (0, .ref (ad 0)), (3, .int x3)]) hx hb dX8_digest_90 hl (k := 3) rfl (by rw [ex4_30]; rfl) (by decide) rfl (fun ls hl => ?_)
      refine lv_goto (tgt := 69) hx hb dX8_digest_93 (by decide) ?_
      exact hk69 S_27 x1_29 x4_30 _ _ _ hf hP hS (lv_sub hl [2, 1, 3, 0] rfl)
  have j69 : ∀ (x3 : Int32) (k55 : St → Int64 → Int32 → Option (Int64 × St)) (hk55 : ∀ (S : St) (x1 : Int64) (x3 : Int32) (H : Heap) (locs : List Loc) (ls : Array Slot), k55 S x1 x3 = some (r, S2) → PW D y ad S H → va_S (AA ad) s.heap H locs → lv_has ls 5 [(0, .ref (ad 0)), (1, .long x1), (3, .int x3)] → W p l e (headSpec wsX8_digest ({ frames := 32, cells := 0, slots := 0, locals := 787 })).room s m ([.ref (ad 0)] : List Value).toArray below meth c H locs 0 0 (QL below r S2 D y ad ([.ref (ad 0)] : List Value).toArray s) (F0 m 55 ls [])) (fu : Nat), ∀ (S : St) (x1 : Int64) (x4 : Int32) (H : Heap) (locs : List Loc) (ls : Array Slot), fixF (fun _ _ _ => none) (f_X8_digest_69 n x3 k55) fu S x1 x4 = some (r, S2) → PW D y ad S H → va_S (AA ad) s.heap H locs → lv_has ls 5 [(0, .ref (ad 0)), (1, .long x1), (3, .int x3), (4, .int x4)] → W p l e (headSpec wsX8_digest ({ frames := 32, cells := 0, slots := 0, locals := 787 })).room s m ([.ref (ad 0)] : List Value).toArray below meth c H locs 0 0 (QL below r S2 D y ad ([.ref (ad 0)] : List Value).toArray s) (F0 m 69 ls []) := by
    intro x3 k55 hk55 fu
    induction fu with
    | zero => intro S x1 x4 H locs ls hf hP hS hl; cases hf
    | succ fu ih => exact b69 x3 k55 hk55 (fixF (fun _ _ _ => none) (f_X8_digest_69 n x3 k55) fu) ih
  have b55 : ∀ (k55 : St → Int64 → Int32 → Option (Int64 × St)) (hk55 : ∀ (S : St) (x1 : Int64) (x3 : Int32) (H : Heap) (locs : List Loc) (ls : Array Slot), k55 S x1 x3 = some (r, S2) → PW D y ad S H → va_S (AA ad) s.heap H locs → lv_has ls 5 [(0, .ref (ad 0)), (1, .long x1), (3, .int x3)] → W p l e (headSpec wsX8_digest ({ frames := 32, cells := 0, slots := 0, locals := 787 })).room s m ([.ref (ad 0)] : List Value).toArray below meth c H locs 0 0 (QL below r S2 D y ad ([.ref (ad 0)] : List Value).toArray s) (F0 m 55 ls [])), ∀ (S : St) (x1 : Int64) (x3 : Int32) (H : Heap) (locs : List Loc) (ls : Array Slot), f_X8_digest_55 n k55 S x1 x3 = some (r, S2) → PW D y ad S H → va_S (AA ad) s.heap H locs → lv_has ls 5 [(0, .ref (ad 0)), (1, .long x1), (3, .int x3)] → W p l e (headSpec wsX8_digest ({ frames := 32, cells := 0, slots := 0, locals := 787 })).room s m ([.ref (ad 0)] : List Value).toArray below meth c H locs 0 0 (QL below r S2 D y ad ([.ref (ad 0)] : List Value).toArray s) (F0 m 55 ls []) := by
    intro  k55 hk55 S x1 x3 H locs ls hf hP hS hl
    unfold f_X8_digest_55 at hf
    refine lv_iload_n hx hb dX8_digest_55 rfl (lv_at hl 2 rfl) ?_
    refine lv_aload_n hx hb dX8_digest_56 rfl (lv_at hl 0 rfl) ?_
    refine w_gR (z := 6) (C := RX8) (T := TX8) hx hb hts n8 hown hK hP t_0 rfl 3 (by decide) L23 rfl rfl dX8_digest_57 ?_
    obtain ⟨r_31, S_32, hc_33, hf⟩ := bo_inv hf
    refine w_ci (va_runV (As := []) (rest := [.int x3]) ⟨hx, hb, hml, hown, hts⟩ (c_X7_size l D y ad aL aU hI n 6 isT6 S  _ _ hc_33) (cwV 0 hts gX8_digest_X7_size rfl rfl rfl (by decide +kernel) ⟨Nat.le_of_ble_eq_true rfl, Nat.le_of_ble_eq_true rfl⟩) (pwu_V t_6 rfl hP hK hZ hS) rfl rfl hl.1 rfl (lv_room (Nat.le_of_ble_eq_true rfl)) dX8_digest_60 ⟨Nat.zero_le _, Nat.zero_le _⟩) hS (fun H locs hP hS => ?_)
    refine lv_icmp_ge (tgt := 102) hx hb dX8_digest_63 (by decide) (fun b_34 => ?_) (fun b_34 => ?_)
    · have hf := if_t b_34 hf
      refine lv_iconst (v := 0) hx hb dX8_digest_102 (by decide) ?_
      obtain ⟨x3_35, ex3_35, hf⟩ := bd_inv hf
      refine w_topI ex3_35 ?_
      refine lv_istore_n (lv' := [(3, .int x3_35), (0, .ref (ad 0)), (1, .long x1)]) hx hb dX8_digest_103 rfl hl (by decide) rfl (fun ls hl => ?_)
      exact j104   n S_32 x1 x3_35 _ _ _ hf hP hS (lv_sub hl [1, 2, 0] rfl)
    · have hf := if_f b_34 hf
      refine lv_iconst (v := 0) hx hb dX8_digest_66 (by decide) ?_
      obtain ⟨x4_36, ex4_36, hf⟩ := bd_inv hf
      refine w_topI ex4_36 ?_
      refine lv_istore (lv' := [(4, .int x4_36), (0, .ref (ad 0)), (1, .long x1), (3, .int x3)]) hx hb dX8_digest_67 hl (by decide) rfl (fun ls hl => ?_)
      exact j69 x3 k55 hk55 n S_32 x1 x4_36 _ _ _ hf hP hS (lv_sub hl [1, 2, 3, 0] rfl)
  have j55 : ∀ (fu : Nat), ∀ (S : St) (x1 : Int64) (x3 : Int32) (H : Heap) (locs : List Loc) (ls : Array Slot), fixF (fun _ _ _ => none) (f_X8_digest_55 n) fu S x1 x3 = some (r, S2) → PW D y ad S H → va_S (AA ad) s.heap H locs → lv_has ls 5 [(0, .ref (ad 0)), (1, .long x1), (3, .int x3)] → W p l e (headSpec wsX8_digest ({ frames := 32, cells := 0, slots := 0, locals := 787 })).room s m ([.ref (ad 0)] : List Value).toArray below meth c H locs 0 0 (QL below r S2 D y ad ([.ref (ad 0)] : List Value).toArray s) (F0 m 55 ls []) := by
    intro   fu
    induction fu with
    | zero => intro S x1 x3 H locs ls hf hP hS hl; cases hf
    | succ fu ih => exact b55   (fixF (fun _ _ _ => none) (f_X8_digest_55 n) fu) ih
  have b20 : ∀ (x3 : Int32) (k6 : St → Int64 → Int32 → Option (Int64 × St)) (hk6 : ∀ (S : St) (x1 : Int64) (x3 : Int32) (H : Heap) (locs : List Loc) (ls : Array Slot), k6 S x1 x3 = some (r, S2) → PW D y ad S H → va_S (AA ad) s.heap H locs → lv_has ls 5 [(0, .ref (ad 0)), (1, .long x1), (3, .int x3)] → W p l e (headSpec wsX8_digest ({ frames := 32, cells := 0, slots := 0, locals := 787 })).room s m ([.ref (ad 0)] : List Value).toArray below meth c H locs 0 0 (QL below r S2 D y ad ([.ref (ad 0)] : List Value).toArray s) (F0 m 6 ls [])) (k20 : St → Int64 → Int32 → Option (Int64 × St)) (hk20 : ∀ (S : St) (x1 : Int64) (x4 : Int32) (H : Heap) (locs : List Loc) (ls : Array Slot), k20 S x1 x4 = some (r, S2) → PW D y ad S H → va_S (AA ad) s.heap H locs → lv_has ls 5 [(0, .ref (ad 0)), (1, .long x1), (3, .int x3), (4, .int x4)] → W p l e (headSpec wsX8_digest ({ frames := 32, cells := 0, slots := 0, locals := 787 })).room s m ([.ref (ad 0)] : List Value).toArray below meth c H locs 0 0 (QL below r S2 D y ad ([.ref (ad 0)] : List Value).toArray s) (F0 m 20 ls [])), ∀ (S : St) (x1 : Int64) (x4 : Int32) (H : Heap) (locs : List Loc) (ls : Array Slot), f_X8_digest_20 n x3 k6 k20 S x1 x4 = some (r, S2) → PW D y ad S H → va_S (AA ad) s.heap H locs → lv_has ls 5 [(0, .ref (ad 0)), (1, .long x1), (3, .int x3), (4, .int x4)] → W p l e (headSpec wsX8_digest ({ frames := 32, cells := 0, slots := 0, locals := 787 })).room s m ([.ref (ad 0)] : List Value).toArray below meth c H locs 0 0 (QL below r S2 D y ad ([.ref (ad 0)] : List Value).toArray s) (F0 m 20 ls []) := by
    intro x3 k6 hk6 k20 hk20 S x1 x4 H locs ls hf hP hS hl
    unfold f_X8_digest_20 at hf
    refine lv_iload hx hb dX8_digest_20 (lv_at hl 3 rfl) ?_
    refine lv_iconst (v := 3) hx hb dX8_digest_22 (by decide) ?_
    refine lv_icmp_gt (tgt := 47) hx hb dX8_digest_23 (by decide) (fun b_37 => ?_) (fun b_37 => ?_)
    · have hf := if_t b_37 hf
      obtain ⟨x3_38, ex3_38, hf⟩ := bd_inv hf
      refine lv_iinc (v := x3_38) (lv' := [(3, .int x3_38), (0, .ref (ad 0)), (1, .long x1), (4, .int x4)]) hx hb dX8_digest_47 hl (k := 2) rfl (by rw [ex3_38]; rfl) (by decide) rfl (fun ls hl => ?_)
      refine lv_goto (tgt := 6) hx hb dX8_digest_50 (by decide) ?_
      exact hk6 S x1 x3_38 _ _ _ hf hP hS (lv_sub hl [1, 2, 0] rfl)
    · have hf := if_f b_37 hf
      refine lv_ldc2 (v := (31)) hx hb hown K232 dX8_digest_26 ?_
      refine lv_lload_n hx hb dX8_digest_29 rfl (lv_at hl 1 rfl) ?_
      refine lv_lmul hx hb dX8_digest_30 ?_
      refine lv_aload_n hx hb dX8_digest_31 rfl (lv_at hl 0 rfl) ?_
      refine lv_iload_n hx hb dX8_digest_32 rfl (lv_at hl 2 rfl) ?_
      refine lv_iload hx hb dX8_digest_33 (lv_at hl 3 rfl) ?_
      obtain ⟨r_39, S_40, hc_41, hf⟩ := bo_inv hf
      refine w_ci (va_runV (As := [.int x3, .int x4]) (rest := [.long ((31 : Int64) * x1)]) ⟨hx, hb, hml, hown, hts⟩ (c_X8_literal l D y ad aL aU hI n S x3 x4 _ _ hc_41) (cwV 2 hts gX8_digest_X8_literal rfl rfl rfl (by decide +kernel) ⟨Nat.le_of_ble_eq_true rfl, Nat.le_of_ble_eq_true rfl⟩) (pwu_V t_0 rfl hP hK hZ hS) rfl rfl hl.1 rfl (lv_room (Nat.le_of_ble_eq_true rfl)) dX8_digest_35 ⟨Nat.zero_le _, Nat.zero_le _⟩) hS (fun H locs hP hS => ?_)
      refine lv_i2l hx hb dX8_digest_38 rfl ?_
      refine lv_ladd hx hb dX8_digest_39 ?_
      obtain ⟨x1_42, ex1_42, hf⟩ := bd_inv hf
      refine w_topL ex1_42 ?_
      refine lv_lstore_n (lv' := [(1, .long x1_42), (0, .ref (ad 0)), (3, .int x3), (4, .int x4)]) hx hb dX8_digest_40 rfl hl (by decide) rfl (fun ls hl => ?_)
      obtain ⟨x4_43, ex4_43, hf⟩ := bd_inv hf
      refine lv_iinc (v := x4_43) (lv' := [(4, .int x4_43), (1, .long x1_42), (0, .ref (ad 0)), (3, .int x3)]) hx hb dX8_digest_41 hl (k := 3) rfl (by rw [ex4_43]; rfl) (by decide) rfl (fun ls hl => ?_)
      refine lv_goto (tgt := 20) hx hb dX8_digest_44 (by decide) ?_
      exact hk20 S_40 x1_42 x4_43 _ _ _ hf hP hS (lv_sub hl [2, 1, 3, 0] rfl)
  have j20 : ∀ (x3 : Int32) (k6 : St → Int64 → Int32 → Option (Int64 × St)) (hk6 : ∀ (S : St) (x1 : Int64) (x3 : Int32) (H : Heap) (locs : List Loc) (ls : Array Slot), k6 S x1 x3 = some (r, S2) → PW D y ad S H → va_S (AA ad) s.heap H locs → lv_has ls 5 [(0, .ref (ad 0)), (1, .long x1), (3, .int x3)] → W p l e (headSpec wsX8_digest ({ frames := 32, cells := 0, slots := 0, locals := 787 })).room s m ([.ref (ad 0)] : List Value).toArray below meth c H locs 0 0 (QL below r S2 D y ad ([.ref (ad 0)] : List Value).toArray s) (F0 m 6 ls [])) (fu : Nat), ∀ (S : St) (x1 : Int64) (x4 : Int32) (H : Heap) (locs : List Loc) (ls : Array Slot), fixF (fun _ _ _ => none) (f_X8_digest_20 n x3 k6) fu S x1 x4 = some (r, S2) → PW D y ad S H → va_S (AA ad) s.heap H locs → lv_has ls 5 [(0, .ref (ad 0)), (1, .long x1), (3, .int x3), (4, .int x4)] → W p l e (headSpec wsX8_digest ({ frames := 32, cells := 0, slots := 0, locals := 787 })).room s m ([.ref (ad 0)] : List Value).toArray below meth c H locs 0 0 (QL below r S2 D y ad ([.ref (ad 0)] : List Value).toArray s) (F0 m 20 ls []) := by
    intro x3 k6 hk6 fu
    induction fu with
    | zero => intro S x1 x4 H locs ls hf hP hS hl; cases hf
    | succ fu ih => exact b20 x3 k6 hk6 (fixF (fun _ _ _ => none) (f_X8_digest_20 n x3 k6) fu) ih
  have b6 : ∀ (k6 : St → Int64 → Int32 → Option (Int64 × St)) (hk6 : ∀ (S : St) (x1 : Int64) (x3 : Int32) (H : Heap) (locs : List Loc) (ls : Array Slot), k6 S x1 x3 = some (r, S2) → PW D y ad S H → va_S (AA ad) s.heap H locs → lv_has ls 5 [(0, .ref (ad 0)), (1, .long x1), (3, .int x3)] → W p l e (headSpec wsX8_digest ({ frames := 32, cells := 0, slots := 0, locals := 787 })).room s m ([.ref (ad 0)] : List Value).toArray below meth c H locs 0 0 (QL below r S2 D y ad ([.ref (ad 0)] : List Value).toArray s) (F0 m 6 ls [])), ∀ (S : St) (x1 : Int64) (x3 : Int32) (H : Heap) (locs : List Loc) (ls : Array Slot), f_X8_digest_6 n k6 S x1 x3 = some (r, S2) → PW D y ad S H → va_S (AA ad) s.heap H locs → lv_has ls 5 [(0, .ref (ad 0)), (1, .long x1), (3, .int x3)] → W p l e (headSpec wsX8_digest ({ frames := 32, cells := 0, slots := 0, locals := 787 })).room s m ([.ref (ad 0)] : List Value).toArray below meth c H locs 0 0 (QL below r S2 D y ad ([.ref (ad 0)] : List Value).toArray s) (F0 m 6 ls []) := by
    intro  k6 hk6 S x1 x3 H locs ls hf hP hS hl
    unfold f_X8_digest_6 at hf
    refine lv_iload_n hx hb dX8_digest_6 rfl (lv_at hl 2 rfl) ?_
    refine lv_aload_n hx hb dX8_digest_7 rfl (lv_at hl 0 rfl) ?_
    refine w_gR (z := 16) (C := RX8) (T := TX8) hx hb hts n8 hown hK hP t_0 rfl 5 (by decide) L33 rfl rfl dX8_digest_8 ?_
    obtain ⟨r_44, S_45, hc_46, hf⟩ := bo_inv hf
    refine w_ci (va_runV (As := []) (rest := [.int x3]) ⟨hx, hb, hml, hown, hts⟩ (c_X3_size l D y ad aL aU hI n S  _ _ hc_46) (cwV 0 hts gX8_digest_X3_size rfl rfl rfl (by decide +kernel) ⟨Nat.le_of_ble_eq_true rfl, Nat.le_of_ble_eq_true rfl⟩) (pwu_V t_16 rfl hP hK hZ hS) rfl rfl hl.1 rfl (lv_room (Nat.le_of_ble_eq_true rfl)) dX8_digest_11 ⟨Nat.zero_le _, Nat.zero_le _⟩) hS (fun H locs hP hS => ?_)
    refine lv_icmp_ge (tgt := 53) hx hb dX8_digest_14 (by decide) (fun b_47 => ?_) (fun b_47 => ?_)
    · have hf := if_t b_47 hf
      refine lv_iconst (v := 0) hx hb dX8_digest_53 (by decide) ?_
      obtain ⟨x3_48, ex3_48, hf⟩ := bd_inv hf
      refine w_topI ex3_48 ?_
      refine lv_istore_n (lv' := [(3, .int x3_48), (0, .ref (ad 0)), (1, .long x1)]) hx hb dX8_digest_54 rfl hl (by decide) rfl (fun ls hl => ?_)
      exact j55   n S_45 x1 x3_48 _ _ _ hf hP hS (lv_sub hl [1, 2, 0] rfl)
    · have hf := if_f b_47 hf
      refine lv_iconst (v := 0) hx hb dX8_digest_17 (by decide) ?_
      obtain ⟨x4_49, ex4_49, hf⟩ := bd_inv hf
      refine w_topI ex4_49 ?_
      refine lv_istore (lv' := [(4, .int x4_49), (0, .ref (ad 0)), (1, .long x1), (3, .int x3)]) hx hb dX8_digest_18 hl (by decide) rfl (fun ls hl => ?_)
      exact j20 x3 k6 hk6 n S_45 x1 x4_49 _ _ _ hf hP hS (lv_sub hl [1, 2, 3, 0] rfl)
  have j6 : ∀ (fu : Nat), ∀ (S : St) (x1 : Int64) (x3 : Int32) (H : Heap) (locs : List Loc) (ls : Array Slot), fixF (fun _ _ _ => none) (f_X8_digest_6 n) fu S x1 x3 = some (r, S2) → PW D y ad S H → va_S (AA ad) s.heap H locs → lv_has ls 5 [(0, .ref (ad 0)), (1, .long x1), (3, .int x3)] → W p l e (headSpec wsX8_digest ({ frames := 32, cells := 0, slots := 0, locals := 787 })).room s m ([.ref (ad 0)] : List Value).toArray below meth c H locs 0 0 (QL below r S2 D y ad ([.ref (ad 0)] : List Value).toArray s) (F0 m 6 ls []) := by
    intro   fu
    induction fu with
    | zero => intro S x1 x3 H locs ls hf hP hS hl; cases hf
    | succ fu ih => exact b6   (fixF (fun _ _ _ => none) (f_X8_digest_6 n) fu) ih
  unfold f_X8_digest at hf
  refine lv_ldc2 (v := (1609)) hx hb hown K230 dX8_digest_0 ?_
  obtain ⟨x1_50, ex1_50, hf⟩ := bd_inv hf
  refine w_topL ex1_50 ?_
  refine lv_lstore_n (lv' := [(1, .long x1_50), (0, .ref (ad 0))]) hx hb dX8_digest_3 rfl hl (by decide) rfl (fun ls hl => ?_)
  refine lv_iconst (v := 0) hx hb dX8_digest_4 (by decide) ?_
  obtain ⟨x3_51, ex3_51, hf⟩ := bd_inv hf
  refine w_topI ex3_51 ?_
  refine lv_istore_n (lv' := [(3, .int x3_51), (1, .long x1_50), (0, .ref (ad 0))]) hx hb dX8_digest_5 rfl hl (by decide) rfl (fun ls hl => ?_)
  exact j6   n S x1_50 x3_51 _ _ _ hf hP hS (lv_sub hl [2, 1, 0] rfl)
set_option maxHeartbeats 4000000 in
set_option maxRecDepth 100000 in
theorem c_X9_within (l : Launch) (D : va_G) (y : y4) (ad : Nat → Nat) (aL aU : Nat) (hI : Inj ad) (n : Nat) (S : St) (a0 : Int32) (a1 : Int32) (a2 : Int32) (r : Int32) (S2 : St) (hf : f_X9_within n S a0 a1 a2 = some (r, S2)) : KI l D y ad aL aU yX9_within wsX9_within ({ frames := 1, cells := 0, slots := 0, locals := 20 }) [.int a0, .int a1, .int a2] S r S2 := by
  refine Met.ofW (cc := cX9_within) (maxL := 3) (ret := (some .boolean)) (by decide) rfl ?_
  intro p e s m args below meth c s₁ B hml hv
  obtain ⟨rfl, hP, hK, hZ⟩ := hv
  have hx := B.exec
  have hb := B.bytes
  have hr := B.returns
  have hts := atoms_spec (ws := wsX9_within) B.pre
  have hown : s.vm.findClass RX9 = some m.cls := findClass_of_methodNamed B.named
  have hlocks := B.notSynchronized
  have hS : va_S (AA ad) s.heap s.heap [] := va_S.rf
  have hl := lv_entry ([.int a0, .int a1, .int a2]) (n := 3) (Nat.le_of_ble_eq_true rfl)
  rw [lg_entry_eq]
  generalize (lg_sl ([.int a0, .int a1, .int a2]) ++ List.replicate (3 - (lg_sl ([.int a0, .int a1, .int a2])).length) Slot.unset).toArray = ls at hl ⊢
  have hl : lv_has ls 3 [(0, .int a0), (1, .int a1), (2, .int a2)] := hl
  unfold f_X9_within at hf
  refine lv_iload_n hx hb dX9_within_0 rfl (lv_at hl 0 rfl) ?_
  refine lv_iload_n hx hb dX9_within_1 rfl (lv_at hl 1 rfl) ?_
  refine lv_icmp_lt (tgt := 14) hx hb dX9_within_2 (by decide) (fun b_1 => ?_) (fun b_1 => ?_)
  · have hf := if_t b_1 hf
    refine lv_iconst (v := 0) hx hb dX9_within_14 (by decide) ?_
    exact w_zret hx hb hr hlocks (fun h => h (by decide)) hP hS (rt_inv hf) dX9_within_15
  · have hf := if_f b_1 hf
    refine lv_iload_n hx hb dX9_within_5 rfl (lv_at hl 0 rfl) ?_
    refine lv_iload_n hx hb dX9_within_6 rfl (lv_at hl 2 rfl) ?_
    refine lv_icmp_gt (tgt := 14) hx hb dX9_within_7 (by decide) (fun b_2 => ?_) (fun b_2 => ?_)
    · have hf := if_t b_2 hf
      refine lv_iconst (v := 0) hx hb dX9_within_14 (by decide) ?_
      exact w_zret hx hb hr hlocks (fun h => h (by decide)) hP hS (rt_inv hf) dX9_within_15
    · have hf := if_f b_2 hf
      refine lv_iconst (v := 1) hx hb dX9_within_10 (by decide) ?_
      refine lv_goto (tgt := 15) hx hb dX9_within_11 (by decide) ?_
      exact w_zret hx hb hr hlocks (fun h => h (by decide)) hP hS (rt_inv hf) dX9_within_15
set_option maxHeartbeats 4000000 in
set_option maxRecDepth 100000 in
theorem c_X9_termOf (l : Launch) (D : va_G) (y : y4) (ad : Nat → Nat) (aL aU : Nat) (hI : Inj ad) (n : Nat) (S : St) (a1 : Int32) (a2 : Int32) (a3 : Int32) (r : Int32) (S2 : St) (hf : f_X9_termOf n S a1 a2 a3 = some (r, S2)) : KI l D y ad aL aU yX9_termOf wsX9_termOf ({ frames := 1, cells := 0, slots := 0, locals := 20 }) [.ref (ad 28), .int a1, .int a2, .int a3] S r S2 := by
  refine Met.ofW (cc := cX9_termOf) (maxL := 5) (ret := (some .int)) (by decide) rfl ?_
  intro p e s m args below meth c s₁ B hml hv
  obtain ⟨rfl, hP, hK, hZ⟩ := hv
  have hx := B.exec
  have hb := B.bytes
  have hr := B.returns
  have hts := atoms_spec (ws := wsX9_termOf) B.pre
  have hown : s.vm.findClass RX9 = some m.cls := findClass_of_methodNamed B.named
  have hlocks := B.notSynchronized
  have hS : va_S (AA ad) s.heap s.heap [] := va_S.rf
  have L28 := hts (.fieldLink RX9 28 "JoinedTheoriesModel" "kindOf" "[I") (by decide +kernel)
  have L31 := hts (.fieldLink RX9 31 "JoinedTheoriesModel" "firstOf" "[I") (by decide +kernel)
  have L34 := hts (.fieldLink RX9 34 "JoinedTheoriesModel" "secondOf" "[I") (by decide +kernel)
  have L133 := hts (.fieldLink RX9 133 "JoinedTheoriesModel" "terms" "I") (by decide +kernel)
  have n9 : ∀ w ∈ wsX90, w ∈ wsX9_termOf := by decide +kernel
  have hl := lv_entry ([.ref (ad 28), .int a1, .int a2, .int a3]) (n := 5) (Nat.le_of_ble_eq_true rfl)
  rw [lg_entry_eq]
  generalize (lg_sl ([.ref (ad 28), .int a1, .int a2, .int a3]) ++ List.replicate (5 - (lg_sl ([.ref (ad 28), .int a1, .int a2, .int a3])).length) Slot.unset).toArray = ls at hl ⊢
  have hl : lv_has ls 5 [(0, .ref (ad 28)), (1, .int a1), (2, .int a2), (3, .int a3)] := hl
  have j48 : ∀ (x1 : Int32) (x2 : Int32) (x3 : Int32) (k3 : St → Int32 → Option (Int32 × St)) (hk3 : ∀ (S : St) (x4 : Int32) (H : Heap) (locs : List Loc) (ls : Array Slot), k3 S x4 = some (r, S2) → PW D y ad S H → va_S (AA ad) s.heap H locs → lv_has ls 5 [(0, .ref (ad 28)), (1, .int x1), (2, .int x2), (3, .int x3), (4, .int x4)] → W p l e (headSpec wsX9_termOf ({ frames := 1, cells := 0, slots := 0, locals := 20 })).room s m ([.ref (ad 28), .int a1, .int a2, .int a3] : List Value).toArray below meth c H locs 0 0 (QI below r S2 D y ad ([.ref (ad 28), .int a1, .int a2, .int a3] : List Value).toArray s) (F0 m 3 ls [])), ∀ (S : St) (x4 : Int32) (H : Heap) (locs : List Loc) (ls : Array Slot), f_X9_termOf_48 n x1 x2 x3 k3 S x4 = some (r, S2) → PW D y ad S H → va_S (AA ad) s.heap H locs → lv_has ls 5 [(0, .ref (ad 28)), (1, .int x1), (2, .int x2), (3, .int x3), (4, .int x4)] → W p l e (headSpec wsX9_termOf ({ frames := 1, cells := 0, slots := 0, locals := 20 })).room s m ([.ref (ad 28), .int a1, .int a2, .int a3] : List Value).toArray below meth c H locs 0 0 (QI below r S2 D y ad ([.ref (ad 28), .int a1, .int a2, .int a3] : List Value).toArray s) (F0 m 48 ls []) := by
    intro x1 x2 x3 k3 hk3 S x4 H locs ls hf hP hS hl
    unfold f_X9_termOf_48 at hf
    obtain ⟨x4_1, ex4_1, hf⟩ := bd_inv hf
    refine lv_iinc (v := x4_1) (lv' := [(4, .int x4_1), (0, .ref (ad 28)), (1, .int x1), (2, .int x2), (3, .int x3)]) hx hb dX9_termOf_48 hl (k := 4) rfl (by rw [ex4_1]; rfl) (by decide) rfl (fun ls hl => ?_)
    refine lv_goto (tgt := 3) hx hb dX9_termOf_51 (by decide) ?_
    exact hk3 S x4_1 _ _ _ hf hP hS (lv_sub hl [1, 2, 3, 4, 0] rfl)
  have b3 : ∀ (x1 : Int32) (x2 : Int32) (x3 : Int32) (k3 : St → Int32 → Option (Int32 × St)) (hk3 : ∀ (S : St) (x4 : Int32) (H : Heap) (locs : List Loc) (ls : Array Slot), k3 S x4 = some (r, S2) → PW D y ad S H → va_S (AA ad) s.heap H locs → lv_has ls 5 [(0, .ref (ad 28)), (1, .int x1), (2, .int x2), (3, .int x3), (4, .int x4)] → W p l e (headSpec wsX9_termOf ({ frames := 1, cells := 0, slots := 0, locals := 20 })).room s m ([.ref (ad 28), .int a1, .int a2, .int a3] : List Value).toArray below meth c H locs 0 0 (QI below r S2 D y ad ([.ref (ad 28), .int a1, .int a2, .int a3] : List Value).toArray s) (F0 m 3 ls [])), ∀ (S : St) (x4 : Int32) (H : Heap) (locs : List Loc) (ls : Array Slot), f_X9_termOf_3 n x1 x2 x3 k3 S x4 = some (r, S2) → PW D y ad S H → va_S (AA ad) s.heap H locs → lv_has ls 5 [(0, .ref (ad 28)), (1, .int x1), (2, .int x2), (3, .int x3), (4, .int x4)] → W p l e (headSpec wsX9_termOf ({ frames := 1, cells := 0, slots := 0, locals := 20 })).room s m ([.ref (ad 28), .int a1, .int a2, .int a3] : List Value).toArray below meth c H locs 0 0 (QI below r S2 D y ad ([.ref (ad 28), .int a1, .int a2, .int a3] : List Value).toArray s) (F0 m 3 ls []) := by
    intro x1 x2 x3 k3 hk3 S x4 H locs ls hf hP hS hl
    unfold f_X9_termOf_3 at hf
    refine lv_iload hx hb dX9_termOf_3 (lv_at hl 4 rfl) ?_
    refine lv_aload_n hx hb dX9_termOf_5 rfl (lv_at hl 0 rfl) ?_
    refine w_gI (C := RX9) (T := TX9) hx hb hts n9 hown hK hP t_28 rfl 18 (by decide) L133 rfl dX9_termOf_6 ?_
    refine lv_icmp_ge (tgt := 54) hx hb dX9_termOf_9 (by decide) (fun b_2 => ?_) (fun b_2 => ?_)
    · have hf := if_t b_2 hf
      refine lv_aload_n hx hb dX9_termOf_54 rfl (lv_at hl 0 rfl) ?_
      refine w_gR (z := 35) (C := RX9) (T := TX9) hx hb hts n9 hown hK hP t_28 rfl 19 (by decide) L28 rfl rfl dX9_termOf_55 ?_
      refine lv_aload_n hx hb dX9_termOf_58 rfl (lv_at hl 0 rfl) ?_
      refine w_gI (C := RX9) (T := TX9) hx hb hts n9 hown hK hP t_28 rfl 18 (by decide) L133 rfl dX9_termOf_59 ?_
      refine lv_iload_n hx hb dX9_termOf_62 rfl (lv_at hl 1 rfl) ?_
      obtain ⟨g_3, hf⟩ := gd_inv hf
      obtain ⟨S_4, eS_4, hf⟩ := bd_inv hf
      refine w_iast hx hb hK hI hP hS t_35 g_3 dX9_termOf_63 (fun H locs hP hS => ?_)
      rw [← eS_4] at hP
      refine lv_aload_n hx hb dX9_termOf_64 rfl (lv_at hl 0 rfl) ?_
      refine w_gR (z := 36) (C := RX9) (T := TX9) hx hb hts n9 hown hK hP t_28 rfl 20 (by decide) L31 rfl rfl dX9_termOf_65 ?_
      refine lv_aload_n hx hb dX9_termOf_68 rfl (lv_at hl 0 rfl) ?_
      refine w_gI (C := RX9) (T := TX9) hx hb hts n9 hown hK hP t_28 rfl 18 (by decide) L133 rfl dX9_termOf_69 ?_
      refine lv_iload_n hx hb dX9_termOf_72 rfl (lv_at hl 2 rfl) ?_
      obtain ⟨g_5, hf⟩ := gd_inv hf
      obtain ⟨S_6, eS_6, hf⟩ := bd_inv hf
      refine w_iast hx hb hK hI hP hS t_36 g_5 dX9_termOf_73 (fun H locs hP hS => ?_)
      rw [← eS_6] at hP
      refine lv_aload_n hx hb dX9_termOf_74 rfl (lv_at hl 0 rfl) ?_
      refine w_gR (z := 37) (C := RX9) (T := TX9) hx hb hts n9 hown hK hP t_28 rfl 21 (by decide) L34 rfl rfl dX9_termOf_75 ?_
      refine lv_aload_n hx hb dX9_termOf_78 rfl (lv_at hl 0 rfl) ?_
      refine w_gI (C := RX9) (T := TX9) hx hb hts n9 hown hK hP t_28 rfl 18 (by decide) L133 rfl dX9_termOf_79 ?_
      refine lv_iload_n hx hb dX9_termOf_82 rfl (lv_at hl 3 rfl) ?_
      obtain ⟨g_7, hf⟩ := gd_inv hf
      obtain ⟨S_8, eS_8, hf⟩ := bd_inv hf
      refine w_iast hx hb hK hI hP hS t_37 g_7 dX9_termOf_83 (fun H locs hP hS => ?_)
      rw [← eS_8] at hP
      refine lv_aload_n hx hb dX9_termOf_84 rfl (lv_at hl 0 rfl) ?_
      refine lv_dup hx hb dX9_termOf_85 rfl ?_
      refine w_gI (C := RX9) (T := TX9) hx hb hts n9 hown hK hP t_28 rfl 18 (by decide) L133 rfl dX9_termOf_86 ?_
      refine lv_iconst (v := 1) hx hb dX9_termOf_89 (by decide) ?_
      refine lv_iadd hx hb dX9_termOf_90 ?_
      obtain ⟨S_9, eS_9, hf⟩ := bd_inv hf
      refine w_pI (ty := .int) (C := RX9) (T := TX9) hx hb hts n9 tyX9 tyX9_ok nmX9 hown hK hI hP hS t_28 rfl 18 (by decide) L133 rfl rfl rfl ⟨rfl, rfl⟩ dX9_termOf_91 (fun H locs hP hS => ?_)
      rw [← eS_9] at hP
      refine lv_aload_n hx hb dX9_termOf_94 rfl (lv_at hl 0 rfl) ?_
      refine w_gI (C := RX9) (T := TX9) hx hb hts n9 hown hK hP t_28 rfl 18 (by decide) L133 rfl dX9_termOf_95 ?_
      refine lv_iconst (v := 1) hx hb dX9_termOf_98 (by decide) ?_
      refine lv_isub hx hb dX9_termOf_99 ?_
      exact w_iret hx hb hr hlocks hP hS (rt_inv hf) dX9_termOf_100
    · have hf := if_f b_2 hf
      refine lv_aload_n hx hb dX9_termOf_12 rfl (lv_at hl 0 rfl) ?_
      refine w_gR (z := 35) (C := RX9) (T := TX9) hx hb hts n9 hown hK hP t_28 rfl 19 (by decide) L28 rfl rfl dX9_termOf_13 ?_
      refine lv_iload hx hb dX9_termOf_16 (lv_at hl 4 rfl) ?_
      obtain ⟨g_10, hf⟩ := gd_inv hf
      refine w_iald hx hb hK hP t_35 g_10 dX9_termOf_18 ?_
      refine lv_iload_n hx hb dX9_termOf_19 rfl (lv_at hl 1 rfl) ?_
      refine lv_icmp_ne (tgt := 48) hx hb dX9_termOf_20 (by decide) (fun b_11 => ?_) (fun b_11 => ?_)
      · have hf := if_f b_11 hf
        exact j48 x1 x2 x3 k3 hk3 S x4 _ _ _ hf hP hS (lv_sub hl [0, 1, 2, 3, 4] rfl)
      · have hf := if_t b_11 hf
        refine lv_aload_n hx hb dX9_termOf_23 rfl (lv_at hl 0 rfl) ?_
        refine w_gR (z := 36) (C := RX9) (T := TX9) hx hb hts n9 hown hK hP t_28 rfl 20 (by decide) L31 rfl rfl dX9_termOf_24 ?_
        refine lv_iload hx hb dX9_termOf_27 (lv_at hl 4 rfl) ?_
        obtain ⟨g_12, hf⟩ := gd_inv hf
        refine w_iald hx hb hK hP t_36 g_12 dX9_termOf_29 ?_
        refine lv_iload_n hx hb dX9_termOf_30 rfl (lv_at hl 2 rfl) ?_
        refine lv_icmp_ne (tgt := 48) hx hb dX9_termOf_31 (by decide) (fun b_13 => ?_) (fun b_13 => ?_)
        · have hf := if_f b_13 hf
          exact j48 x1 x2 x3 k3 hk3 S x4 _ _ _ hf hP hS (lv_sub hl [0, 1, 2, 3, 4] rfl)
        · have hf := if_t b_13 hf
          refine lv_aload_n hx hb dX9_termOf_34 rfl (lv_at hl 0 rfl) ?_
          refine w_gR (z := 37) (C := RX9) (T := TX9) hx hb hts n9 hown hK hP t_28 rfl 21 (by decide) L34 rfl rfl dX9_termOf_35 ?_
          refine lv_iload hx hb dX9_termOf_38 (lv_at hl 4 rfl) ?_
          obtain ⟨g_14, hf⟩ := gd_inv hf
          refine w_iald hx hb hK hP t_37 g_14 dX9_termOf_40 ?_
          refine lv_iload_n hx hb dX9_termOf_41 rfl (lv_at hl 3 rfl) ?_
          refine lv_icmp_ne (tgt := 48) hx hb dX9_termOf_42 (by decide) (fun b_15 => ?_) (fun b_15 => ?_)
          · have hf := if_f b_15 hf
            exact j48 x1 x2 x3 k3 hk3 S x4 _ _ _ hf hP hS (lv_sub hl [0, 1, 2, 3, 4] rfl)
          · have hf := if_t b_15 hf
            refine lv_iload hx hb dX9_termOf_45 (lv_at hl 4 rfl) ?_
            exact w_iret hx hb hr hlocks hP hS (rt_inv hf) dX9_termOf_47
  have j3 : ∀ (x1 : Int32) (x2 : Int32) (x3 : Int32) (fu : Nat), ∀ (S : St) (x4 : Int32) (H : Heap) (locs : List Loc) (ls : Array Slot), fixF (fun _ _ => none) (f_X9_termOf_3 n x1 x2 x3) fu S x4 = some (r, S2) → PW D y ad S H → va_S (AA ad) s.heap H locs → lv_has ls 5 [(0, .ref (ad 28)), (1, .int x1), (2, .int x2), (3, .int x3), (4, .int x4)] → W p l e (headSpec wsX9_termOf ({ frames := 1, cells := 0, slots := 0, locals := 20 })).room s m ([.ref (ad 28), .int a1, .int a2, .int a3] : List Value).toArray below meth c H locs 0 0 (QI below r S2 D y ad ([.ref (ad 28), .int a1, .int a2, .int a3] : List Value).toArray s) (F0 m 3 ls []) := by
    intro x1 x2 x3  fu
    induction fu with
    | zero => intro S x4 H locs ls hf hP hS hl; cases hf
    | succ fu ih => exact b3 x1 x2 x3  (fixF (fun _ _ => none) (f_X9_termOf_3 n x1 x2 x3) fu) ih
  unfold f_X9_termOf at hf
  refine lv_iconst (v := 5) hx hb dX9_termOf_0 (by decide) ?_
  obtain ⟨x4_16, ex4_16, hf⟩ := bd_inv hf
  refine w_topI ex4_16 ?_
  refine lv_istore (lv' := [(4, .int x4_16), (0, .ref (ad 28)), (1, .int a1), (2, .int a2), (3, .int a3)]) hx hb dX9_termOf_1 hl (by decide) rfl (fun ls hl => ?_)
  exact j3 a1 a2 a3  n S x4_16 _ _ _ hf hP hS (lv_sub hl [1, 2, 3, 4, 0] rfl)
set_option maxHeartbeats 4000000 in
set_option maxRecDepth 100000 in
theorem c_X9_layLiteral (l : Launch) (D : va_G) (y : y4) (ad : Nat → Nat) (aL aU : Nat) (hI : Inj ad) (n : Nat) (S : St) (a1 : Int32) (r : Unit) (S2 : St) (hf : f_X9_layLiteral n S a1 = some (r, S2)) : KV l D y ad aL aU yX9_layLiteral wsX9_layLiteral ({ frames := 2, cells := 0, slots := 0, locals := 44 }) [.ref (ad 28), .int a1] S r S2 := by
  refine Met.ofW (cc := cX9_layLiteral) (maxL := 7) (ret := none) (by decide) rfl ?_
  intro p e s m args below meth c s₁ B hml hv
  obtain ⟨rfl, hP, hK, hZ⟩ := hv
  have hx := B.exec
  have hb := B.bytes
  have hr := B.returns
  have hts := atoms_spec (ws := wsX9_layLiteral) B.pre
  have hown : s.vm.findClass RX9 = some m.cls := findClass_of_methodNamed B.named
  have hlocks := B.notSynchronized
  have hS : va_S (AA ad) s.heap s.heap [] := va_S.rf
  have L13 := hts (.fieldLink RX9 13 "JoinedTheoriesModel" "texts" "[I") (by decide +kernel)
  have L16 := hts (.fieldLink RX9 16 "JoinedTheoriesModel" "textLength" "[I") (by decide +kernel)
  have L37 := hts (.fieldLink RX9 37 "JoinedTheoriesModel" "leftOf" "[I") (by decide +kernel)
  have L40 := hts (.fieldLink RX9 40 "JoinedTheoriesModel" "rightOf" "[I") (by decide +kernel)
  have L43 := hts (.fieldLink RX9 43 "JoinedTheoriesModel" "stack" "[I") (by decide +kernel)
  have K140 := hts (.constant RX9 140 (-2000000001)) (by decide +kernel)
  have n9 : ∀ w ∈ wsX90, w ∈ wsX9_layLiteral := by decide +kernel
  have hl := lv_entry ([.ref (ad 28), .int a1]) (n := 7) (Nat.le_of_ble_eq_true rfl)
  rw [lg_entry_eq]
  generalize (lg_sl ([.ref (ad 28), .int a1]) ++ List.replicate (7 - (lg_sl ([.ref (ad 28), .int a1])).length) Slot.unset).toArray = ls at hl ⊢
  have hl : lv_has ls 7 [(0, .ref (ad 28)), (1, .int a1)] := hl
  have j228 : ∀ (x1 : Int32) (k4 : St → Int32 → Int32 → Option (Unit × St)) (hk4 : ∀ (S : St) (x2 : Int32) (x3 : Int32) (H : Heap) (locs : List Loc) (ls : Array Slot), k4 S x2 x3 = some (r, S2) → PW D y ad S H → va_S (AA ad) s.heap H locs → lv_has ls 7 [(0, .ref (ad 28)), (1, .int x1), (2, .int x2), (3, .int x3)] → W p l e (headSpec wsX9_layLiteral ({ frames := 2, cells := 0, slots := 0, locals := 44 })).room s m ([.ref (ad 28), .int a1] : List Value).toArray below meth c H locs 0 0 (QV below r S2 D y ad ([.ref (ad 28), .int a1] : List Value).toArray s) (F0 m 4 ls [])), ∀ (S : St) (x2 : Int32) (x3 : Int32) (H : Heap) (locs : List Loc) (ls : Array Slot), f_X9_layLiteral_228 n x1 k4 S x2 x3 = some (r, S2) → PW D y ad S H → va_S (AA ad) s.heap H locs → lv_has ls 7 [(0, .ref (ad 28)), (1, .int x1), (2, .int x2), (3, .int x3)] → W p l e (headSpec wsX9_layLiteral ({ frames := 2, cells := 0, slots := 0, locals := 44 })).room s m ([.ref (ad 28), .int a1] : List Value).toArray below meth c H locs 0 0 (QV below r S2 D y ad ([.ref (ad 28), .int a1] : List Value).toArray s) (F0 m 228 ls []) := by
    intro x1 k4 hk4 S x2 x3 H locs ls hf hP hS hl
    unfold f_X9_layLiteral_228 at hf
    obtain ⟨x3_1, ex3_1, hf⟩ := bd_inv hf
    refine lv_iinc (v := x3_1) (lv' := [(3, .int x3_1), (0, .ref (ad 28)), (1, .int x1), (2, .int x2)]) hx hb dX9_layLiteral_228 hl (k := 3) rfl (by rw [ex3_1]; rfl) (by decide) rfl (fun ls hl => ?_)
    refine lv_goto (tgt := 4) hx hb dX9_layLiteral_231 (by decide) ?_
    exact hk4 S x2 x3_1 _ _ _ hf hP hS (lv_sub hl [1, 2, 3, 0] rfl)
  have j214 : ∀ (x1 : Int32) (k4 : St → Int32 → Int32 → Option (Unit × St)) (hk4 : ∀ (S : St) (x2 : Int32) (x3 : Int32) (H : Heap) (locs : List Loc) (ls : Array Slot), k4 S x2 x3 = some (r, S2) → PW D y ad S H → va_S (AA ad) s.heap H locs → lv_has ls 7 [(0, .ref (ad 28)), (1, .int x1), (2, .int x2), (3, .int x3)] → W p l e (headSpec wsX9_layLiteral ({ frames := 2, cells := 0, slots := 0, locals := 44 })).room s m ([.ref (ad 28), .int a1] : List Value).toArray below meth c H locs 0 0 (QV below r S2 D y ad ([.ref (ad 28), .int a1] : List Value).toArray s) (F0 m 4 ls [])), ∀ (S : St) (x3 : Int32) (H : Heap) (locs : List Loc) (ls : Array Slot), f_X9_layLiteral_214 n x1 k4 S x3 = some (r, S2) → PW D y ad S H → va_S (AA ad) s.heap H locs → lv_has ls 7 [(0, .ref (ad 28)), (1, .int x1), (3, .int x3)] → W p l e (headSpec wsX9_layLiteral ({ frames := 2, cells := 0, slots := 0, locals := 44 })).room s m ([.ref (ad 28), .int a1] : List Value).toArray below meth c H locs 0 0 (QV below r S2 D y ad ([.ref (ad 28), .int a1] : List Value).toArray s) (F0 m 214 ls []) := by
    intro x1 k4 hk4 S x3 H locs ls hf hP hS hl
    unfold f_X9_layLiteral_214 at hf
    refine lv_aload_n hx hb dX9_layLiteral_214 rfl (lv_at hl 0 rfl) ?_
    refine w_gR (z := 38) (C := RX9) (T := TX9) hx hb hts n9 hown hK hP t_28 rfl 22 (by decide) L37 rfl rfl dX9_layLiteral_215 ?_
    refine lv_iload_n hx hb dX9_layLiteral_218 rfl (lv_at hl 1 rfl) ?_
    refine lv_aload_n hx hb dX9_layLiteral_219 rfl (lv_at hl 0 rfl) ?_
    refine w_gR (z := 40) (C := RX9) (T := TX9) hx hb hts n9 hown hK hP t_28 rfl 24 (by decide) L43 rfl rfl dX9_layLiteral_220 ?_
    refine lv_iconst (v := 0) hx hb dX9_layLiteral_223 (by decide) ?_
    obtain ⟨g_2, hf⟩ := gd_inv hf
    refine w_iald hx hb hK hP t_40 g_2 dX9_layLiteral_224 ?_
    obtain ⟨g_3, hf⟩ := gd_inv hf
    obtain ⟨S_4, eS_4, hf⟩ := bd_inv hf
    refine w_iast hx hb hK hI hP hS t_38 g_3 dX9_layLiteral_225 (fun H locs hP hS => ?_)
    rw [← eS_4] at hP
    refine lv_iconst (v := 0) hx hb dX9_layLiteral_226 (by decide) ?_
    obtain ⟨x2_5, ex2_5, hf⟩ := bd_inv hf
    refine w_topI ex2_5 ?_
    refine lv_istore_n (lv' := [(2, .int x2_5), (0, .ref (ad 28)), (1, .int x1), (3, .int x3)]) hx hb dX9_layLiteral_227 rfl hl (by decide) rfl (fun ls hl => ?_)
    exact j228 x1 k4 hk4 S_4 x2_5 x3 _ _ _ hf hP hS (lv_sub hl [1, 2, 0, 3] rfl)
  have j177 : ∀ (x1 : Int32) (k4 : St → Int32 → Int32 → Option (Unit × St)) (hk4 : ∀ (S : St) (x2 : Int32) (x3 : Int32) (H : Heap) (locs : List Loc) (ls : Array Slot), k4 S x2 x3 = some (r, S2) → PW D y ad S H → va_S (AA ad) s.heap H locs → lv_has ls 7 [(0, .ref (ad 28)), (1, .int x1), (2, .int x2), (3, .int x3)] → W p l e (headSpec wsX9_layLiteral ({ frames := 2, cells := 0, slots := 0, locals := 44 })).room s m ([.ref (ad 28), .int a1] : List Value).toArray below meth c H locs 0 0 (QV below r S2 D y ad ([.ref (ad 28), .int a1] : List Value).toArray s) (F0 m 4 ls [])), ∀ (S : St) (x3 : Int32) (x6 : Int32) (t0 : Int32) (t1 : Int32) (H : Heap) (locs : List Loc) (ls : Array Slot), f_X9_layLiteral_177 n x1 k4 S x3 x6 t0 t1 = some (r, S2) → PW D y ad S H → va_S (AA ad) s.heap H locs → lv_has ls 7 [(0, .ref (ad 28)), (1, .int x1), (3, .int x3), (6, .int x6)] → W p l e (headSpec wsX9_layLiteral ({ frames := 2, cells := 0, slots := 0, locals := 44 })).room s m ([.ref (ad 28), .int a1] : List Value).toArray below meth c H locs 0 0 (QV below r S2 D y ad ([.ref (ad 28), .int a1] : List Value).toArray s) (F0 m 177 ls [.int t1, .int t0]) := by
    intro x1 k4 hk4 S x3 x6 t0 t1 H locs ls hf hP hS hl
    unfold f_X9_layLiteral_177 at hf
    refine lv_isub hx hb dX9_layLiteral_177 ?_
    obtain ⟨x2_6, ex2_6, hf⟩ := bd_inv hf
    refine w_topI ex2_6 ?_
    refine lv_istore_n (lv' := [(2, .int x2_6), (0, .ref (ad 28)), (1, .int x1), (3, .int x3), (6, .int x6)]) hx hb dX9_layLiteral_178 rfl hl (by decide) rfl (fun ls hl => ?_)
    refine lv_aload_n hx hb dX9_layLiteral_179 rfl (lv_at hl 1 rfl) ?_
    refine w_gR (z := 40) (C := RX9) (T := TX9) hx hb hts n9 hown hK hP t_28 rfl 24 (by decide) L43 rfl rfl dX9_layLiteral_180 ?_
    refine lv_iload_n hx hb dX9_layLiteral_183 rfl (lv_at hl 0 rfl) ?_
    refine lv_iload hx hb dX9_layLiteral_184 (lv_at hl 4 rfl) ?_
    obtain ⟨g_7, hf⟩ := gd_inv hf
    obtain ⟨S_8, eS_8, hf⟩ := bd_inv hf
    refine w_iast hx hb hK hI hP hS t_40 g_7 dX9_layLiteral_186 (fun H locs hP hS => ?_)
    rw [← eS_8] at hP
    obtain ⟨x2_9, ex2_9, hf⟩ := bd_inv hf
    refine lv_iinc (v := x2_9) (lv' := [(2, .int x2_9), (0, .ref (ad 28)), (1, .int x1), (3, .int x3), (6, .int x6)]) hx hb dX9_layLiteral_187 hl (k := 0) rfl (by rw [ex2_9]; rfl) (by decide) rfl (fun ls hl => ?_)
    refine lv_goto (tgt := 228) hx hb dX9_layLiteral_190 (by decide) ?_
    exact j228 x1 k4 hk4 S_8 x2_9 x3 _ _ _ hf hP hS (lv_sub hl [1, 2, 0, 3] rfl)
  have j164 : ∀ (x1 : Int32) (k4 : St → Int32 → Int32 → Option (Unit × St)) (hk4 : ∀ (S : St) (x2 : Int32) (x3 : Int32) (H : Heap) (locs : List Loc) (ls : Array Slot), k4 S x2 x3 = some (r, S2) → PW D y ad S H → va_S (AA ad) s.heap H locs → lv_has ls 7 [(0, .ref (ad 28)), (1, .int x1), (2, .int x2), (3, .int x3)] → W p l e (headSpec wsX9_layLiteral ({ frames := 2, cells := 0, slots := 0, locals := 44 })).room s m ([.ref (ad 28), .int a1] : List Value).toArray below meth c H locs 0 0 (QV below r S2 D y ad ([.ref (ad 28), .int a1] : List Value).toArray s) (F0 m 4 ls [])), ∀ (S : St) (x2 : Int32) (x3 : Int32) (x5 : Int32) (t0 : Int32) (H : Heap) (locs : List Loc) (ls : Array Slot), f_X9_layLiteral_164 n x1 k4 S x2 x3 x5 t0 = some (r, S2) → PW D y ad S H → va_S (AA ad) s.heap H locs → lv_has ls 7 [(0, .ref (ad 28)), (1, .int x1), (2, .int x2), (3, .int x3), (5, .int x5)] → W p l e (headSpec wsX9_layLiteral ({ frames := 2, cells := 0, slots := 0, locals := 44 })).room s m ([.ref (ad 28), .int a1] : List Value).toArray below meth c H locs 0 0 (QV below r S2 D y ad ([.ref (ad 28), .int a1] : List Value).toArray s) (F0 m 164 ls [.int t0]) := by
    intro x1 k4 hk4 S x2 x3 x5 t0 H locs ls hf hP hS hl
    unfold f_X9_layLiteral_164 at hf
    obtain ⟨x6_10, ex6_10, hf⟩ := bd_inv hf
    refine w_topI ex6_10 ?_
    refine lv_istore (lv' := [(6, .int x6_10), (0, .ref (ad 28)), (1, .int x1), (2, .int x2), (3, .int x3), (5, .int x5)]) hx hb dX9_layLiteral_164 hl (by decide) rfl (fun ls hl => ?_)
    refine lv_iload_n hx hb dX9_layLiteral_166 rfl (lv_at hl 3 rfl) ?_
    refine lv_iload hx hb dX9_layLiteral_167 (lv_at hl 5 rfl) ?_
    refine lv_if_eq (tgt := 176) hx hb dX9_layLiteral_169 (by decide) (fun b_11 => ?_) (fun b_11 => ?_)
    · have hf := if_t b_11 hf
      refine lv_iconst (v := 2) hx hb dX9_layLiteral_176 (by decide) ?_
      exact j177 x1 k4 hk4 S x3 x6_10 x2 ((2 : Int32)) _ _ _ hf hP hS (lv_sub hl [1, 2, 4, 0] rfl)
    · have hf := if_f b_11 hf
      refine lv_iconst (v := 3) hx hb dX9_layLiteral_172 (by decide) ?_
      refine lv_goto (tgt := 177) hx hb dX9_layLiteral_173 (by decide) ?_
      exact j177 x1 k4 hk4 S x3 x6_10 x2 ((3 : Int32)) _ _ _ hf hP hS (lv_sub hl [1, 2, 4, 0] rfl)
  have j118 : ∀ (x1 : Int32) (k4 : St → Int32 → Int32 → Option (Unit × St)) (hk4 : ∀ (S : St) (x2 : Int32) (x3 : Int32) (H : Heap) (locs : List Loc) (ls : Array Slot), k4 S x2 x3 = some (r, S2) → PW D y ad S H → va_S (AA ad) s.heap H locs → lv_has ls 7 [(0, .ref (ad 28)), (1, .int x1), (2, .int x2), (3, .int x3)] → W p l e (headSpec wsX9_layLiteral ({ frames := 2, cells := 0, slots := 0, locals := 44 })).room s m ([.ref (ad 28), .int a1] : List Value).toArray below meth c H locs 0 0 (QV below r S2 D y ad ([.ref (ad 28), .int a1] : List Value).toArray s) (F0 m 4 ls [])), ∀ (S : St) (x2 : Int32) (x3 : Int32) (t0 : Int32) (H : Heap) (locs : List Loc) (ls : Array Slot), f_X9_layLiteral_118 n x1 k4 S x2 x3 t0 = some (r, S2) → PW D y ad S H → va_S (AA ad) s.heap H locs → lv_has ls 7 [(0, .ref (ad 28)), (1, .int x1), (2, .int x2), (3, .int x3)] → W p l e (headSpec wsX9_layLiteral ({ frames := 2, cells := 0, slots := 0, locals := 44 })).room s m ([.ref (ad 28), .int a1] : List Value).toArray below meth c H locs 0 0 (QV below r S2 D y ad ([.ref (ad 28), .int a1] : List Value).toArray s) (F0 m 118 ls [.int t0]) := by
    intro x1 k4 hk4 S x2 x3 t0 H locs ls hf hP hS hl
    unfold f_X9_layLiteral_118 at hf
    obtain ⟨x5_12, ex5_12, hf⟩ := bd_inv hf
    refine w_topI ex5_12 ?_
    refine lv_istore (lv' := [(5, .int x5_12), (0, .ref (ad 28)), (1, .int x1), (2, .int x2), (3, .int x3)]) hx hb dX9_layLiteral_118 hl (by decide) rfl (fun ls hl => ?_)
    refine lv_iload hx hb dX9_layLiteral_120 (lv_at hl 0 rfl) ?_
    refine lv_if_eq (tgt := 149) hx hb dX9_layLiteral_122 (by decide) (fun b_13 => ?_) (fun b_13 => ?_)
    · have hf := if_t b_13 hf
      refine lv_aload_n hx hb dX9_layLiteral_149 rfl (lv_at hl 1 rfl) ?_
      refine lv_iconst (v := 1) hx hb dX9_layLiteral_150 (by decide) ?_
      refine lv_aload_n hx hb dX9_layLiteral_151 rfl (lv_at hl 1 rfl) ?_
      refine w_gR (z := 40) (C := RX9) (T := TX9) hx hb hts n9 hown hK hP t_28 rfl 24 (by decide) L43 rfl rfl dX9_layLiteral_152 ?_
      refine lv_iload_n hx hb dX9_layLiteral_155 rfl (lv_at hl 3 rfl) ?_
      refine lv_iconst (v := 1) hx hb dX9_layLiteral_156 (by decide) ?_
      refine lv_isub hx hb dX9_layLiteral_157 ?_
      obtain ⟨g_14, hf⟩ := gd_inv hf
      refine w_iald hx hb hK hP t_40 g_14 dX9_layLiteral_158 ?_
      refine lv_ldc (v := (-2000000001)) hx hb hown K140 dX9_layLiteral_159 ?_
      obtain ⟨r_15, S_16, hc_17, hf⟩ := bo_inv hf
      refine w_ci (va_runV (As := [.int (1 : Int32), .int (S.1 40 ((x2 - (1 : Int32))).toNatClampNeg), .int (-2000000001 : Int32)]) (rest := []) ⟨hx, hb, hml, hown, hts⟩ (c_X9_termOf l D y ad aL aU hI n S (1 : Int32) ((S.1 40 ((x2 - (1 : Int32))).toNatClampNeg)) (-2000000001 : Int32) _ _ hc_17) (cwV 3 hts gX9_layLiteral_X9_termOf rfl rfl rfl (by decide +kernel) ⟨Nat.le_of_ble_eq_true rfl, Nat.le_of_ble_eq_true rfl⟩) (pwu_V t_28 rfl hP hK hZ hS) rfl rfl hl.1 rfl (lv_room (Nat.le_of_ble_eq_true rfl)) dX9_layLiteral_161 ⟨Nat.zero_le _, Nat.zero_le _⟩) hS (fun H locs hP hS => ?_)
      exact j164 x1 k4 hk4 S_16 x2 x3 x5_12 r_15 _ _ _ hf hP hS (lv_sub hl [1, 2, 3, 4, 0] rfl)
    · have hf := if_f b_13 hf
      refine lv_aload_n hx hb dX9_layLiteral_125 rfl (lv_at hl 1 rfl) ?_
      refine lv_iconst (v := 2) hx hb dX9_layLiteral_126 (by decide) ?_
      refine lv_aload_n hx hb dX9_layLiteral_127 rfl (lv_at hl 1 rfl) ?_
      refine w_gR (z := 40) (C := RX9) (T := TX9) hx hb hts n9 hown hK hP t_28 rfl 24 (by decide) L43 rfl rfl dX9_layLiteral_128 ?_
      refine lv_iload_n hx hb dX9_layLiteral_131 rfl (lv_at hl 3 rfl) ?_
      refine lv_iconst (v := 2) hx hb dX9_layLiteral_132 (by decide) ?_
      refine lv_isub hx hb dX9_layLiteral_133 ?_
      obtain ⟨g_18, hf⟩ := gd_inv hf
      refine w_iald hx hb hK hP t_40 g_18 dX9_layLiteral_134 ?_
      refine lv_aload_n hx hb dX9_layLiteral_135 rfl (lv_at hl 1 rfl) ?_
      refine w_gR (z := 40) (C := RX9) (T := TX9) hx hb hts n9 hown hK hP t_28 rfl 24 (by decide) L43 rfl rfl dX9_layLiteral_136 ?_
      refine lv_iload_n hx hb dX9_layLiteral_139 rfl (lv_at hl 3 rfl) ?_
      refine lv_iconst (v := 1) hx hb dX9_layLiteral_140 (by decide) ?_
      refine lv_isub hx hb dX9_layLiteral_141 ?_
      obtain ⟨g_19, hf⟩ := gd_inv hf
      refine w_iald hx hb hK hP t_40 g_19 dX9_layLiteral_142 ?_
      obtain ⟨r_20, S_21, hc_22, hf⟩ := bo_inv hf
      refine w_ci (va_runV (As := [.int (2 : Int32), .int (S.1 40 ((x2 - (2 : Int32))).toNatClampNeg), .int (S.1 40 ((x2 - (1 : Int32))).toNatClampNeg)]) (rest := []) ⟨hx, hb, hml, hown, hts⟩ (c_X9_termOf l D y ad aL aU hI n S (2 : Int32) ((S.1 40 ((x2 - (2 : Int32))).toNatClampNeg)) ((S.1 40 ((x2 - (1 : Int32))).toNatClampNeg)) _ _ hc_22) (cwV 3 hts gX9_layLiteral_X9_termOf rfl rfl rfl (by decide +kernel) ⟨Nat.le_of_ble_eq_true rfl, Nat.le_of_ble_eq_true rfl⟩) (pwu_V t_28 rfl hP hK hZ hS) rfl rfl hl.1 rfl (lv_room (Nat.le_of_ble_eq_true rfl)) dX9_layLiteral_143 ⟨Nat.zero_le _, Nat.zero_le _⟩) hS (fun H locs hP hS => ?_)
      refine lv_goto (tgt := 164) hx hb dX9_layLiteral_146 (by decide) ?_
      exact j164 x1 k4 hk4 S_21 x2 x3 x5_12 r_20 _ _ _ hf hP hS (lv_sub hl [1, 2, 3, 4, 0] rfl)
  have j88 : ∀ (x1 : Int32) (k4 : St → Int32 → Int32 → Option (Unit × St)) (hk4 : ∀ (S : St) (x2 : Int32) (x3 : Int32) (H : Heap) (locs : List Loc) (ls : Array Slot), k4 S x2 x3 = some (r, S2) → PW D y ad S H → va_S (AA ad) s.heap H locs → lv_has ls 7 [(0, .ref (ad 28)), (1, .int x1), (2, .int x2), (3, .int x3)] → W p l e (headSpec wsX9_layLiteral ({ frames := 2, cells := 0, slots := 0, locals := 44 })).room s m ([.ref (ad 28), .int a1] : List Value).toArray below meth c H locs 0 0 (QV below r S2 D y ad ([.ref (ad 28), .int a1] : List Value).toArray s) (F0 m 4 ls [])), ∀ (S : St) (x2 : Int32) (x3 : Int32) (t1 : Int32) (t2 : Int32) (H : Heap) (locs : List Loc) (ls : Array Slot), f_X9_layLiteral_88 n x1 k4 S x2 x3 t1 t2 = some (r, S2) → PW D y ad S H → va_S (AA ad) s.heap H locs → lv_has ls 7 [(0, .ref (ad 28)), (1, .int x1), (2, .int x2), (3, .int x3)] → W p l e (headSpec wsX9_layLiteral ({ frames := 2, cells := 0, slots := 0, locals := 44 })).room s m ([.ref (ad 28), .int a1] : List Value).toArray below meth c H locs 0 0 (QV below r S2 D y ad ([.ref (ad 28), .int a1] : List Value).toArray s) (F0 m 88 ls [.int t2, .int t1, .ref (ad 40)]) := by
    intro x1 k4 hk4 S x2 x3 t1 t2 H locs ls hf hP hS hl
    unfold f_X9_layLiteral_88 at hf
    obtain ⟨g_23, hf⟩ := gd_inv hf
    obtain ⟨S_24, eS_24, hf⟩ := bd_inv hf
    refine w_iast hx hb hK hI hP hS t_40 g_23 dX9_layLiteral_88 (fun H locs hP hS => ?_)
    rw [← eS_24] at hP
    obtain ⟨x2_25, ex2_25, hf⟩ := bd_inv hf
    refine lv_iinc (v := x2_25) (lv' := [(2, .int x2_25), (0, .ref (ad 28)), (1, .int x1), (3, .int x3)]) hx hb dX9_layLiteral_89 hl (k := 2) rfl (by rw [ex2_25]; rfl) (by decide) rfl (fun ls hl => ?_)
    refine lv_goto (tgt := 228) hx hb dX9_layLiteral_92 (by decide) ?_
    exact j228 x1 k4 hk4 S_24 x2_25 x3 _ _ _ hf hP hS (lv_sub hl [1, 2, 0, 3] rfl)
  have j70 : ∀ (x1 : Int32) (k4 : St → Int32 → Int32 → Option (Unit × St)) (hk4 : ∀ (S : St) (x2 : Int32) (x3 : Int32) (H : Heap) (locs : List Loc) (ls : Array Slot), k4 S x2 x3 = some (r, S2) → PW D y ad S H → va_S (AA ad) s.heap H locs → lv_has ls 7 [(0, .ref (ad 28)), (1, .int x1), (2, .int x2), (3, .int x3)] → W p l e (headSpec wsX9_layLiteral ({ frames := 2, cells := 0, slots := 0, locals := 44 })).room s m ([.ref (ad 28), .int a1] : List Value).toArray below meth c H locs 0 0 (QV below r S2 D y ad ([.ref (ad 28), .int a1] : List Value).toArray s) (F0 m 4 ls [])), ∀ (S : St) (x2 : Int32) (x3 : Int32) (x4 : Int32) (H : Heap) (locs : List Loc) (ls : Array Slot), f_X9_layLiteral_70 n x1 k4 S x2 x3 x4 = some (r, S2) → PW D y ad S H → va_S (AA ad) s.heap H locs → lv_has ls 7 [(0, .ref (ad 28)), (1, .int x1), (2, .int x2), (3, .int x3), (4, .int x4)] → W p l e (headSpec wsX9_layLiteral ({ frames := 2, cells := 0, slots := 0, locals := 44 })).room s m ([.ref (ad 28), .int a1] : List Value).toArray below meth c H locs 0 0 (QV below r S2 D y ad ([.ref (ad 28), .int a1] : List Value).toArray s) (F0 m 70 ls []) := by
    intro x1 k4 hk4 S x2 x3 x4 H locs ls hf hP hS hl
    unfold f_X9_layLiteral_70 at hf
    refine lv_aload_n hx hb dX9_layLiteral_70 rfl (lv_at hl 0 rfl) ?_
    refine w_gR (z := 40) (C := RX9) (T := TX9) hx hb hts n9 hown hK hP t_28 rfl 24 (by decide) L43 rfl rfl dX9_layLiteral_71 ?_
    refine lv_iload_n hx hb dX9_layLiteral_74 rfl (lv_at hl 2 rfl) ?_
    refine lv_iload hx hb dX9_layLiteral_75 (lv_at hl 4 rfl) ?_
    refine lv_bipush (v := (102)) hx hb dX9_layLiteral_77 (by decide) ?_
    refine lv_icmp_ne (tgt := 86) hx hb dX9_layLiteral_79 (by decide) (fun b_26 => ?_) (fun b_26 => ?_)
    · have hf := if_f b_26 hf
      refine lv_bipush (v := (-2)) hx hb dX9_layLiteral_86 (by decide) ?_
      exact j88 x1 k4 hk4 S x2 x3 x2 ((-2 : Int32)) _ _ _ hf hP hS (lv_sub hl [0, 1, 2, 3] rfl)
    · have hf := if_t b_26 hf
      refine lv_iconst (v := (-1)) hx hb dX9_layLiteral_82 (by decide) ?_
      refine lv_goto (tgt := 88) hx hb dX9_layLiteral_83 (by decide) ?_
      exact j88 x1 k4 hk4 S x2 x3 x2 ((-1 : Int32)) _ _ _ hf hP hS (lv_sub hl [0, 1, 2, 3] rfl)
  have b4 : ∀ (x1 : Int32) (k4 : St → Int32 → Int32 → Option (Unit × St)) (hk4 : ∀ (S : St) (x2 : Int32) (x3 : Int32) (H : Heap) (locs : List Loc) (ls : Array Slot), k4 S x2 x3 = some (r, S2) → PW D y ad S H → va_S (AA ad) s.heap H locs → lv_has ls 7 [(0, .ref (ad 28)), (1, .int x1), (2, .int x2), (3, .int x3)] → W p l e (headSpec wsX9_layLiteral ({ frames := 2, cells := 0, slots := 0, locals := 44 })).room s m ([.ref (ad 28), .int a1] : List Value).toArray below meth c H locs 0 0 (QV below r S2 D y ad ([.ref (ad 28), .int a1] : List Value).toArray s) (F0 m 4 ls [])), ∀ (S : St) (x2 : Int32) (x3 : Int32) (H : Heap) (locs : List Loc) (ls : Array Slot), f_X9_layLiteral_4 n x1 k4 S x2 x3 = some (r, S2) → PW D y ad S H → va_S (AA ad) s.heap H locs → lv_has ls 7 [(0, .ref (ad 28)), (1, .int x1), (2, .int x2), (3, .int x3)] → W p l e (headSpec wsX9_layLiteral ({ frames := 2, cells := 0, slots := 0, locals := 44 })).room s m ([.ref (ad 28), .int a1] : List Value).toArray below meth c H locs 0 0 (QV below r S2 D y ad ([.ref (ad 28), .int a1] : List Value).toArray s) (F0 m 4 ls []) := by
    intro x1 k4 hk4 S x2 x3 H locs ls hf hP hS hl
    unfold f_X9_layLiteral_4 at hf
    refine lv_iload_n hx hb dX9_layLiteral_4 rfl (lv_at hl 3 rfl) ?_
    refine lv_aload_n hx hb dX9_layLiteral_5 rfl (lv_at hl 0 rfl) ?_
    refine w_gR (z := 31) (C := RX9) (T := TX9) hx hb hts n9 hown hK hP t_28 rfl 4 (by decide) L16 rfl rfl dX9_layLiteral_6 ?_
    refine lv_iload_n hx hb dX9_layLiteral_9 rfl (lv_at hl 1 rfl) ?_
    obtain ⟨g_27, hf⟩ := gd_inv hf
    refine w_iald hx hb hK hP t_31 g_27 dX9_layLiteral_10 ?_
    refine lv_icmp_ge (tgt := 234) hx hb dX9_layLiteral_11 (by decide) (fun b_28 => ?_) (fun b_28 => ?_)
    · have hf := if_t b_28 hf
      refine lv_aload_n hx hb dX9_layLiteral_234 rfl (lv_at hl 0 rfl) ?_
      refine w_gR (z := 39) (C := RX9) (T := TX9) hx hb hts n9 hown hK hP t_28 rfl 23 (by decide) L40 rfl rfl dX9_layLiteral_235 ?_
      refine lv_iload_n hx hb dX9_layLiteral_238 rfl (lv_at hl 1 rfl) ?_
      refine lv_aload_n hx hb dX9_layLiteral_239 rfl (lv_at hl 0 rfl) ?_
      refine w_gR (z := 40) (C := RX9) (T := TX9) hx hb hts n9 hown hK hP t_28 rfl 24 (by decide) L43 rfl rfl dX9_layLiteral_240 ?_
      refine lv_iconst (v := 0) hx hb dX9_layLiteral_243 (by decide) ?_
      obtain ⟨g_29, hf⟩ := gd_inv hf
      refine w_iald hx hb hK hP t_40 g_29 dX9_layLiteral_244 ?_
      obtain ⟨g_30, hf⟩ := gd_inv hf
      obtain ⟨S_31, eS_31, hf⟩ := bd_inv hf
      refine w_iast hx hb hK hI hP hS t_39 g_30 dX9_layLiteral_245 (fun H locs hP hS => ?_)
      rw [← eS_31] at hP
      exact w_vret hx hb hr hlocks hP hS (rt_inv hf) dX9_layLiteral_246
    · have hf := if_f b_28 hf
      refine lv_aload_n hx hb dX9_layLiteral_14 rfl (lv_at hl 0 rfl) ?_
      refine w_gR (z := 30) (C := RX9) (T := TX9) hx hb hts n9 hown hK hP t_28 rfl 3 (by decide) L13 rfl rfl dX9_layLiteral_15 ?_
      refine lv_bipush (v := (40)) hx hb dX9_layLiteral_18 (by decide) ?_
      refine lv_iload_n hx hb dX9_layLiteral_20 rfl (lv_at hl 1 rfl) ?_
      refine lv_imul hx hb dX9_layLiteral_21 ?_
      refine lv_iload_n hx hb dX9_layLiteral_22 rfl (lv_at hl 3 rfl) ?_
      refine lv_iadd hx hb dX9_layLiteral_23 ?_
      obtain ⟨g_32, hf⟩ := gd_inv hf
      refine w_iald hx hb hK hP t_30 g_32 dX9_layLiteral_24 ?_
      obtain ⟨x4_33, ex4_33, hf⟩ := bd_inv hf
      refine w_topI ex4_33 ?_
      refine lv_istore (lv' := [(4, .int x4_33), (0, .ref (ad 28)), (1, .int x1), (2, .int x2), (3, .int x3)]) hx hb dX9_layLiteral_25 hl (by decide) rfl (fun ls hl => ?_)
      refine lv_iload hx hb dX9_layLiteral_27 (lv_at hl 0 rfl) ?_
      refine lv_bipush (v := (97)) hx hb dX9_layLiteral_29 (by decide) ?_
      refine lv_bipush (v := (101)) hx hb dX9_layLiteral_31 (by decide) ?_
      obtain ⟨r_34, S_35, hc_36, hf⟩ := bo_inv hf
      refine w_ci (va_runS (As := [.int x4_33, .int (97 : Int32), .int (101 : Int32)]) (rest := []) ⟨hx, hb, hml, hown, hts⟩ (c_X9_within l D y ad aL aU hI n S x4_33 (97 : Int32) (101 : Int32) _ _ hc_36) (cwS 3 hts gX9_layLiteral_X9_within rfl rfl rfl (by decide +kernel) ⟨Nat.le_of_ble_eq_true rfl, Nat.le_of_ble_eq_true rfl⟩) (pwu_S hP hK hZ hS) rfl rfl hl.1 rfl (lv_room (Nat.le_of_ble_eq_true rfl)) dX9_layLiteral_33 ⟨Nat.zero_le _, Nat.zero_le _⟩) hS (fun H locs hP hS => ?_)
      refine lv_if_eq (tgt := 56) hx hb dX9_layLiteral_36 (by decide) (fun b_37 => ?_) (fun b_37 => ?_)
      · have hf := if_t b_37 hf
        refine lv_iload hx hb dX9_layLiteral_56 (lv_at hl 0 rfl) ?_
        refine lv_bipush (v := (102)) hx hb dX9_layLiteral_58 (by decide) ?_
        refine lv_icmp_eq (tgt := 70) hx hb dX9_layLiteral_60 (by decide) (fun b_38 => ?_) (fun b_38 => ?_)
        · have hf := if_t b_38 hf
          exact j70 x1 k4 hk4 S_35 x2 x3 x4_33 _ _ _ hf hP hS (lv_sub hl [1, 2, 3, 4, 0] rfl)
        · have hf := if_f b_38 hf
          refine lv_iload hx hb dX9_layLiteral_63 (lv_at hl 0 rfl) ?_
          refine lv_bipush (v := (103)) hx hb dX9_layLiteral_65 (by decide) ?_
          refine lv_icmp_ne (tgt := 95) hx hb dX9_layLiteral_67 (by decide) (fun b_39 => ?_) (fun b_39 => ?_)
          · have hf := if_f b_39 hf
            refine lv_iload hx hb dX9_layLiteral_95 (lv_at hl 0 rfl) ?_
            refine lv_bipush (v := (41)) hx hb dX9_layLiteral_97 (by decide) ?_
            refine lv_icmp_ne (tgt := 193) hx hb dX9_layLiteral_99 (by decide) (fun b_40 => ?_) (fun b_40 => ?_)
            · have hf := if_f b_40 hf
              refine lv_iload hx hb dX9_layLiteral_193 (lv_at hl 0 rfl) ?_
              refine lv_bipush (v := (61)) hx hb dX9_layLiteral_195 (by decide) ?_
              refine lv_icmp_eq (tgt := 214) hx hb dX9_layLiteral_197 (by decide) (fun b_41 => ?_) (fun b_41 => ?_)
              · have hf := if_t b_41 hf
                exact j214 x1 k4 hk4 S_35 x3 _ _ _ hf hP hS (lv_sub hl [1, 2, 4] rfl)
              · have hf := if_f b_41 hf
                refine lv_iload hx hb dX9_layLiteral_200 (lv_at hl 0 rfl) ?_
                refine lv_bipush (v := (35)) hx hb dX9_layLiteral_202 (by decide) ?_
                refine lv_icmp_eq (tgt := 214) hx hb dX9_layLiteral_204 (by decide) (fun b_42 => ?_) (fun b_42 => ?_)
                · have hf := if_t b_42 hf
                  exact j214 x1 k4 hk4 S_35 x3 _ _ _ hf hP hS (lv_sub hl [1, 2, 4] rfl)
                · have hf := if_f b_42 hf
                  refine lv_iload hx hb dX9_layLiteral_207 (lv_at hl 0 rfl) ?_
                  refine lv_bipush (v := (60)) hx hb dX9_layLiteral_209 (by decide) ?_
                  refine lv_icmp_ne (tgt := 228) hx hb dX9_layLiteral_211 (by decide) (fun b_43 => ?_) (fun b_43 => ?_)
                  · have hf := if_f b_43 hf
                    exact j228 x1 k4 hk4 S_35 x2 x3 _ _ _ hf hP hS (lv_sub hl [1, 2, 3, 4] rfl)
                  · have hf := if_t b_43 hf
                    exact j214 x1 k4 hk4 S_35 x3 _ _ _ hf hP hS (lv_sub hl [1, 2, 4] rfl)
            · have hf := if_t b_40 hf
              refine lv_aload_n hx hb dX9_layLiteral_102 rfl (lv_at hl 1 rfl) ?_
              refine w_gR (z := 40) (C := RX9) (T := TX9) hx hb hts n9 hown hK hP t_28 rfl 24 (by decide) L43 rfl rfl dX9_layLiteral_103 ?_
              refine lv_iload_n hx hb dX9_layLiteral_106 rfl (lv_at hl 3 rfl) ?_
              refine lv_iconst (v := 2) hx hb dX9_layLiteral_107 (by decide) ?_
              refine lv_isub hx hb dX9_layLiteral_108 ?_
              obtain ⟨g_44, hf⟩ := gd_inv hf
              refine w_iald hx hb hK hP t_40 g_44 dX9_layLiteral_109 ?_
              refine lv_if_lt (tgt := 117) hx hb dX9_layLiteral_110 (by decide) (fun b_45 => ?_) (fun b_45 => ?_)
              · have hf := if_t b_45 hf
                refine lv_iconst (v := 0) hx hb dX9_layLiteral_117 (by decide) ?_
                exact j118 x1 k4 hk4 S_35 x2 x3 ((0 : Int32)) _ _ _ hf hP hS (lv_sub hl [1, 2, 3, 4] rfl)
              · have hf := if_f b_45 hf
                refine lv_iconst (v := 1) hx hb dX9_layLiteral_113 (by decide) ?_
                refine lv_goto (tgt := 118) hx hb dX9_layLiteral_114 (by decide) ?_
                exact j118 x1 k4 hk4 S_35 x2 x3 ((1 : Int32)) _ _ _ hf hP hS (lv_sub hl [1, 2, 3, 4] rfl)
          · have hf := if_t b_39 hf
            exact j70 x1 k4 hk4 S_35 x2 x3 x4_33 _ _ _ hf hP hS (lv_sub hl [1, 2, 3, 4, 0] rfl)
      · have hf := if_f b_37 hf
        refine lv_aload_n hx hb dX9_layLiteral_39 rfl (lv_at hl 1 rfl) ?_
        refine w_gR (z := 40) (C := RX9) (T := TX9) hx hb hts n9 hown hK hP t_28 rfl 24 (by decide) L43 rfl rfl dX9_layLiteral_40 ?_
        refine lv_iload_n hx hb dX9_layLiteral_43 rfl (lv_at hl 3 rfl) ?_
        refine lv_iload hx hb dX9_layLiteral_44 (lv_at hl 0 rfl) ?_
        refine lv_bipush (v := (97)) hx hb dX9_layLiteral_46 (by decide) ?_
        refine lv_isub hx hb dX9_layLiteral_48 ?_
        obtain ⟨g_46, hf⟩ := gd_inv hf
        obtain ⟨S_47, eS_47, hf⟩ := bd_inv hf
        refine w_iast hx hb hK hI hP hS t_40 g_46 dX9_layLiteral_49 (fun H locs hP hS => ?_)
        rw [← eS_47] at hP
        obtain ⟨x2_48, ex2_48, hf⟩ := bd_inv hf
        refine lv_iinc (v := x2_48) (lv' := [(2, .int x2_48), (4, .int x4_33), (0, .ref (ad 28)), (1, .int x1), (3, .int x3)]) hx hb dX9_layLiteral_50 hl (k := 3) rfl (by rw [ex2_48]; rfl) (by decide) rfl (fun ls hl => ?_)
        refine lv_goto (tgt := 228) hx hb dX9_layLiteral_53 (by decide) ?_
        exact j228 x1 k4 hk4 S_47 x2_48 x3 _ _ _ hf hP hS (lv_sub hl [2, 3, 0, 4] rfl)
  have j4 : ∀ (x1 : Int32) (fu : Nat), ∀ (S : St) (x2 : Int32) (x3 : Int32) (H : Heap) (locs : List Loc) (ls : Array Slot), fixF (fun _ _ _ => none) (f_X9_layLiteral_4 n x1) fu S x2 x3 = some (r, S2) → PW D y ad S H → va_S (AA ad) s.heap H locs → lv_has ls 7 [(0, .ref (ad 28)), (1, .int x1), (2, .int x2), (3, .int x3)] → W p l e (headSpec wsX9_layLiteral ({ frames := 2, cells := 0, slots := 0, locals := 44 })).room s m ([.ref (ad 28), .int a1] : List Value).toArray below meth c H locs 0 0 (QV below r S2 D y ad ([.ref (ad 28), .int a1] : List Value).toArray s) (F0 m 4 ls []) := by
    intro x1  fu
    induction fu with
    | zero => intro S x2 x3 H locs ls hf hP hS hl; cases hf
    | succ fu ih => exact b4 x1  (fixF (fun _ _ _ => none) (f_X9_layLiteral_4 n x1) fu) ih
  unfold f_X9_layLiteral at hf
  refine lv_iconst (v := 0) hx hb dX9_layLiteral_0 (by decide) ?_
  obtain ⟨x2_49, ex2_49, hf⟩ := bd_inv hf
  refine w_topI ex2_49 ?_
  refine lv_istore_n (lv' := [(2, .int x2_49), (0, .ref (ad 28)), (1, .int a1)]) hx hb dX9_layLiteral_1 rfl hl (by decide) rfl (fun ls hl => ?_)
  refine lv_iconst (v := 0) hx hb dX9_layLiteral_2 (by decide) ?_
  obtain ⟨x3_50, ex3_50, hf⟩ := bd_inv hf
  refine w_topI ex3_50 ?_
  refine lv_istore_n (lv' := [(3, .int x3_50), (2, .int x2_49), (0, .ref (ad 28)), (1, .int a1)]) hx hb dX9_layLiteral_3 rfl hl (by decide) rfl (fun ls hl => ?_)
  exact j4 a1  n S x2_49 x3_50 _ _ _ hf hP hS (lv_sub hl [2, 3, 1, 0] rfl)
set_option maxHeartbeats 4000000 in
set_option maxRecDepth 100000 in
theorem c_X9_layTerms (l : Launch) (D : va_G) (y : y4) (ad : Nat → Nat) (aL aU : Nat) (hI : Inj ad) (n : Nat) (S : St) (r : Unit) (S2 : St) (hf : f_X9_layTerms n S = some (r, S2)) : KV l D y ad aL aU yX9_layTerms wsX9_layTerms ({ frames := 3, cells := 0, slots := 0, locals := 70 }) [.ref (ad 28)] S r S2 := by
  refine Met.ofW (cc := cX9_layTerms) (maxL := 2) (ret := none) (by decide) rfl ?_
  intro p e s m args below meth c s₁ B hml hv
  obtain ⟨rfl, hP, hK, hZ⟩ := hv
  have hx := B.exec
  have hb := B.bytes
  have hr := B.returns
  have hts := atoms_spec (ws := wsX9_layTerms) B.pre
  have hown : s.vm.findClass RX9 = some m.cls := findClass_of_methodNamed B.named
  have hlocks := B.notSynchronized
  have hS : va_S (AA ad) s.heap s.heap [] := va_S.rf
  have L28 := hts (.fieldLink RX9 28 "JoinedTheoriesModel" "kindOf" "[I") (by decide +kernel)
  have L31 := hts (.fieldLink RX9 31 "JoinedTheoriesModel" "firstOf" "[I") (by decide +kernel)
  have L34 := hts (.fieldLink RX9 34 "JoinedTheoriesModel" "secondOf" "[I") (by decide +kernel)
  have L133 := hts (.fieldLink RX9 133 "JoinedTheoriesModel" "terms" "I") (by decide +kernel)
  have L141 := hts (.fieldLink RX9 141 "JoinedTheoriesModel" "literals" "I") (by decide +kernel)
  have K140 := hts (.constant RX9 140 (-2000000001)) (by decide +kernel)
  have n9 : ∀ w ∈ wsX90, w ∈ wsX9_layTerms := by decide +kernel
  have hl := lv_entry ([.ref (ad 28)]) (n := 2) (Nat.le_of_ble_eq_true rfl)
  rw [lg_entry_eq]
  generalize (lg_sl ([.ref (ad 28)]) ++ List.replicate (2 - (lg_sl ([.ref (ad 28)])).length) Slot.unset).toArray = ls at hl ⊢
  have hl : lv_has ls 2 [(0, .ref (ad 28))] := hl
  have b43 : ∀ (k43 : St → Int32 → Option (Unit × St)) (hk43 : ∀ (S : St) (x1 : Int32) (H : Heap) (locs : List Loc) (ls : Array Slot), k43 S x1 = some (r, S2) → PW D y ad S H → va_S (AA ad) s.heap H locs → lv_has ls 2 [(0, .ref (ad 28)), (1, .int x1)] → W p l e (headSpec wsX9_layTerms ({ frames := 3, cells := 0, slots := 0, locals := 70 })).room s m ([.ref (ad 28)] : List Value).toArray below meth c H locs 0 0 (QV below r S2 D y ad ([.ref (ad 28)] : List Value).toArray s) (F0 m 43 ls [])), ∀ (S : St) (x1 : Int32) (H : Heap) (locs : List Loc) (ls : Array Slot), f_X9_layTerms_43 n k43 S x1 = some (r, S2) → PW D y ad S H → va_S (AA ad) s.heap H locs → lv_has ls 2 [(0, .ref (ad 28)), (1, .int x1)] → W p l e (headSpec wsX9_layTerms ({ frames := 3, cells := 0, slots := 0, locals := 70 })).room s m ([.ref (ad 28)] : List Value).toArray below meth c H locs 0 0 (QV below r S2 D y ad ([.ref (ad 28)] : List Value).toArray s) (F0 m 43 ls []) := by
    intro  k43 hk43 S x1 H locs ls hf hP hS hl
    unfold f_X9_layTerms_43 at hf
    refine lv_iload_n hx hb dX9_layTerms_43 rfl (lv_at hl 1 rfl) ?_
    refine lv_aload_n hx hb dX9_layTerms_44 rfl (lv_at hl 0 rfl) ?_
    refine w_gI (C := RX9) (T := TX9) hx hb hts n9 hown hK hP t_28 rfl 2 (by decide) L141 rfl dX9_layTerms_45 ?_
    refine lv_icmp_ge (tgt := 62) hx hb dX9_layTerms_48 (by decide) (fun b_1 => ?_) (fun b_1 => ?_)
    · have hf := if_t b_1 hf
      exact w_vret hx hb hr hlocks hP hS (rt_inv hf) dX9_layTerms_62
    · have hf := if_f b_1 hf
      refine lv_aload_n hx hb dX9_layTerms_51 rfl (lv_at hl 0 rfl) ?_
      refine lv_iload_n hx hb dX9_layTerms_52 rfl (lv_at hl 1 rfl) ?_
      obtain ⟨r_2, S_3, hc_4, hf⟩ := bo_inv hf
      refine w_cv (va_runV (As := [.int x1]) (rest := []) ⟨hx, hb, hml, hown, hts⟩ (c_X9_layLiteral l D y ad aL aU hI n S x1 _ _ hc_4) (cwV 1 hts gX9_layTerms_X9_layLiteral rfl rfl rfl (by decide +kernel) ⟨Nat.le_of_ble_eq_true rfl, Nat.le_of_ble_eq_true rfl⟩) (pwu_V t_28 rfl hP hK hZ hS) rfl rfl hl.1 rfl (lv_room (Nat.le_of_ble_eq_true rfl)) dX9_layTerms_53 ⟨Nat.zero_le _, Nat.zero_le _⟩) hS (fun H locs hP hS => ?_)
      obtain ⟨x1_5, ex1_5, hf⟩ := bd_inv hf
      refine lv_iinc (v := x1_5) (lv' := [(1, .int x1_5), (0, .ref (ad 28))]) hx hb dX9_layTerms_56 hl (k := 1) rfl (by rw [ex1_5]; rfl) (by decide) rfl (fun ls hl => ?_)
      refine lv_goto (tgt := 43) hx hb dX9_layTerms_59 (by decide) ?_
      exact hk43 S_3 x1_5 _ _ _ hf hP hS (lv_sub hl [1, 0] rfl)
  have j43 : ∀ (fu : Nat), ∀ (S : St) (x1 : Int32) (H : Heap) (locs : List Loc) (ls : Array Slot), fixF (fun _ _ => none) (f_X9_layTerms_43 n) fu S x1 = some (r, S2) → PW D y ad S H → va_S (AA ad) s.heap H locs → lv_has ls 2 [(0, .ref (ad 28)), (1, .int x1)] → W p l e (headSpec wsX9_layTerms ({ frames := 3, cells := 0, slots := 0, locals := 70 })).room s m ([.ref (ad 28)] : List Value).toArray below meth c H locs 0 0 (QV below r S2 D y ad ([.ref (ad 28)] : List Value).toArray s) (F0 m 43 ls []) := by
    intro   fu
    induction fu with
    | zero => intro S x1 H locs ls hf hP hS hl; cases hf
    | succ fu ih => exact b43   (fixF (fun _ _ => none) (f_X9_layTerms_43 n) fu) ih
  have b7 : ∀ (k7 : St → Int32 → Option (Unit × St)) (hk7 : ∀ (S : St) (x1 : Int32) (H : Heap) (locs : List Loc) (ls : Array Slot), k7 S x1 = some (r, S2) → PW D y ad S H → va_S (AA ad) s.heap H locs → lv_has ls 2 [(0, .ref (ad 28)), (1, .int x1)] → W p l e (headSpec wsX9_layTerms ({ frames := 3, cells := 0, slots := 0, locals := 70 })).room s m ([.ref (ad 28)] : List Value).toArray below meth c H locs 0 0 (QV below r S2 D y ad ([.ref (ad 28)] : List Value).toArray s) (F0 m 7 ls [])), ∀ (S : St) (x1 : Int32) (H : Heap) (locs : List Loc) (ls : Array Slot), f_X9_layTerms_7 n k7 S x1 = some (r, S2) → PW D y ad S H → va_S (AA ad) s.heap H locs → lv_has ls 2 [(0, .ref (ad 28)), (1, .int x1)] → W p l e (headSpec wsX9_layTerms ({ frames := 3, cells := 0, slots := 0, locals := 70 })).room s m ([.ref (ad 28)] : List Value).toArray below meth c H locs 0 0 (QV below r S2 D y ad ([.ref (ad 28)] : List Value).toArray s) (F0 m 7 ls []) := by
    intro  k7 hk7 S x1 H locs ls hf hP hS hl
    unfold f_X9_layTerms_7 at hf
    refine lv_iload_n hx hb dX9_layTerms_7 rfl (lv_at hl 1 rfl) ?_
    refine lv_iconst (v := 5) hx hb dX9_layTerms_8 (by decide) ?_
    refine lv_icmp_ge (tgt := 41) hx hb dX9_layTerms_9 (by decide) (fun b_6 => ?_) (fun b_6 => ?_)
    · have hf := if_t b_6 hf
      refine lv_iconst (v := 0) hx hb dX9_layTerms_41 (by decide) ?_
      obtain ⟨x1_7, ex1_7, hf⟩ := bd_inv hf
      refine w_topI ex1_7 ?_
      refine lv_istore_n (lv' := [(1, .int x1_7), (0, .ref (ad 28))]) hx hb dX9_layTerms_42 rfl hl (by decide) rfl (fun ls hl => ?_)
      exact j43   n S x1_7 _ _ _ hf hP hS (lv_sub hl [1, 0] rfl)
    · have hf := if_f b_6 hf
      refine lv_aload_n hx hb dX9_layTerms_12 rfl (lv_at hl 0 rfl) ?_
      refine w_gR (z := 35) (C := RX9) (T := TX9) hx hb hts n9 hown hK hP t_28 rfl 19 (by decide) L28 rfl rfl dX9_layTerms_13 ?_
      refine lv_iload_n hx hb dX9_layTerms_16 rfl (lv_at hl 1 rfl) ?_
      refine lv_iconst (v := 0) hx hb dX9_layTerms_17 (by decide) ?_
      obtain ⟨g_8, hf⟩ := gd_inv hf
      obtain ⟨S_9, eS_9, hf⟩ := bd_inv hf
      refine w_iast hx hb hK hI hP hS t_35 g_8 dX9_layTerms_18 (fun H locs hP hS => ?_)
      rw [← eS_9] at hP
      refine lv_aload_n hx hb dX9_layTerms_19 rfl (lv_at hl 0 rfl) ?_
      refine w_gR (z := 36) (C := RX9) (T := TX9) hx hb hts n9 hown hK hP t_28 rfl 20 (by decide) L31 rfl rfl dX9_layTerms_20 ?_
      refine lv_iload_n hx hb dX9_layTerms_23 rfl (lv_at hl 1 rfl) ?_
      refine lv_ldc (v := (-2000000001)) hx hb hown K140 dX9_layTerms_24 ?_
      obtain ⟨g_10, hf⟩ := gd_inv hf
      obtain ⟨S_11, eS_11, hf⟩ := bd_inv hf
      refine w_iast hx hb hK hI hP hS t_36 g_10 dX9_layTerms_26 (fun H locs hP hS => ?_)
      rw [← eS_11] at hP
      refine lv_aload_n hx hb dX9_layTerms_27 rfl (lv_at hl 0 rfl) ?_
      refine w_gR (z := 37) (C := RX9) (T := TX9) hx hb hts n9 hown hK hP t_28 rfl 21 (by decide) L34 rfl rfl dX9_layTerms_28 ?_
      refine lv_iload_n hx hb dX9_layTerms_31 rfl (lv_at hl 1 rfl) ?_
      refine lv_ldc (v := (-2000000001)) hx hb hown K140 dX9_layTerms_32 ?_
      obtain ⟨g_12, hf⟩ := gd_inv hf
      obtain ⟨S_13, eS_13, hf⟩ := bd_inv hf
      refine w_iast hx hb hK hI hP hS t_37 g_12 dX9_layTerms_34 (fun H locs hP hS => ?_)
      rw [← eS_13] at hP
      obtain ⟨x1_14, ex1_14, hf⟩ := bd_inv hf
      refine lv_iinc (v := x1_14) (lv' := [(1, .int x1_14), (0, .ref (ad 28))]) hx hb dX9_layTerms_35 hl (k := 1) rfl (by rw [ex1_14]; rfl) (by decide) rfl (fun ls hl => ?_)
      refine lv_goto (tgt := 7) hx hb dX9_layTerms_38 (by decide) ?_
      exact hk7 S_13 x1_14 _ _ _ hf hP hS (lv_sub hl [1, 0] rfl)
  have j7 : ∀ (fu : Nat), ∀ (S : St) (x1 : Int32) (H : Heap) (locs : List Loc) (ls : Array Slot), fixF (fun _ _ => none) (f_X9_layTerms_7 n) fu S x1 = some (r, S2) → PW D y ad S H → va_S (AA ad) s.heap H locs → lv_has ls 2 [(0, .ref (ad 28)), (1, .int x1)] → W p l e (headSpec wsX9_layTerms ({ frames := 3, cells := 0, slots := 0, locals := 70 })).room s m ([.ref (ad 28)] : List Value).toArray below meth c H locs 0 0 (QV below r S2 D y ad ([.ref (ad 28)] : List Value).toArray s) (F0 m 7 ls []) := by
    intro   fu
    induction fu with
    | zero => intro S x1 H locs ls hf hP hS hl; cases hf
    | succ fu ih => exact b7   (fixF (fun _ _ => none) (f_X9_layTerms_7 n) fu) ih
  unfold f_X9_layTerms at hf
  refine lv_aload_n hx hb dX9_layTerms_0 rfl (lv_at hl 0 rfl) ?_
  refine lv_iconst (v := 5) hx hb dX9_layTerms_1 (by decide) ?_
  obtain ⟨S_15, eS_15, hf⟩ := bd_inv hf
  refine w_pI (ty := .int) (C := RX9) (T := TX9) hx hb hts n9 tyX9 tyX9_ok nmX9 hown hK hI hP hS t_28 rfl 18 (by decide) L133 rfl rfl rfl ⟨rfl, rfl⟩ dX9_layTerms_2 (fun H locs hP hS => ?_)
  rw [← eS_15] at hP
  refine lv_iconst (v := 0) hx hb dX9_layTerms_5 (by decide) ?_
  obtain ⟨x1_16, ex1_16, hf⟩ := bd_inv hf
  refine w_topI ex1_16 ?_
  refine lv_istore_n (lv' := [(1, .int x1_16), (0, .ref (ad 28))]) hx hb dX9_layTerms_6 rfl hl (by decide) rfl (fun ls hl => ?_)
  exact j7   n S_15 x1_16 _ _ _ hf hP hS (lv_sub hl [1, 0] rfl)
set_option maxHeartbeats 4000000 in
set_option maxRecDepth 100000 in
theorem c_X9_letter (l : Launch) (D : va_G) (y : y4) (ad : Nat → Nat) (aL aU : Nat) (hI : Inj ad) (n : Nat) (S : St) (a1 : Int32) (r : Int32) (S2 : St) (hf : f_X9_letter n S a1 = some (r, S2)) : KI l D y ad aL aU yX9_letter wsX9_letter ({ frames := 2, cells := 0, slots := 0, locals := 42 }) [.ref (ad 28), .int a1] S r S2 := by
  refine Met.ofW (cc := cX9_letter) (maxL := 2) (ret := (some .int)) (by decide) rfl ?_
  intro p e s m args below meth c s₁ B hml hv
  obtain ⟨rfl, hP, hK, hZ⟩ := hv
  have hx := B.exec
  have hb := B.bytes
  have hr := B.returns
  have hts := atoms_spec (ws := wsX9_letter) B.pre
  have hown : s.vm.findClass RX9 = some m.cls := findClass_of_methodNamed B.named
  have hlocks := B.notSynchronized
  have hS : va_S (AA ad) s.heap s.heap [] := va_S.rf
  have L7 := hts (.fieldLink RX9 7 "JoinedTheoriesModel" "page" "[I") (by decide +kernel)
  have L82 := hts (.fieldLink RX9 82 "JoinedTheoriesModel" "pageLength" "I") (by decide +kernel)
  have K81 := hts (.constant RX9 81 (-2000000003)) (by decide +kernel)
  have K86 := hts (.constant RX9 86 (-2000000005)) (by decide +kernel)
  have n9 : ∀ w ∈ wsX90, w ∈ wsX9_letter := by decide +kernel
  have hl := lv_entry ([.ref (ad 28), .int a1]) (n := 2) (Nat.le_of_ble_eq_true rfl)
  rw [lg_entry_eq]
  generalize (lg_sl ([.ref (ad 28), .int a1]) ++ List.replicate (2 - (lg_sl ([.ref (ad 28), .int a1])).length) Slot.unset).toArray = ls at hl ⊢
  have hl : lv_has ls 2 [(0, .ref (ad 28)), (1, .int a1)] := hl
  unfold f_X9_letter at hf
  refine lv_iload_n hx hb dX9_letter_0 rfl (lv_at hl 1 rfl) ?_
  refine lv_bipush (v := (32)) hx hb dX9_letter_1 (by decide) ?_
  refine lv_bipush (v := (126)) hx hb dX9_letter_3 (by decide) ?_
  obtain ⟨r_1, S_2, hc_3, hf⟩ := bo_inv hf
  refine w_ci (va_runS (As := [.int a1, .int (32 : Int32), .int (126 : Int32)]) (rest := []) ⟨hx, hb, hml, hown, hts⟩ (c_X9_within l D y ad aL aU hI n S a1 (32 : Int32) (126 : Int32) _ _ hc_3) (cwS 3 hts gX9_letter_X9_within rfl rfl rfl (by decide +kernel) ⟨Nat.le_of_ble_eq_true rfl, Nat.le_of_ble_eq_true rfl⟩) (pwu_S hP hK hZ hS) rfl rfl hl.1 rfl (lv_room (Nat.le_of_ble_eq_true rfl)) dX9_letter_5 ⟨Nat.zero_le _, Nat.zero_le _⟩) hS (fun H locs hP hS => ?_)
  refine lv_if_ne (tgt := 14) hx hb dX9_letter_8 (by decide) (fun b_4 => ?_) (fun b_4 => ?_)
  · have hf := if_f b_4 hf
    refine lv_aload_n hx hb dX9_letter_14 rfl (lv_at hl 0 rfl) ?_
    refine w_gI (C := RX9) (T := TX9) hx hb hts n9 hown hK hP t_28 rfl 0 (by decide) L82 rfl dX9_letter_15 ?_
    refine lv_bipush (v := (40)) hx hb dX9_letter_18 (by decide) ?_
    refine lv_icmp_ne (tgt := 26) hx hb dX9_letter_20 (by decide) (fun b_5 => ?_) (fun b_5 => ?_)
    · have hf := if_f b_5 hf
      refine lv_aload_n hx hb dX9_letter_26 rfl (lv_at hl 0 rfl) ?_
      refine w_gR (z := 29) (C := RX9) (T := TX9) hx hb hts n9 hown hK hP t_28 rfl 1 (by decide) L7 rfl rfl dX9_letter_27 ?_
      refine lv_aload_n hx hb dX9_letter_30 rfl (lv_at hl 0 rfl) ?_
      refine w_gI (C := RX9) (T := TX9) hx hb hts n9 hown hK hP t_28 rfl 0 (by decide) L82 rfl dX9_letter_31 ?_
      refine lv_iload_n hx hb dX9_letter_34 rfl (lv_at hl 1 rfl) ?_
      obtain ⟨g_6, hf⟩ := gd_inv hf
      obtain ⟨S_7, eS_7, hf⟩ := bd_inv hf
      refine w_iast hx hb hK hI hP hS t_29 g_6 dX9_letter_35 (fun H locs hP hS => ?_)
      rw [← eS_7] at hP
      refine lv_aload_n hx hb dX9_letter_36 rfl (lv_at hl 0 rfl) ?_
      refine lv_dup hx hb dX9_letter_37 rfl ?_
      refine w_gI (C := RX9) (T := TX9) hx hb hts n9 hown hK hP t_28 rfl 0 (by decide) L82 rfl dX9_letter_38 ?_
      refine lv_iconst (v := 1) hx hb dX9_letter_41 (by decide) ?_
      refine lv_iadd hx hb dX9_letter_42 ?_
      obtain ⟨S_8, eS_8, hf⟩ := bd_inv hf
      refine w_pI (ty := .int) (C := RX9) (T := TX9) hx hb hts n9 tyX9 tyX9_ok nmX9 hown hK hI hP hS t_28 rfl 0 (by decide) L82 rfl rfl rfl ⟨rfl, rfl⟩ dX9_letter_43 (fun H locs hP hS => ?_)
      rw [← eS_8] at hP
      refine lv_aload_n hx hb dX9_letter_46 rfl (lv_at hl 0 rfl) ?_
      refine w_gI (C := RX9) (T := TX9) hx hb hts n9 hown hK hP t_28 rfl 0 (by decide) L82 rfl dX9_letter_47 ?_
      exact w_iret hx hb hr hlocks hP hS (rt_inv hf) dX9_letter_50
    · have hf := if_t b_5 hf
      refine lv_ldc (v := (-2000000005)) hx hb hown K86 dX9_letter_23 ?_
      exact w_iret hx hb hr hlocks hP hS (rt_inv hf) dX9_letter_25
  · have hf := if_t b_4 hf
    refine lv_ldc (v := (-2000000003)) hx hb hown K81 dX9_letter_11 ?_
    exact w_iret hx hb hr hlocks hP hS (rt_inv hf) dX9_letter_13
set_option maxHeartbeats 4000000 in
set_option maxRecDepth 100000 in
theorem c_X9_blank (l : Launch) (D : va_G) (y : y4) (ad : Nat → Nat) (aL aU : Nat) (hI : Inj ad) (n : Nat) (S : St) (r : Int32) (S2 : St) (hf : f_X9_blank n S = some (r, S2)) : KI l D y ad aL aU yX9_blank wsX9_blank ({ frames := 1, cells := 0, slots := 0, locals := 20 }) [.ref (ad 28)] S r S2 := by
  refine Met.ofW (cc := cX9_blank) (maxL := 2) (ret := (some .int)) (by decide) rfl ?_
  intro p e s m args below meth c s₁ B hml hv
  obtain ⟨rfl, hP, hK, hZ⟩ := hv
  have hx := B.exec
  have hb := B.bytes
  have hr := B.returns
  have hts := atoms_spec (ws := wsX9_blank) B.pre
  have hown : s.vm.findClass RX9 = some m.cls := findClass_of_methodNamed B.named
  have hlocks := B.notSynchronized
  have hS : va_S (AA ad) s.heap s.heap [] := va_S.rf
  have L82 := hts (.fieldLink RX9 82 "JoinedTheoriesModel" "pageLength" "I") (by decide +kernel)
  have n9 : ∀ w ∈ wsX90, w ∈ wsX9_blank := by decide +kernel
  have hl := lv_entry ([.ref (ad 28)]) (n := 2) (Nat.le_of_ble_eq_true rfl)
  rw [lg_entry_eq]
  generalize (lg_sl ([.ref (ad 28)]) ++ List.replicate (2 - (lg_sl ([.ref (ad 28)])).length) Slot.unset).toArray = ls at hl ⊢
  have hl : lv_has ls 2 [(0, .ref (ad 28))] := hl
  unfold f_X9_blank at hf
  refine lv_aload_n hx hb dX9_blank_0 rfl (lv_at hl 0 rfl) ?_
  refine w_gI (C := RX9) (T := TX9) hx hb hts n9 hown hK hP t_28 rfl 0 (by decide) L82 rfl dX9_blank_1 ?_
  obtain ⟨x1_1, ex1_1, hf⟩ := bd_inv hf
  refine w_topI ex1_1 ?_
  refine lv_istore_n (lv' := [(1, .int x1_1), (0, .ref (ad 28))]) hx hb dX9_blank_4 rfl hl (by decide) rfl (fun ls hl => ?_)
  refine lv_aload_n hx hb dX9_blank_5 rfl (lv_at hl 1 rfl) ?_
  refine lv_iconst (v := 0) hx hb dX9_blank_6 (by decide) ?_
  obtain ⟨S_2, eS_2, hf⟩ := bd_inv hf
  refine w_pI (ty := .int) (C := RX9) (T := TX9) hx hb hts n9 tyX9 tyX9_ok nmX9 hown hK hI hP hS t_28 rfl 0 (by decide) L82 rfl rfl rfl ⟨rfl, rfl⟩ dX9_blank_7 (fun H locs hP hS => ?_)
  rw [← eS_2] at hP
  refine lv_iload_n hx hb dX9_blank_10 rfl (lv_at hl 0 rfl) ?_
  exact w_iret hx hb hr hlocks hP hS (rt_inv hf) dX9_blank_11
set_option maxHeartbeats 4000000 in
set_option maxRecDepth 100000 in
theorem c_X9_begins (l : Launch) (D : va_G) (y : y4) (ad : Nat → Nat) (aL aU : Nat) (hI : Inj ad) (n : Nat) (S : St) (r : Unit) (S2 : St) (hf : f_X9_begins n S = some (r, S2)) : KV l D y ad aL aU yX9_begins wsX9_begins ({ frames := 1, cells := 0, slots := 0, locals := 20 }) [.ref (ad 28)] S r S2 := by
  refine Met.ofW (cc := cX9_begins) (maxL := 1) (ret := none) (by decide) rfl ?_
  intro p e s m args below meth c s₁ B hml hv
  obtain ⟨rfl, hP, hK, hZ⟩ := hv
  have hx := B.exec
  have hb := B.bytes
  have hr := B.returns
  have hts := atoms_spec (ws := wsX9_begins) B.pre
  have hown : s.vm.findClass RX9 = some m.cls := findClass_of_methodNamed B.named
  have hlocks := B.notSynchronized
  have hS : va_S (AA ad) s.heap s.heap [] := va_S.rf
  have L87 := hts (.fieldLink RX9 87 "JoinedTheoriesModel" "waits" "I") (by decide +kernel)
  have L90 := hts (.fieldLink RX9 90 "JoinedTheoriesModel" "openMany" "I") (by decide +kernel)
  have L93 := hts (.fieldLink RX9 93 "JoinedTheoriesModel" "isRight" "Z") (by decide +kernel)
  have L97 := hts (.fieldLink RX9 97 "JoinedTheoriesModel" "sign" "I") (by decide +kernel)
  have L100 := hts (.fieldLink RX9 100 "JoinedTheoriesModel" "number" "I") (by decide +kernel)
  have L103 := hts (.fieldLink RX9 103 "JoinedTheoriesModel" "isBelow" "Z") (by decide +kernel)
  have n9 : ∀ w ∈ wsX90, w ∈ wsX9_begins := by decide +kernel
  have hl := lv_entry ([.ref (ad 28)]) (n := 1) (Nat.le_of_ble_eq_true rfl)
  rw [lg_entry_eq]
  generalize (lg_sl ([.ref (ad 28)]) ++ List.replicate (1 - (lg_sl ([.ref (ad 28)])).length) Slot.unset).toArray = ls at hl ⊢
  have hl : lv_has ls 1 [(0, .ref (ad 28))] := hl
  unfold f_X9_begins at hf
  refine lv_aload_n hx hb dX9_begins_0 rfl (lv_at hl 0 rfl) ?_
  refine lv_iconst (v := 0) hx hb dX9_begins_1 (by decide) ?_
  obtain ⟨S_1, eS_1, hf⟩ := bd_inv hf
  refine w_pI (ty := .int) (C := RX9) (T := TX9) hx hb hts n9 tyX9 tyX9_ok nmX9 hown hK hI hP hS t_28 rfl 10 (by decide) L87 rfl rfl rfl ⟨rfl, rfl⟩ dX9_begins_2 (fun H locs hP hS => ?_)
  rw [← eS_1] at hP
  refine lv_aload_n hx hb dX9_begins_5 rfl (lv_at hl 0 rfl) ?_
  refine lv_iconst (v := 0) hx hb dX9_begins_6 (by decide) ?_
  obtain ⟨S_2, eS_2, hf⟩ := bd_inv hf
  refine w_pI (ty := .int) (C := RX9) (T := TX9) hx hb hts n9 tyX9 tyX9_ok nmX9 hown hK hI hP hS t_28 rfl 11 (by decide) L90 rfl rfl rfl ⟨rfl, rfl⟩ dX9_begins_7 (fun H locs hP hS => ?_)
  rw [← eS_2] at hP
  refine lv_aload_n hx hb dX9_begins_10 rfl (lv_at hl 0 rfl) ?_
  refine lv_iconst (v := 0) hx hb dX9_begins_11 (by decide) ?_
  obtain ⟨S_3, eS_3, hf⟩ := bd_inv hf
  refine w_pI (ty := .boolean) (C := RX9) (T := TX9) hx hb hts n9 tyX9 tyX9_ok nmX9 hown hK hI hP hS t_28 rfl 13 (by decide) L93 rfl rfl rfl ⟨rfl, rfl⟩ dX9_begins_12 (fun H locs hP hS => ?_)
  rw [← eS_3] at hP
  refine lv_aload_n hx hb dX9_begins_15 rfl (lv_at hl 0 rfl) ?_
  refine lv_iconst (v := 0) hx hb dX9_begins_16 (by decide) ?_
  obtain ⟨S_4, eS_4, hf⟩ := bd_inv hf
  refine w_pI (ty := .int) (C := RX9) (T := TX9) hx hb hts n9 tyX9 tyX9_ok nmX9 hown hK hI hP hS t_28 rfl 14 (by decide) L97 rfl rfl rfl ⟨rfl, rfl⟩ dX9_begins_17 (fun H locs hP hS => ?_)
  rw [← eS_4] at hP
  refine lv_aload_n hx hb dX9_begins_20 rfl (lv_at hl 0 rfl) ?_
  refine lv_iconst (v := 0) hx hb dX9_begins_21 (by decide) ?_
  obtain ⟨S_5, eS_5, hf⟩ := bd_inv hf
  refine w_pI (ty := .int) (C := RX9) (T := TX9) hx hb hts n9 tyX9 tyX9_ok nmX9 hown hK hI hP hS t_28 rfl 15 (by decide) L100 rfl rfl rfl ⟨rfl, rfl⟩ dX9_begins_22 (fun H locs hP hS => ?_)
  rw [← eS_5] at hP
  refine lv_aload_n hx hb dX9_begins_25 rfl (lv_at hl 0 rfl) ?_
  refine lv_iconst (v := 0) hx hb dX9_begins_26 (by decide) ?_
  obtain ⟨S_6, eS_6, hf⟩ := bd_inv hf
  refine w_pI (ty := .boolean) (C := RX9) (T := TX9) hx hb hts n9 tyX9 tyX9_ok nmX9 hown hK hI hP hS t_28 rfl 16 (by decide) L103 rfl rfl rfl ⟨rfl, rfl⟩ dX9_begins_27 (fun H locs hP hS => ?_)
  rw [← eS_6] at hP
  exact w_vret hx hb hr hlocks hP hS (rt_inv hf) dX9_begins_30
set_option maxHeartbeats 4000000 in
set_option maxRecDepth 100000 in
theorem c_X9_takesTerm (l : Launch) (D : va_G) (y : y4) (ad : Nat → Nat) (aL aU : Nat) (hI : Inj ad) (n : Nat) (S : St) (a1 : Int32) (r : Int32) (S2 : St) (hf : f_X9_takesTerm n S a1 = some (r, S2)) : KI l D y ad aL aU yX9_takesTerm wsX9_takesTerm ({ frames := 2, cells := 0, slots := 0, locals := 42 }) [.ref (ad 28), .int a1] S r S2 := by
  refine Met.ofW (cc := cX9_takesTerm) (maxL := 2) (ret := (some .boolean)) (by decide) rfl ?_
  intro p e s m args below meth c s₁ B hml hv
  obtain ⟨rfl, hP, hK, hZ⟩ := hv
  have hx := B.exec
  have hb := B.bytes
  have hr := B.returns
  have hts := atoms_spec (ws := wsX9_takesTerm) B.pre
  have hown : s.vm.findClass RX9 = some m.cls := findClass_of_methodNamed B.named
  have hlocks := B.notSynchronized
  have hS : va_S (AA ad) s.heap s.heap [] := va_S.rf
  have L25 := hts (.fieldLink RX9 25 "JoinedTheoriesModel" "open" "[I") (by decide +kernel)
  have L87 := hts (.fieldLink RX9 87 "JoinedTheoriesModel" "waits" "I") (by decide +kernel)
  have L90 := hts (.fieldLink RX9 90 "JoinedTheoriesModel" "openMany" "I") (by decide +kernel)
  have n9 : ∀ w ∈ wsX90, w ∈ wsX9_takesTerm := by decide +kernel
  have hl := lv_entry ([.ref (ad 28), .int a1]) (n := 2) (Nat.le_of_ble_eq_true rfl)
  rw [lg_entry_eq]
  generalize (lg_sl ([.ref (ad 28), .int a1]) ++ List.replicate (2 - (lg_sl ([.ref (ad 28), .int a1])).length) Slot.unset).toArray = ls at hl ⊢
  have hl : lv_has ls 2 [(0, .ref (ad 28)), (1, .int a1)] := hl
  have j51 : ∀ (S : St) (t1 : Int32) (t2 : Int32) (H : Heap) (locs : List Loc) (ls : Array Slot), f_X9_takesTerm_51 n S t1 t2 = some (r, S2) → PW D y ad S H → va_S (AA ad) s.heap H locs → lv_has ls 2 [(0, .ref (ad 28))] → W p l e (headSpec wsX9_takesTerm ({ frames := 2, cells := 0, slots := 0, locals := 42 })).room s m ([.ref (ad 28), .int a1] : List Value).toArray below meth c H locs 0 0 (QI below r S2 D y ad ([.ref (ad 28), .int a1] : List Value).toArray s) (F0 m 51 ls [.int t2, .int t1, .ref (ad 34)]) := by
    intro  S t1 t2 H locs ls hf hP hS hl
    unfold f_X9_takesTerm_51 at hf
    obtain ⟨g_1, hf⟩ := gd_inv hf
    obtain ⟨S_2, eS_2, hf⟩ := bd_inv hf
    refine w_iast hx hb hK hI hP hS t_34 g_1 dX9_takesTerm_51 (fun H locs hP hS => ?_)
    rw [← eS_2] at hP
    refine lv_aload_n hx hb dX9_takesTerm_52 rfl (lv_at hl 0 rfl) ?_
    refine lv_dup hx hb dX9_takesTerm_53 rfl ?_
    refine w_gI (C := RX9) (T := TX9) hx hb hts n9 hown hK hP t_28 rfl 11 (by decide) L90 rfl dX9_takesTerm_54 ?_
    refine lv_iconst (v := 1) hx hb dX9_takesTerm_57 (by decide) ?_
    refine lv_iadd hx hb dX9_takesTerm_58 ?_
    obtain ⟨S_3, eS_3, hf⟩ := bd_inv hf
    refine w_pI (ty := .int) (C := RX9) (T := TX9) hx hb hts n9 tyX9 tyX9_ok nmX9 hown hK hI hP hS t_28 rfl 11 (by decide) L90 rfl rfl rfl ⟨rfl, rfl⟩ dX9_takesTerm_59 (fun H locs hP hS => ?_)
    rw [← eS_3] at hP
    refine lv_aload_n hx hb dX9_takesTerm_62 rfl (lv_at hl 0 rfl) ?_
    refine lv_iconst (v := 1) hx hb dX9_takesTerm_63 (by decide) ?_
    obtain ⟨S_4, eS_4, hf⟩ := bd_inv hf
    refine w_pI (ty := .int) (C := RX9) (T := TX9) hx hb hts n9 tyX9 tyX9_ok nmX9 hown hK hI hP hS t_28 rfl 10 (by decide) L87 rfl rfl rfl ⟨rfl, rfl⟩ dX9_takesTerm_64 (fun H locs hP hS => ?_)
    rw [← eS_4] at hP
    refine lv_iconst (v := 1) hx hb dX9_takesTerm_67 (by decide) ?_
    exact w_zret hx hb hr hlocks (fun h => h (by decide)) hP hS (rt_inv hf) dX9_takesTerm_68
  have j30 : ∀ (S : St) (x1 : Int32) (H : Heap) (locs : List Loc) (ls : Array Slot), f_X9_takesTerm_30 n S x1 = some (r, S2) → PW D y ad S H → va_S (AA ad) s.heap H locs → lv_has ls 2 [(0, .ref (ad 28)), (1, .int x1)] → W p l e (headSpec wsX9_takesTerm ({ frames := 2, cells := 0, slots := 0, locals := 42 })).room s m ([.ref (ad 28), .int a1] : List Value).toArray below meth c H locs 0 0 (QI below r S2 D y ad ([.ref (ad 28), .int a1] : List Value).toArray s) (F0 m 30 ls []) := by
    intro  S x1 H locs ls hf hP hS hl
    unfold f_X9_takesTerm_30 at hf
    refine lv_aload_n hx hb dX9_takesTerm_30 rfl (lv_at hl 0 rfl) ?_
    refine w_gR (z := 34) (C := RX9) (T := TX9) hx hb hts n9 hown hK hP t_28 rfl 12 (by decide) L25 rfl rfl dX9_takesTerm_31 ?_
    refine lv_aload_n hx hb dX9_takesTerm_34 rfl (lv_at hl 0 rfl) ?_
    refine w_gI (C := RX9) (T := TX9) hx hb hts n9 hown hK hP t_28 rfl 11 (by decide) L90 rfl dX9_takesTerm_35 ?_
    refine lv_iload_n hx hb dX9_takesTerm_38 rfl (lv_at hl 1 rfl) ?_
    refine lv_bipush (v := (102)) hx hb dX9_takesTerm_39 (by decide) ?_
    refine lv_icmp_ne (tgt := 49) hx hb dX9_takesTerm_41 (by decide) (fun b_5 => ?_) (fun b_5 => ?_)
    · have hf := if_f b_5 hf
      refine lv_bipush (v := (44)) hx hb dX9_takesTerm_49 (by decide) ?_
      exact j51   S ((S.1 28 11)) ((44 : Int32)) _ _ _ hf hP hS (lv_sub hl [0] rfl)
    · have hf := if_t b_5 hf
      refine lv_bipush (v := (41)) hx hb dX9_takesTerm_44 (by decide) ?_
      refine lv_goto (tgt := 51) hx hb dX9_takesTerm_46 (by decide) ?_
      exact j51   S ((S.1 28 11)) ((41 : Int32)) _ _ _ hf hP hS (lv_sub hl [0] rfl)
  unfold f_X9_takesTerm at hf
  refine lv_iload_n hx hb dX9_takesTerm_0 rfl (lv_at hl 1 rfl) ?_
  refine lv_bipush (v := (97)) hx hb dX9_takesTerm_1 (by decide) ?_
  refine lv_bipush (v := (101)) hx hb dX9_takesTerm_3 (by decide) ?_
  obtain ⟨r_6, S_7, hc_8, hf⟩ := bo_inv hf
  refine w_ci (va_runS (As := [.int a1, .int (97 : Int32), .int (101 : Int32)]) (rest := []) ⟨hx, hb, hml, hown, hts⟩ (c_X9_within l D y ad aL aU hI n S a1 (97 : Int32) (101 : Int32) _ _ hc_8) (cwS 3 hts gX9_takesTerm_X9_within rfl rfl rfl (by decide +kernel) ⟨Nat.le_of_ble_eq_true rfl, Nat.le_of_ble_eq_true rfl⟩) (pwu_S hP hK hZ hS) rfl rfl hl.1 rfl (lv_room (Nat.le_of_ble_eq_true rfl)) dX9_takesTerm_5 ⟨Nat.zero_le _, Nat.zero_le _⟩) hS (fun H locs hP hS => ?_)
  refine lv_if_eq (tgt := 18) hx hb dX9_takesTerm_8 (by decide) (fun b_9 => ?_) (fun b_9 => ?_)
  · have hf := if_t b_9 hf
    refine lv_iload_n hx hb dX9_takesTerm_18 rfl (lv_at hl 1 rfl) ?_
    refine lv_bipush (v := (102)) hx hb dX9_takesTerm_19 (by decide) ?_
    refine lv_icmp_eq (tgt := 30) hx hb dX9_takesTerm_21 (by decide) (fun b_10 => ?_) (fun b_10 => ?_)
    · have hf := if_t b_10 hf
      exact j30   S_7 a1 _ _ _ hf hP hS (lv_sub hl [0, 1] rfl)
    · have hf := if_f b_10 hf
      refine lv_iload_n hx hb dX9_takesTerm_24 rfl (lv_at hl 1 rfl) ?_
      refine lv_bipush (v := (103)) hx hb dX9_takesTerm_25 (by decide) ?_
      refine lv_icmp_ne (tgt := 69) hx hb dX9_takesTerm_27 (by decide) (fun b_11 => ?_) (fun b_11 => ?_)
      · have hf := if_f b_11 hf
        refine lv_iconst (v := 0) hx hb dX9_takesTerm_69 (by decide) ?_
        exact w_zret hx hb hr hlocks (fun h => h (by decide)) hP hS (rt_inv hf) dX9_takesTerm_70
      · have hf := if_t b_11 hf
        exact j30   S_7 a1 _ _ _ hf hP hS (lv_sub hl [0, 1] rfl)
  · have hf := if_f b_9 hf
    refine lv_aload_n hx hb dX9_takesTerm_11 rfl (lv_at hl 0 rfl) ?_
    refine lv_iconst (v := 2) hx hb dX9_takesTerm_12 (by decide) ?_
    obtain ⟨S_12, eS_12, hf⟩ := bd_inv hf
    refine w_pI (ty := .int) (C := RX9) (T := TX9) hx hb hts n9 tyX9 tyX9_ok nmX9 hown hK hI hP hS t_28 rfl 10 (by decide) L87 rfl rfl rfl ⟨rfl, rfl⟩ dX9_takesTerm_13 (fun H locs hP hS => ?_)
    rw [← eS_12] at hP
    refine lv_iconst (v := 1) hx hb dX9_takesTerm_16 (by decide) ?_
    exact w_zret hx hb hr hlocks (fun h => h (by decide)) hP hS (rt_inv hf) dX9_takesTerm_17
set_option maxHeartbeats 4000000 in
set_option maxRecDepth 100000 in
theorem c_X9_takesSign (l : Launch) (D : va_G) (y : y4) (ad : Nat → Nat) (aL aU : Nat) (hI : Inj ad) (n : Nat) (S : St) (a1 : Int32) (r : Int32) (S2 : St) (hf : f_X9_takesSign n S a1 = some (r, S2)) : KI l D y ad aL aU yX9_takesSign wsX9_takesSign ({ frames := 1, cells := 0, slots := 0, locals := 20 }) [.ref (ad 28), .int a1] S r S2 := by
  refine Met.ofW (cc := cX9_takesSign) (maxL := 3) (ret := (some .boolean)) (by decide) rfl ?_
  intro p e s m args below meth c s₁ B hml hv
  obtain ⟨rfl, hP, hK, hZ⟩ := hv
  have hx := B.exec
  have hb := B.bytes
  have hr := B.returns
  have hts := atoms_spec (ws := wsX9_takesSign) B.pre
  have hown : s.vm.findClass RX9 = some m.cls := findClass_of_methodNamed B.named
  have hlocks := B.notSynchronized
  have hS : va_S (AA ad) s.heap s.heap [] := va_S.rf
  have L87 := hts (.fieldLink RX9 87 "JoinedTheoriesModel" "waits" "I") (by decide +kernel)
  have L93 := hts (.fieldLink RX9 93 "JoinedTheoriesModel" "isRight" "Z") (by decide +kernel)
  have L97 := hts (.fieldLink RX9 97 "JoinedTheoriesModel" "sign" "I") (by decide +kernel)
  have n9 : ∀ w ∈ wsX90, w ∈ wsX9_takesSign := by decide +kernel
  have hl := lv_entry ([.ref (ad 28), .int a1]) (n := 3) (Nat.le_of_ble_eq_true rfl)
  rw [lg_entry_eq]
  generalize (lg_sl ([.ref (ad 28), .int a1]) ++ List.replicate (3 - (lg_sl ([.ref (ad 28), .int a1])).length) Slot.unset).toArray = ls at hl ⊢
  have hl : lv_has ls 3 [(0, .ref (ad 28)), (1, .int a1)] := hl
  have j30 : ∀ (S : St) (x1 : Int32) (t0 : Int32) (H : Heap) (locs : List Loc) (ls : Array Slot), f_X9_takesSign_30 n S x1 t0 = some (r, S2) → PW D y ad S H → va_S (AA ad) s.heap H locs → lv_has ls 3 [(0, .ref (ad 28)), (1, .int x1)] → W p l e (headSpec wsX9_takesSign ({ frames := 1, cells := 0, slots := 0, locals := 20 })).room s m ([.ref (ad 28), .int a1] : List Value).toArray below meth c H locs 0 0 (QI below r S2 D y ad ([.ref (ad 28), .int a1] : List Value).toArray s) (F0 m 30 ls [.int t0]) := by
    intro  S x1 t0 H locs ls hf hP hS hl
    unfold f_X9_takesSign_30 at hf
    obtain ⟨x2_1, ex2_1, hf⟩ := bd_inv hf
    refine w_topI ex2_1 ?_
    refine lv_istore_n (lv' := [(2, .int x2_1), (0, .ref (ad 28)), (1, .int x1)]) hx hb dX9_takesSign_30 rfl hl (by decide) rfl (fun ls hl => ?_)
    refine lv_iload_n hx hb dX9_takesSign_31 rfl (lv_at hl 0 rfl) ?_
    refine lv_if_eq (tgt := 50) hx hb dX9_takesSign_32 (by decide) (fun b_2 => ?_) (fun b_2 => ?_)
    · have hf := if_t b_2 hf
      refine lv_iload_n hx hb dX9_takesSign_50 rfl (lv_at hl 0 rfl) ?_
      obtain ⟨g_3, hf⟩ := gd_inv hf
      exact w_zret hx hb hr hlocks g_3 hP hS (rt_inv hf) dX9_takesSign_51
    · have hf := if_f b_2 hf
      refine lv_aload_n hx hb dX9_takesSign_35 rfl (lv_at hl 1 rfl) ?_
      refine lv_iload_n hx hb dX9_takesSign_36 rfl (lv_at hl 2 rfl) ?_
      obtain ⟨S_4, eS_4, hf⟩ := bd_inv hf
      refine w_pI (ty := .int) (C := RX9) (T := TX9) hx hb hts n9 tyX9 tyX9_ok nmX9 hown hK hI hP hS t_28 rfl 14 (by decide) L97 rfl rfl rfl ⟨rfl, rfl⟩ dX9_takesSign_37 (fun H locs hP hS => ?_)
      rw [← eS_4] at hP
      refine lv_aload_n hx hb dX9_takesSign_40 rfl (lv_at hl 1 rfl) ?_
      refine lv_iconst (v := 1) hx hb dX9_takesSign_41 (by decide) ?_
      obtain ⟨S_5, eS_5, hf⟩ := bd_inv hf
      refine w_pI (ty := .boolean) (C := RX9) (T := TX9) hx hb hts n9 tyX9 tyX9_ok nmX9 hown hK hI hP hS t_28 rfl 13 (by decide) L93 rfl rfl rfl ⟨rfl, rfl⟩ dX9_takesSign_42 (fun H locs hP hS => ?_)
      rw [← eS_5] at hP
      refine lv_aload_n hx hb dX9_takesSign_45 rfl (lv_at hl 1 rfl) ?_
      refine lv_iconst (v := 0) hx hb dX9_takesSign_46 (by decide) ?_
      obtain ⟨S_6, eS_6, hf⟩ := bd_inv hf
      refine w_pI (ty := .int) (C := RX9) (T := TX9) hx hb hts n9 tyX9 tyX9_ok nmX9 hown hK hI hP hS t_28 rfl 10 (by decide) L87 rfl rfl rfl ⟨rfl, rfl⟩ dX9_takesSign_47 (fun H locs hP hS => ?_)
      rw [← eS_6] at hP
      refine lv_iload_n hx hb dX9_takesSign_50 rfl (lv_at hl 0 rfl) ?_
      obtain ⟨g_7, hf⟩ := gd_inv hf
      exact w_zret hx hb hr hlocks g_7 hP hS (rt_inv hf) dX9_takesSign_51
  have j29 : ∀ (S : St) (x1 : Int32) (H : Heap) (locs : List Loc) (ls : Array Slot), f_X9_takesSign_29 n S x1 = some (r, S2) → PW D y ad S H → va_S (AA ad) s.heap H locs → lv_has ls 3 [(0, .ref (ad 28)), (1, .int x1)] → W p l e (headSpec wsX9_takesSign ({ frames := 1, cells := 0, slots := 0, locals := 20 })).room s m ([.ref (ad 28), .int a1] : List Value).toArray below meth c H locs 0 0 (QI below r S2 D y ad ([.ref (ad 28), .int a1] : List Value).toArray s) (F0 m 29 ls []) := by
    intro  S x1 H locs ls hf hP hS hl
    unfold f_X9_takesSign_29 at hf
    refine lv_iconst (v := 0) hx hb dX9_takesSign_29 (by decide) ?_
    exact j30   S x1 ((0 : Int32)) _ _ _ hf hP hS (lv_sub hl [0, 1] rfl)
  have j25 : ∀ (S : St) (x1 : Int32) (H : Heap) (locs : List Loc) (ls : Array Slot), f_X9_takesSign_25 n S x1 = some (r, S2) → PW D y ad S H → va_S (AA ad) s.heap H locs → lv_has ls 3 [(0, .ref (ad 28)), (1, .int x1)] → W p l e (headSpec wsX9_takesSign ({ frames := 1, cells := 0, slots := 0, locals := 20 })).room s m ([.ref (ad 28), .int a1] : List Value).toArray below meth c H locs 0 0 (QI below r S2 D y ad ([.ref (ad 28), .int a1] : List Value).toArray s) (F0 m 25 ls []) := by
    intro  S x1 H locs ls hf hP hS hl
    unfold f_X9_takesSign_25 at hf
    refine lv_iconst (v := 1) hx hb dX9_takesSign_25 (by decide) ?_
    refine lv_goto (tgt := 30) hx hb dX9_takesSign_26 (by decide) ?_
    exact j30   S x1 ((1 : Int32)) _ _ _ hf hP hS (lv_sub hl [0, 1] rfl)
  unfold f_X9_takesSign at hf
  refine lv_aload_n hx hb dX9_takesSign_0 rfl (lv_at hl 0 rfl) ?_
  refine w_gI (C := RX9) (T := TX9) hx hb hts n9 hown hK hP t_28 rfl 13 (by decide) L93 rfl dX9_takesSign_1 ?_
  refine lv_if_ne (tgt := 29) hx hb dX9_takesSign_4 (by decide) (fun b_8 => ?_) (fun b_8 => ?_)
  · have hf := if_f b_8 hf
    exact j29   S a1 _ _ _ hf hP hS (lv_sub hl [0, 1] rfl)
  · have hf := if_t b_8 hf
    refine lv_iload_n hx hb dX9_takesSign_7 rfl (lv_at hl 1 rfl) ?_
    refine lv_bipush (v := (61)) hx hb dX9_takesSign_8 (by decide) ?_
    refine lv_icmp_eq (tgt := 25) hx hb dX9_takesSign_10 (by decide) (fun b_9 => ?_) (fun b_9 => ?_)
    · have hf := if_t b_9 hf
      exact j25   S a1 _ _ _ hf hP hS (lv_sub hl [0, 1] rfl)
    · have hf := if_f b_9 hf
      refine lv_iload_n hx hb dX9_takesSign_13 rfl (lv_at hl 1 rfl) ?_
      refine lv_bipush (v := (35)) hx hb dX9_takesSign_14 (by decide) ?_
      refine lv_icmp_eq (tgt := 25) hx hb dX9_takesSign_16 (by decide) (fun b_10 => ?_) (fun b_10 => ?_)
      · have hf := if_t b_10 hf
        exact j25   S a1 _ _ _ hf hP hS (lv_sub hl [0, 1] rfl)
      · have hf := if_f b_10 hf
        refine lv_iload_n hx hb dX9_takesSign_19 rfl (lv_at hl 1 rfl) ?_
        refine lv_bipush (v := (60)) hx hb dX9_takesSign_20 (by decide) ?_
        refine lv_icmp_ne (tgt := 29) hx hb dX9_takesSign_22 (by decide) (fun b_11 => ?_) (fun b_11 => ?_)
        · have hf := if_f b_11 hf
          exact j29   S a1 _ _ _ hf hP hS (lv_sub hl [0, 1] rfl)
        · have hf := if_t b_11 hf
          exact j25   S a1 _ _ _ hf hP hS (lv_sub hl [0, 1] rfl)
set_option maxHeartbeats 4000000 in
set_option maxRecDepth 100000 in
theorem c_X9_takesBehind (l : Launch) (D : va_G) (y : y4) (ad : Nat → Nat) (aL aU : Nat) (hI : Inj ad) (n : Nat) (S : St) (a1 : Int32) (r : Int32) (S2 : St) (hf : f_X9_takesBehind n S a1 = some (r, S2)) : KI l D y ad aL aU yX9_takesBehind wsX9_takesBehind ({ frames := 2, cells := 0, slots := 0, locals := 42 }) [.ref (ad 28), .int a1] S r S2 := by
  refine Met.ofW (cc := cX9_takesBehind) (maxL := 2) (ret := (some .boolean)) (by decide) rfl ?_
  intro p e s m args below meth c s₁ B hml hv
  obtain ⟨rfl, hP, hK, hZ⟩ := hv
  have hx := B.exec
  have hb := B.bytes
  have hr := B.returns
  have hts := atoms_spec (ws := wsX9_takesBehind) B.pre
  have hown : s.vm.findClass RX9 = some m.cls := findClass_of_methodNamed B.named
  have hlocks := B.notSynchronized
  have hS : va_S (AA ad) s.heap s.heap [] := va_S.rf
  have L25 := hts (.fieldLink RX9 25 "JoinedTheoriesModel" "open" "[I") (by decide +kernel)
  have L87 := hts (.fieldLink RX9 87 "JoinedTheoriesModel" "waits" "I") (by decide +kernel)
  have L90 := hts (.fieldLink RX9 90 "JoinedTheoriesModel" "openMany" "I") (by decide +kernel)
  have L93 := hts (.fieldLink RX9 93 "JoinedTheoriesModel" "isRight" "Z") (by decide +kernel)
  have L97 := hts (.fieldLink RX9 97 "JoinedTheoriesModel" "sign" "I") (by decide +kernel)
  have L103 := hts (.fieldLink RX9 103 "JoinedTheoriesModel" "isBelow" "Z") (by decide +kernel)
  have n9 : ∀ w ∈ wsX90, w ∈ wsX9_takesBehind := by decide +kernel
  have hl := lv_entry ([.ref (ad 28), .int a1]) (n := 2) (Nat.le_of_ble_eq_true rfl)
  rw [lg_entry_eq]
  generalize (lg_sl ([.ref (ad 28), .int a1]) ++ List.replicate (2 - (lg_sl ([.ref (ad 28), .int a1])).length) Slot.unset).toArray = ls at hl ⊢
  have hl : lv_has ls 2 [(0, .ref (ad 28)), (1, .int a1)] := hl
  have j113 : ∀ (S : St) (x1 : Int32) (H : Heap) (locs : List Loc) (ls : Array Slot), f_X9_takesBehind_113 n S x1 = some (r, S2) → PW D y ad S H → va_S (AA ad) s.heap H locs → lv_has ls 2 [(0, .ref (ad 28)), (1, .int x1)] → W p l e (headSpec wsX9_takesBehind ({ frames := 2, cells := 0, slots := 0, locals := 42 })).room s m ([.ref (ad 28), .int a1] : List Value).toArray below meth c H locs 0 0 (QI below r S2 D y ad ([.ref (ad 28), .int a1] : List Value).toArray s) (F0 m 113 ls []) := by
    intro  S x1 H locs ls hf hP hS hl
    unfold f_X9_takesBehind_113 at hf
    refine lv_aload_n hx hb dX9_takesBehind_113 rfl (lv_at hl 0 rfl) ?_
    refine lv_iload_n hx hb dX9_takesBehind_114 rfl (lv_at hl 1 rfl) ?_
    obtain ⟨r_1, S_2, hc_3, hf⟩ := bo_inv hf
    refine w_ci (va_runV (As := [.int x1]) (rest := []) ⟨hx, hb, hml, hown, hts⟩ (c_X9_takesSign l D y ad aL aU hI n S x1 _ _ hc_3) (cwV 1 hts gX9_takesBehind_X9_takesSign rfl rfl rfl (by decide +kernel) ⟨Nat.le_of_ble_eq_true rfl, Nat.le_of_ble_eq_true rfl⟩) (pwu_V t_28 rfl hP hK hZ hS) rfl rfl hl.1 rfl (lv_room (Nat.le_of_ble_eq_true rfl)) dX9_takesBehind_115 ⟨Nat.zero_le _, Nat.zero_le _⟩) hS (fun H locs hP hS => ?_)
    obtain ⟨g_4, hf⟩ := gd_inv hf
    exact w_zret hx hb hr hlocks g_4 hP hS (rt_inv hf) dX9_takesBehind_118
  have j103 : ∀ (S : St) (t1 : Int32) (H : Heap) (locs : List Loc) (ls : Array Slot), f_X9_takesBehind_103 n S t1 = some (r, S2) → PW D y ad S H → va_S (AA ad) s.heap H locs → lv_has ls 2 [(0, .ref (ad 28))] → W p l e (headSpec wsX9_takesBehind ({ frames := 2, cells := 0, slots := 0, locals := 42 })).room s m ([.ref (ad 28), .int a1] : List Value).toArray below meth c H locs 0 0 (QI below r S2 D y ad ([.ref (ad 28), .int a1] : List Value).toArray s) (F0 m 103 ls [.int t1, .ref (ad 28)]) := by
    intro  S t1 H locs ls hf hP hS hl
    unfold f_X9_takesBehind_103 at hf
    obtain ⟨g_6, hf⟩ := gd_inv hf
    obtain ⟨S_5, eS_5, hf⟩ := bd_inv hf
    refine w_pI (ty := .boolean) (C := RX9) (T := TX9) hx hb hts n9 tyX9 tyX9_ok nmX9 hown hK hI hP hS t_28 rfl 16 (by decide) L103 rfl rfl rfl (zok g_6) dX9_takesBehind_103 (fun H locs hP hS => ?_)
    rw [← eS_5] at hP
    refine lv_aload_n hx hb dX9_takesBehind_106 rfl (lv_at hl 0 rfl) ?_
    refine lv_iconst (v := 3) hx hb dX9_takesBehind_107 (by decide) ?_
    obtain ⟨S_7, eS_7, hf⟩ := bd_inv hf
    refine w_pI (ty := .int) (C := RX9) (T := TX9) hx hb hts n9 tyX9 tyX9_ok nmX9 hown hK hI hP hS t_28 rfl 10 (by decide) L87 rfl rfl rfl ⟨rfl, rfl⟩ dX9_takesBehind_108 (fun H locs hP hS => ?_)
    rw [← eS_7] at hP
    refine lv_iconst (v := 1) hx hb dX9_takesBehind_111 (by decide) ?_
    exact w_zret hx hb hr hlocks (fun h => h (by decide)) hP hS (rt_inv hf) dX9_takesBehind_112
  have j91 : ∀ (S : St) (x1 : Int32) (H : Heap) (locs : List Loc) (ls : Array Slot), f_X9_takesBehind_91 n S x1 = some (r, S2) → PW D y ad S H → va_S (AA ad) s.heap H locs → lv_has ls 2 [(0, .ref (ad 28)), (1, .int x1)] → W p l e (headSpec wsX9_takesBehind ({ frames := 2, cells := 0, slots := 0, locals := 42 })).room s m ([.ref (ad 28), .int a1] : List Value).toArray below meth c H locs 0 0 (QI below r S2 D y ad ([.ref (ad 28), .int a1] : List Value).toArray s) (F0 m 91 ls []) := by
    intro  S x1 H locs ls hf hP hS hl
    unfold f_X9_takesBehind_91 at hf
    refine lv_aload_n hx hb dX9_takesBehind_91 rfl (lv_at hl 0 rfl) ?_
    refine lv_iload_n hx hb dX9_takesBehind_92 rfl (lv_at hl 1 rfl) ?_
    refine lv_bipush (v := (45)) hx hb dX9_takesBehind_93 (by decide) ?_
    refine lv_icmp_ne (tgt := 102) hx hb dX9_takesBehind_95 (by decide) (fun b_8 => ?_) (fun b_8 => ?_)
    · have hf := if_f b_8 hf
      refine lv_iconst (v := 0) hx hb dX9_takesBehind_102 (by decide) ?_
      exact j103   S ((0 : Int32)) _ _ _ hf hP hS (lv_sub hl [0] rfl)
    · have hf := if_t b_8 hf
      refine lv_iconst (v := 1) hx hb dX9_takesBehind_98 (by decide) ?_
      refine lv_goto (tgt := 103) hx hb dX9_takesBehind_99 (by decide) ?_
      exact j103   S ((1 : Int32)) _ _ _ hf hP hS (lv_sub hl [0] rfl)
  unfold f_X9_takesBehind at hf
  refine lv_aload_n hx hb dX9_takesBehind_0 rfl (lv_at hl 0 rfl) ?_
  refine w_gI (C := RX9) (T := TX9) hx hb hts n9 hown hK hP t_28 rfl 11 (by decide) L90 rfl dX9_takesBehind_1 ?_
  refine lv_if_le (tgt := 63) hx hb dX9_takesBehind_4 (by decide) (fun b_9 => ?_) (fun b_9 => ?_)
  · have hf := if_t b_9 hf
    refine lv_aload_n hx hb dX9_takesBehind_63 rfl (lv_at hl 0 rfl) ?_
    refine w_gI (C := RX9) (T := TX9) hx hb hts n9 hown hK hP t_28 rfl 13 (by decide) L93 rfl dX9_takesBehind_64 ?_
    refine lv_if_eq (tgt := 113) hx hb dX9_takesBehind_67 (by decide) (fun b_10 => ?_) (fun b_10 => ?_)
    · have hf := if_t b_10 hf
      exact j113   S a1 _ _ _ hf hP hS (lv_sub hl [0, 1] rfl)
    · have hf := if_f b_10 hf
      refine lv_aload_n hx hb dX9_takesBehind_70 rfl (lv_at hl 0 rfl) ?_
      refine w_gI (C := RX9) (T := TX9) hx hb hts n9 hown hK hP t_28 rfl 14 (by decide) L97 rfl dX9_takesBehind_71 ?_
      refine lv_bipush (v := (60)) hx hb dX9_takesBehind_74 (by decide) ?_
      refine lv_icmp_ne (tgt := 113) hx hb dX9_takesBehind_76 (by decide) (fun b_11 => ?_) (fun b_11 => ?_)
      · have hf := if_f b_11 hf
        exact j113   S a1 _ _ _ hf hP hS (lv_sub hl [0, 1] rfl)
      · have hf := if_t b_11 hf
        refine lv_iload_n hx hb dX9_takesBehind_79 rfl (lv_at hl 1 rfl) ?_
        refine lv_bipush (v := (43)) hx hb dX9_takesBehind_80 (by decide) ?_
        refine lv_icmp_eq (tgt := 91) hx hb dX9_takesBehind_82 (by decide) (fun b_12 => ?_) (fun b_12 => ?_)
        · have hf := if_t b_12 hf
          exact j91   S a1 _ _ _ hf hP hS (lv_sub hl [0, 1] rfl)
        · have hf := if_f b_12 hf
          refine lv_iload_n hx hb dX9_takesBehind_85 rfl (lv_at hl 1 rfl) ?_
          refine lv_bipush (v := (45)) hx hb dX9_takesBehind_86 (by decide) ?_
          refine lv_icmp_ne (tgt := 113) hx hb dX9_takesBehind_88 (by decide) (fun b_13 => ?_) (fun b_13 => ?_)
          · have hf := if_f b_13 hf
            exact j113   S a1 _ _ _ hf hP hS (lv_sub hl [0, 1] rfl)
          · have hf := if_t b_13 hf
            exact j91   S a1 _ _ _ hf hP hS (lv_sub hl [0, 1] rfl)
  · have hf := if_f b_9 hf
    refine lv_iload_n hx hb dX9_takesBehind_7 rfl (lv_at hl 1 rfl) ?_
    refine lv_aload_n hx hb dX9_takesBehind_8 rfl (lv_at hl 0 rfl) ?_
    refine w_gR (z := 34) (C := RX9) (T := TX9) hx hb hts n9 hown hK hP t_28 rfl 12 (by decide) L25 rfl rfl dX9_takesBehind_9 ?_
    refine lv_aload_n hx hb dX9_takesBehind_12 rfl (lv_at hl 0 rfl) ?_
    refine w_gI (C := RX9) (T := TX9) hx hb hts n9 hown hK hP t_28 rfl 11 (by decide) L90 rfl dX9_takesBehind_13 ?_
    refine lv_iconst (v := 1) hx hb dX9_takesBehind_16 (by decide) ?_
    refine lv_isub hx hb dX9_takesBehind_17 ?_
    obtain ⟨g_14, hf⟩ := gd_inv hf
    refine w_iald hx hb hK hP t_34 g_14 dX9_takesBehind_18 ?_
    refine lv_icmp_eq (tgt := 24) hx hb dX9_takesBehind_19 (by decide) (fun b_15 => ?_) (fun b_15 => ?_)
    · have hf := if_t b_15 hf
      refine lv_iload_n hx hb dX9_takesBehind_24 rfl (lv_at hl 1 rfl) ?_
      refine lv_bipush (v := (44)) hx hb dX9_takesBehind_25 (by decide) ?_
      refine lv_icmp_ne (tgt := 51) hx hb dX9_takesBehind_27 (by decide) (fun b_16 => ?_) (fun b_16 => ?_)
      · have hf := if_f b_16 hf
        refine lv_aload_n hx hb dX9_takesBehind_51 rfl (lv_at hl 0 rfl) ?_
        refine lv_dup hx hb dX9_takesBehind_52 rfl ?_
        refine w_gI (C := RX9) (T := TX9) hx hb hts n9 hown hK hP t_28 rfl 11 (by decide) L90 rfl dX9_takesBehind_53 ?_
        refine lv_iconst (v := 1) hx hb dX9_takesBehind_56 (by decide) ?_
        refine lv_isub hx hb dX9_takesBehind_57 ?_
        obtain ⟨S_17, eS_17, hf⟩ := bd_inv hf
        refine w_pI (ty := .int) (C := RX9) (T := TX9) hx hb hts n9 tyX9 tyX9_ok nmX9 hown hK hI hP hS t_28 rfl 11 (by decide) L90 rfl rfl rfl ⟨rfl, rfl⟩ dX9_takesBehind_58 (fun H locs hP hS => ?_)
        rw [← eS_17] at hP
        refine lv_iconst (v := 1) hx hb dX9_takesBehind_61 (by decide) ?_
        exact w_zret hx hb hr hlocks (fun h => h (by decide)) hP hS (rt_inv hf) dX9_takesBehind_62
      · have hf := if_t b_16 hf
        refine lv_aload_n hx hb dX9_takesBehind_30 rfl (lv_at hl 0 rfl) ?_
        refine w_gR (z := 34) (C := RX9) (T := TX9) hx hb hts n9 hown hK hP t_28 rfl 12 (by decide) L25 rfl rfl dX9_takesBehind_31 ?_
        refine lv_aload_n hx hb dX9_takesBehind_34 rfl (lv_at hl 0 rfl) ?_
        refine w_gI (C := RX9) (T := TX9) hx hb hts n9 hown hK hP t_28 rfl 11 (by decide) L90 rfl dX9_takesBehind_35 ?_
        refine lv_iconst (v := 1) hx hb dX9_takesBehind_38 (by decide) ?_
        refine lv_isub hx hb dX9_takesBehind_39 ?_
        refine lv_bipush (v := (41)) hx hb dX9_takesBehind_40 (by decide) ?_
        obtain ⟨g_18, hf⟩ := gd_inv hf
        obtain ⟨S_19, eS_19, hf⟩ := bd_inv hf
        refine w_iast hx hb hK hI hP hS t_34 g_18 dX9_takesBehind_42 (fun H locs hP hS => ?_)
        rw [← eS_19] at hP
        refine lv_aload_n hx hb dX9_takesBehind_43 rfl (lv_at hl 0 rfl) ?_
        refine lv_iconst (v := 0) hx hb dX9_takesBehind_44 (by decide) ?_
        obtain ⟨S_20, eS_20, hf⟩ := bd_inv hf
        refine w_pI (ty := .int) (C := RX9) (T := TX9) hx hb hts n9 tyX9 tyX9_ok nmX9 hown hK hI hP hS t_28 rfl 10 (by decide) L87 rfl rfl rfl ⟨rfl, rfl⟩ dX9_takesBehind_45 (fun H locs hP hS => ?_)
        rw [← eS_20] at hP
        refine lv_goto (tgt := 61) hx hb dX9_takesBehind_48 (by decide) ?_
        refine lv_iconst (v := 1) hx hb dX9_takesBehind_61 (by decide) ?_
        exact w_zret hx hb hr hlocks (fun h => h (by decide)) hP hS (rt_inv hf) dX9_takesBehind_62
    · have hf := if_f b_15 hf
      refine lv_iconst (v := 0) hx hb dX9_takesBehind_22 (by decide) ?_
      exact w_zret hx hb hr hlocks (fun h => h (by decide)) hP hS (rt_inv hf) dX9_takesBehind_23
