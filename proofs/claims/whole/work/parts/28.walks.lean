set_option maxHeartbeats 4000000 in
set_option maxRecDepth 100000 in
theorem c_X9_isBelowSomewhere (l : Launch) (D : va_G) (y : y4) (ad : Nat → Nat) (aL aU : Nat) (hI : Inj ad) (n : Nat) (S : St) (r : Int32) (S2 : St) (hf : f_X9_isBelowSomewhere n S = some (r, S2)) : KI l D y ad aL aU yX9_isBelowSomewhere wsX9_isBelowSomewhere ({ frames := 1, cells := 0, slots := 0, locals := 20 }) [.ref (ad 28)] S r S2 := by
  refine Met.ofW (cc := cX9_isBelowSomewhere) (maxL := 3) (ret := (some .boolean)) (by decide) rfl ?_
  intro p e s m args below meth c s₁ B hml hv
  obtain ⟨rfl, hP, hK, hZ⟩ := hv
  have hx := B.exec
  have hb := B.bytes
  have hr := B.returns
  have hts := atoms_spec (ws := wsX9_isBelowSomewhere) B.pre
  have hown : s.vm.findClass RX9 = some m.cls := findClass_of_methodNamed B.named
  have hlocks := B.notSynchronized
  have hS : va_S (AA ad) s.heap s.heap [] := va_S.rf
  have L49 := hts (.fieldLink RX9 49 "JoinedTheoriesModel" "ways" "[J") (by decide +kernel)
  have L133 := hts (.fieldLink RX9 133 "JoinedTheoriesModel" "terms" "I") (by decide +kernel)
  have n9 : ∀ w ∈ wsX90, w ∈ wsX9_isBelowSomewhere := by decide +kernel
  have hl := lv_entry ([.ref (ad 28)]) (n := 3) (Nat.le_of_ble_eq_true rfl)
  rw [lg_entry_eq]
  generalize (lg_sl ([.ref (ad 28)]) ++ List.replicate (3 - (lg_sl ([.ref (ad 28)])).length) Slot.unset).toArray = ls at hl ⊢
  have hl : lv_has ls 3 [(0, .ref (ad 28))] := hl
  have j37 : ∀ (k4 : St → Int32 → Int32 → Option (Int32 × St)) (hk4 : ∀ (S : St) (x1 : Int32) (x2 : Int32) (H : Heap) (locs : List Loc) (ls : Array Slot), k4 S x1 x2 = some (r, S2) → PW D y ad S H → va_S (AA ad) s.heap H locs → lv_has ls 3 [(0, .ref (ad 28)), (1, .int x1), (2, .int x2)] → W p l e (headSpec wsX9_isBelowSomewhere ({ frames := 1, cells := 0, slots := 0, locals := 20 })).room s m ([.ref (ad 28)] : List Value).toArray below meth c H locs 0 0 (QI below r S2 D y ad ([.ref (ad 28)] : List Value).toArray s) (F0 m 4 ls [])), ∀ (S : St) (x2 : Int32) (t0 : Int32) (H : Heap) (locs : List Loc) (ls : Array Slot), f_X9_isBelowSomewhere_37 n k4 S x2 t0 = some (r, S2) → PW D y ad S H → va_S (AA ad) s.heap H locs → lv_has ls 3 [(0, .ref (ad 28)), (2, .int x2)] → W p l e (headSpec wsX9_isBelowSomewhere ({ frames := 1, cells := 0, slots := 0, locals := 20 })).room s m ([.ref (ad 28)] : List Value).toArray below meth c H locs 0 0 (QI below r S2 D y ad ([.ref (ad 28)] : List Value).toArray s) (F0 m 37 ls [.int t0]) := by
    intro  k4 hk4 S x2 t0 H locs ls hf hP hS hl
    unfold f_X9_isBelowSomewhere_37 at hf
    obtain ⟨x1_1, ex1_1, hf⟩ := bd_inv hf
    refine w_topI ex1_1 ?_
    refine lv_istore_n (lv' := [(1, .int x1_1), (0, .ref (ad 28)), (2, .int x2)]) hx hb dX9_isBelowSomewhere_37 rfl hl (by decide) rfl (fun ls hl => ?_)
    obtain ⟨x2_2, ex2_2, hf⟩ := bd_inv hf
    refine lv_iinc (v := x2_2) (lv' := [(2, .int x2_2), (1, .int x1_1), (0, .ref (ad 28))]) hx hb dX9_isBelowSomewhere_38 hl (k := 2) rfl (by rw [ex2_2]; rfl) (by decide) rfl (fun ls hl => ?_)
    refine lv_goto (tgt := 4) hx hb dX9_isBelowSomewhere_41 (by decide) ?_
    exact hk4 S x1_1 x2_2 _ _ _ hf hP hS (lv_sub hl [2, 1, 0] rfl)
  have j32 : ∀ (k4 : St → Int32 → Int32 → Option (Int32 × St)) (hk4 : ∀ (S : St) (x1 : Int32) (x2 : Int32) (H : Heap) (locs : List Loc) (ls : Array Slot), k4 S x1 x2 = some (r, S2) → PW D y ad S H → va_S (AA ad) s.heap H locs → lv_has ls 3 [(0, .ref (ad 28)), (1, .int x1), (2, .int x2)] → W p l e (headSpec wsX9_isBelowSomewhere ({ frames := 1, cells := 0, slots := 0, locals := 20 })).room s m ([.ref (ad 28)] : List Value).toArray below meth c H locs 0 0 (QI below r S2 D y ad ([.ref (ad 28)] : List Value).toArray s) (F0 m 4 ls [])), ∀ (S : St) (x2 : Int32) (H : Heap) (locs : List Loc) (ls : Array Slot), f_X9_isBelowSomewhere_32 n k4 S x2 = some (r, S2) → PW D y ad S H → va_S (AA ad) s.heap H locs → lv_has ls 3 [(0, .ref (ad 28)), (2, .int x2)] → W p l e (headSpec wsX9_isBelowSomewhere ({ frames := 1, cells := 0, slots := 0, locals := 20 })).room s m ([.ref (ad 28)] : List Value).toArray below meth c H locs 0 0 (QI below r S2 D y ad ([.ref (ad 28)] : List Value).toArray s) (F0 m 32 ls []) := by
    intro  k4 hk4 S x2 H locs ls hf hP hS hl
    unfold f_X9_isBelowSomewhere_32 at hf
    refine lv_iconst (v := 1) hx hb dX9_isBelowSomewhere_32 (by decide) ?_
    refine lv_goto (tgt := 37) hx hb dX9_isBelowSomewhere_33 (by decide) ?_
    exact j37  k4 hk4 S x2 ((1 : Int32)) _ _ _ hf hP hS (lv_sub hl [0, 1] rfl)
  have b4 : ∀ (k4 : St → Int32 → Int32 → Option (Int32 × St)) (hk4 : ∀ (S : St) (x1 : Int32) (x2 : Int32) (H : Heap) (locs : List Loc) (ls : Array Slot), k4 S x1 x2 = some (r, S2) → PW D y ad S H → va_S (AA ad) s.heap H locs → lv_has ls 3 [(0, .ref (ad 28)), (1, .int x1), (2, .int x2)] → W p l e (headSpec wsX9_isBelowSomewhere ({ frames := 1, cells := 0, slots := 0, locals := 20 })).room s m ([.ref (ad 28)] : List Value).toArray below meth c H locs 0 0 (QI below r S2 D y ad ([.ref (ad 28)] : List Value).toArray s) (F0 m 4 ls [])), ∀ (S : St) (x1 : Int32) (x2 : Int32) (H : Heap) (locs : List Loc) (ls : Array Slot), f_X9_isBelowSomewhere_4 n k4 S x1 x2 = some (r, S2) → PW D y ad S H → va_S (AA ad) s.heap H locs → lv_has ls 3 [(0, .ref (ad 28)), (1, .int x1), (2, .int x2)] → W p l e (headSpec wsX9_isBelowSomewhere ({ frames := 1, cells := 0, slots := 0, locals := 20 })).room s m ([.ref (ad 28)] : List Value).toArray below meth c H locs 0 0 (QI below r S2 D y ad ([.ref (ad 28)] : List Value).toArray s) (F0 m 4 ls []) := by
    intro  k4 hk4 S x1 x2 H locs ls hf hP hS hl
    unfold f_X9_isBelowSomewhere_4 at hf
    refine lv_iload_n hx hb dX9_isBelowSomewhere_4 rfl (lv_at hl 2 rfl) ?_
    refine lv_aload_n hx hb dX9_isBelowSomewhere_5 rfl (lv_at hl 0 rfl) ?_
    refine w_gI (C := RX9) (T := TX9) hx hb hts n9 hown hK hP t_28 rfl 18 (by decide) L133 rfl dX9_isBelowSomewhere_6 ?_
    refine lv_icmp_ge (tgt := 44) hx hb dX9_isBelowSomewhere_9 (by decide) (fun b_3 => ?_) (fun b_3 => ?_)
    · have hf := if_t b_3 hf
      refine lv_iload_n hx hb dX9_isBelowSomewhere_44 rfl (lv_at hl 1 rfl) ?_
      obtain ⟨g_4, hf⟩ := gd_inv hf
      exact w_zret hx hb hr hlocks g_4 hP hS (rt_inv hf) dX9_isBelowSomewhere_45
    · have hf := if_f b_3 hf
      refine lv_iload_n hx hb dX9_isBelowSomewhere_12 rfl (lv_at hl 1 rfl) ?_
      refine lv_if_ne (tgt := 32) hx hb dX9_isBelowSomewhere_13 (by decide) (fun b_5 => ?_) (fun b_5 => ?_)
      · have hf := if_f b_5 hf
        exact j32  k4 hk4 S x2 _ _ _ hf hP hS (lv_sub hl [0, 2] rfl)
      · have hf := if_t b_5 hf
        refine lv_aload_n hx hb dX9_isBelowSomewhere_16 rfl (lv_at hl 0 rfl) ?_
        refine w_gR (z := 42) (C := RX9) (T := TX9) hx hb hts n9 hown hK hP t_28 rfl 26 (by decide) L49 rfl rfl dX9_isBelowSomewhere_17 ?_
        refine lv_bipush (v := (10)) hx hb dX9_isBelowSomewhere_20 (by decide) ?_
        refine lv_iload_n hx hb dX9_isBelowSomewhere_22 rfl (lv_at hl 2 rfl) ?_
        refine lv_imul hx hb dX9_isBelowSomewhere_23 ?_
        refine lv_iload_n hx hb dX9_isBelowSomewhere_24 rfl (lv_at hl 2 rfl) ?_
        refine lv_iadd hx hb dX9_isBelowSomewhere_25 ?_
        obtain ⟨g_6, hf⟩ := gd_inv hf
        refine w_lald hx hb hK hP t_42 g_6 dX9_isBelowSomewhere_26 ?_
        refine lv_lconst (v := 0) hx hb dX9_isBelowSomewhere_27 (by decide) ?_
        refine W.lcmp hx hb dX9_isBelowSomewhere_28 ?_
        refine lv_if_ge (tgt := 36) hx hb dX9_isBelowSomewhere_29 (by decide) (fun b_7 => ?_) (fun b_7 => ?_)
        · have hf := if_t b_7 hf
          refine lv_iconst (v := 0) hx hb dX9_isBelowSomewhere_36 (by decide) ?_
          exact j37  k4 hk4 S x2 ((0 : Int32)) _ _ _ hf hP hS (lv_sub hl [0, 2] rfl)
        · have hf := if_f b_7 hf
          exact j32  k4 hk4 S x2 _ _ _ hf hP hS (lv_sub hl [0, 2] rfl)
  have j4 : ∀ (fu : Nat), ∀ (S : St) (x1 : Int32) (x2 : Int32) (H : Heap) (locs : List Loc) (ls : Array Slot), fixF (fun _ _ _ => none) (f_X9_isBelowSomewhere_4 n) fu S x1 x2 = some (r, S2) → PW D y ad S H → va_S (AA ad) s.heap H locs → lv_has ls 3 [(0, .ref (ad 28)), (1, .int x1), (2, .int x2)] → W p l e (headSpec wsX9_isBelowSomewhere ({ frames := 1, cells := 0, slots := 0, locals := 20 })).room s m ([.ref (ad 28)] : List Value).toArray below meth c H locs 0 0 (QI below r S2 D y ad ([.ref (ad 28)] : List Value).toArray s) (F0 m 4 ls []) := by
    intro   fu
    induction fu with
    | zero => intro S x1 x2 H locs ls hf hP hS hl; cases hf
    | succ fu ih => exact b4   (fixF (fun _ _ _ => none) (f_X9_isBelowSomewhere_4 n) fu) ih
  unfold f_X9_isBelowSomewhere at hf
  refine lv_iconst (v := 0) hx hb dX9_isBelowSomewhere_0 (by decide) ?_
  obtain ⟨x1_8, ex1_8, hf⟩ := bd_inv hf
  refine w_topI ex1_8 ?_
  refine lv_istore_n (lv' := [(1, .int x1_8), (0, .ref (ad 28))]) hx hb dX9_isBelowSomewhere_1 rfl hl (by decide) rfl (fun ls hl => ?_)
  refine lv_iconst (v := 0) hx hb dX9_isBelowSomewhere_2 (by decide) ?_
  obtain ⟨x2_9, ex2_9, hf⟩ := bd_inv hf
  refine w_topI ex2_9 ?_
  refine lv_istore_n (lv' := [(2, .int x2_9), (1, .int x1_8), (0, .ref (ad 28))]) hx hb dX9_isBelowSomewhere_3 rfl hl (by decide) rfl (fun ls hl => ?_)
  exact j4   n S x1_8 x2_9 _ _ _ hf hP hS (lv_sub hl [2, 1, 0] rfl)
set_option maxHeartbeats 4000000 in
set_option maxRecDepth 100000 in
theorem c_X9_layWays (l : Launch) (D : va_G) (y : y4) (ad : Nat → Nat) (aL aU : Nat) (hI : Inj ad) (n : Nat) (S : St) (r : Int32) (S2 : St) (hf : f_X9_layWays n S = some (r, S2)) : KI l D y ad aL aU yX9_layWays wsX9_layWays ({ frames := 2, cells := 0, slots := 0, locals := 43 }) [.ref (ad 28)] S r S2 := by
  refine Met.ofW (cc := cX9_layWays) (maxL := 5) (ret := (some .boolean)) (by decide) rfl ?_
  intro p e s m args below meth c s₁ B hml hv
  obtain ⟨rfl, hP, hK, hZ⟩ := hv
  have hx := B.exec
  have hb := B.bytes
  have hr := B.returns
  have hts := atoms_spec (ws := wsX9_layWays) B.pre
  have hown : s.vm.findClass RX9 = some m.cls := findClass_of_methodNamed B.named
  have hlocks := B.notSynchronized
  have hS : va_S (AA ad) s.heap s.heap [] := va_S.rf
  have L19 := hts (.fieldLink RX9 19 "JoinedTheoriesModel" "sortOf" "[I") (by decide +kernel)
  have L22 := hts (.fieldLink RX9 22 "JoinedTheoriesModel" "boundOf" "[I") (by decide +kernel)
  have L37 := hts (.fieldLink RX9 37 "JoinedTheoriesModel" "leftOf" "[I") (by decide +kernel)
  have L40 := hts (.fieldLink RX9 40 "JoinedTheoriesModel" "rightOf" "[I") (by decide +kernel)
  have L46 := hts (.fieldLink RX9 46 "JoinedTheoriesModel" "sameOf" "[I") (by decide +kernel)
  have L49 := hts (.fieldLink RX9 49 "JoinedTheoriesModel" "ways" "[J") (by decide +kernel)
  have L133 := hts (.fieldLink RX9 133 "JoinedTheoriesModel" "terms" "I") (by decide +kernel)
  have L141 := hts (.fieldLink RX9 141 "JoinedTheoriesModel" "literals" "I") (by decide +kernel)
  have K176 := hts (.constantLong RX9 176 (1152921504606846976)) (by decide +kernel)
  have n9 : ∀ w ∈ wsX90, w ∈ wsX9_layWays := by decide +kernel
  have hl := lv_entry ([.ref (ad 28)]) (n := 5) (Nat.le_of_ble_eq_true rfl)
  rw [lg_entry_eq]
  generalize (lg_sl ([.ref (ad 28)]) ++ List.replicate (5 - (lg_sl ([.ref (ad 28)])).length) Slot.unset).toArray = ls at hl ⊢
  have hl : lv_has ls 5 [(0, .ref (ad 28))] := hl
  have j278 : ∀ (x1 : Int32) (x2 : Int32) (k141 : St → Int32 → Option (Int32 × St)) (hk141 : ∀ (S : St) (x1 : Int32) (H : Heap) (locs : List Loc) (ls : Array Slot), k141 S x1 = some (r, S2) → PW D y ad S H → va_S (AA ad) s.heap H locs → lv_has ls 5 [(0, .ref (ad 28)), (1, .int x1)] → W p l e (headSpec wsX9_layWays ({ frames := 2, cells := 0, slots := 0, locals := 43 })).room s m ([.ref (ad 28)] : List Value).toArray below meth c H locs 0 0 (QI below r S2 D y ad ([.ref (ad 28)] : List Value).toArray s) (F0 m 141 ls [])) (k151 : St → Int32 → Option (Int32 × St)) (hk151 : ∀ (S : St) (x2 : Int32) (H : Heap) (locs : List Loc) (ls : Array Slot), k151 S x2 = some (r, S2) → PW D y ad S H → va_S (AA ad) s.heap H locs → lv_has ls 5 [(0, .ref (ad 28)), (1, .int x1), (2, .int x2)] → W p l e (headSpec wsX9_layWays ({ frames := 2, cells := 0, slots := 0, locals := 43 })).room s m ([.ref (ad 28)] : List Value).toArray below meth c H locs 0 0 (QI below r S2 D y ad ([.ref (ad 28)] : List Value).toArray s) (F0 m 151 ls [])) (k161 : St → Int32 → Option (Int32 × St)) (hk161 : ∀ (S : St) (x3 : Int32) (H : Heap) (locs : List Loc) (ls : Array Slot), k161 S x3 = some (r, S2) → PW D y ad S H → va_S (AA ad) s.heap H locs → lv_has ls 5 [(0, .ref (ad 28)), (1, .int x1), (2, .int x2), (3, .int x3)] → W p l e (headSpec wsX9_layWays ({ frames := 2, cells := 0, slots := 0, locals := 43 })).room s m ([.ref (ad 28)] : List Value).toArray below meth c H locs 0 0 (QI below r S2 D y ad ([.ref (ad 28)] : List Value).toArray s) (F0 m 161 ls [])), ∀ (S : St) (x3 : Int32) (t1 : Int32) (t2 : Int64) (H : Heap) (locs : List Loc) (ls : Array Slot), f_X9_layWays_278 n x1 x2 k141 k151 k161 S x3 t1 t2 = some (r, S2) → PW D y ad S H → va_S (AA ad) s.heap H locs → lv_has ls 5 [(0, .ref (ad 28)), (1, .int x1), (2, .int x2), (3, .int x3)] → W p l e (headSpec wsX9_layWays ({ frames := 2, cells := 0, slots := 0, locals := 43 })).room s m ([.ref (ad 28)] : List Value).toArray below meth c H locs 0 0 (QI below r S2 D y ad ([.ref (ad 28)] : List Value).toArray s) (F0 m 278 ls [.long t2, .int t1, .ref (ad 42)]) := by
    intro x1 x2 k141 hk141 k151 hk151 k161 hk161 S x3 t1 t2 H locs ls hf hP hS hl
    unfold f_X9_layWays_278 at hf
    obtain ⟨g_1, hf⟩ := gd_inv hf
    obtain ⟨S_2, eS_2, hf⟩ := bd_inv hf
    refine w_last hx hb hK hI hP hS t_42 g_1 dX9_layWays_278 (fun H locs hP hS => ?_)
    rw [← eS_2] at hP
    obtain ⟨x3_3, ex3_3, hf⟩ := bd_inv hf
    refine lv_iinc (v := x3_3) (lv' := [(3, .int x3_3), (0, .ref (ad 28)), (1, .int x1), (2, .int x2)]) hx hb dX9_layWays_279 hl (k := 3) rfl (by rw [ex3_3]; rfl) (by decide) rfl (fun ls hl => ?_)
    refine lv_goto (tgt := 161) hx hb dX9_layWays_282 (by decide) ?_
    exact hk161 S_2 x3_3 _ _ _ hf hP hS (lv_sub hl [1, 2, 3, 0] rfl)
  have j210 : ∀ (x1 : Int32) (x2 : Int32) (k141 : St → Int32 → Option (Int32 × St)) (hk141 : ∀ (S : St) (x1 : Int32) (H : Heap) (locs : List Loc) (ls : Array Slot), k141 S x1 = some (r, S2) → PW D y ad S H → va_S (AA ad) s.heap H locs → lv_has ls 5 [(0, .ref (ad 28)), (1, .int x1)] → W p l e (headSpec wsX9_layWays ({ frames := 2, cells := 0, slots := 0, locals := 43 })).room s m ([.ref (ad 28)] : List Value).toArray below meth c H locs 0 0 (QI below r S2 D y ad ([.ref (ad 28)] : List Value).toArray s) (F0 m 141 ls [])) (k151 : St → Int32 → Option (Int32 × St)) (hk151 : ∀ (S : St) (x2 : Int32) (H : Heap) (locs : List Loc) (ls : Array Slot), k151 S x2 = some (r, S2) → PW D y ad S H → va_S (AA ad) s.heap H locs → lv_has ls 5 [(0, .ref (ad 28)), (1, .int x1), (2, .int x2)] → W p l e (headSpec wsX9_layWays ({ frames := 2, cells := 0, slots := 0, locals := 43 })).room s m ([.ref (ad 28)] : List Value).toArray below meth c H locs 0 0 (QI below r S2 D y ad ([.ref (ad 28)] : List Value).toArray s) (F0 m 151 ls [])) (k161 : St → Int32 → Option (Int32 × St)) (hk161 : ∀ (S : St) (x3 : Int32) (H : Heap) (locs : List Loc) (ls : Array Slot), k161 S x3 = some (r, S2) → PW D y ad S H → va_S (AA ad) s.heap H locs → lv_has ls 5 [(0, .ref (ad 28)), (1, .int x1), (2, .int x2), (3, .int x3)] → W p l e (headSpec wsX9_layWays ({ frames := 2, cells := 0, slots := 0, locals := 43 })).room s m ([.ref (ad 28)] : List Value).toArray below meth c H locs 0 0 (QI below r S2 D y ad ([.ref (ad 28)] : List Value).toArray s) (F0 m 161 ls [])), ∀ (S : St) (x3 : Int32) (t0 : Int32) (H : Heap) (locs : List Loc) (ls : Array Slot), f_X9_layWays_210 n x1 x2 k141 k151 k161 S x3 t0 = some (r, S2) → PW D y ad S H → va_S (AA ad) s.heap H locs → lv_has ls 5 [(0, .ref (ad 28)), (1, .int x1), (2, .int x2), (3, .int x3)] → W p l e (headSpec wsX9_layWays ({ frames := 2, cells := 0, slots := 0, locals := 43 })).room s m ([.ref (ad 28)] : List Value).toArray below meth c H locs 0 0 (QI below r S2 D y ad ([.ref (ad 28)] : List Value).toArray s) (F0 m 210 ls [.int t0]) := by
    intro x1 x2 k141 hk141 k151 hk151 k161 hk161 S x3 t0 H locs ls hf hP hS hl
    unfold f_X9_layWays_210 at hf
    obtain ⟨x4_4, ex4_4, hf⟩ := bd_inv hf
    refine w_topI ex4_4 ?_
    refine lv_istore (lv' := [(4, .int x4_4), (0, .ref (ad 28)), (1, .int x1), (2, .int x2), (3, .int x3)]) hx hb dX9_layWays_210 hl (by decide) rfl (fun ls hl => ?_)
    refine lv_aload_n hx hb dX9_layWays_212 rfl (lv_at hl 1 rfl) ?_
    refine w_gR (z := 42) (C := RX9) (T := TX9) hx hb hts n9 hown hK hP t_28 rfl 26 (by decide) L49 rfl rfl dX9_layWays_213 ?_
    refine lv_bipush (v := (10)) hx hb dX9_layWays_216 (by decide) ?_
    refine lv_iload_n hx hb dX9_layWays_218 rfl (lv_at hl 3 rfl) ?_
    refine lv_imul hx hb dX9_layWays_219 ?_
    refine lv_iload_n hx hb dX9_layWays_220 rfl (lv_at hl 4 rfl) ?_
    refine lv_iadd hx hb dX9_layWays_221 ?_
    refine lv_iload hx hb dX9_layWays_222 (lv_at hl 0 rfl) ?_
    refine lv_if_eq (tgt := 267) hx hb dX9_layWays_224 (by decide) (fun b_5 => ?_) (fun b_5 => ?_)
    · have hf := if_t b_5 hf
      refine lv_aload_n hx hb dX9_layWays_267 rfl (lv_at hl 1 rfl) ?_
      refine w_gR (z := 42) (C := RX9) (T := TX9) hx hb hts n9 hown hK hP t_28 rfl 26 (by decide) L49 rfl rfl dX9_layWays_268 ?_
      refine lv_bipush (v := (10)) hx hb dX9_layWays_271 (by decide) ?_
      refine lv_iload_n hx hb dX9_layWays_273 rfl (lv_at hl 3 rfl) ?_
      refine lv_imul hx hb dX9_layWays_274 ?_
      refine lv_iload_n hx hb dX9_layWays_275 rfl (lv_at hl 4 rfl) ?_
      refine lv_iadd hx hb dX9_layWays_276 ?_
      obtain ⟨g_6, hf⟩ := gd_inv hf
      refine w_lald hx hb hK hP t_42 g_6 dX9_layWays_277 ?_
      exact j278 x1 x2 k141 hk141 k151 hk151 k161 hk161 S x3 ((((10 : Int32) * x2) + x3)) ((S.2 42 ((((10 : Int32) * x2) + x3)).toNatClampNeg)) _ _ _ hf hP hS (lv_sub hl [1, 2, 3, 4] rfl)
    · have hf := if_f b_5 hf
      refine lv_aload_n hx hb dX9_layWays_227 rfl (lv_at hl 1 rfl) ?_
      refine w_gR (z := 42) (C := RX9) (T := TX9) hx hb hts n9 hown hK hP t_28 rfl 26 (by decide) L49 rfl rfl dX9_layWays_228 ?_
      refine lv_bipush (v := (10)) hx hb dX9_layWays_231 (by decide) ?_
      refine lv_iload_n hx hb dX9_layWays_233 rfl (lv_at hl 3 rfl) ?_
      refine lv_imul hx hb dX9_layWays_234 ?_
      refine lv_iload_n hx hb dX9_layWays_235 rfl (lv_at hl 4 rfl) ?_
      refine lv_iadd hx hb dX9_layWays_236 ?_
      obtain ⟨g_7, hf⟩ := gd_inv hf
      refine w_lald hx hb hK hP t_42 g_7 dX9_layWays_237 ?_
      refine lv_aload_n hx hb dX9_layWays_238 rfl (lv_at hl 1 rfl) ?_
      refine w_gR (z := 42) (C := RX9) (T := TX9) hx hb hts n9 hown hK hP t_28 rfl 26 (by decide) L49 rfl rfl dX9_layWays_239 ?_
      refine lv_bipush (v := (10)) hx hb dX9_layWays_242 (by decide) ?_
      refine lv_iload_n hx hb dX9_layWays_244 rfl (lv_at hl 3 rfl) ?_
      refine lv_imul hx hb dX9_layWays_245 ?_
      refine lv_iload_n hx hb dX9_layWays_246 rfl (lv_at hl 2 rfl) ?_
      refine lv_iadd hx hb dX9_layWays_247 ?_
      obtain ⟨g_8, hf⟩ := gd_inv hf
      refine w_lald hx hb hK hP t_42 g_8 dX9_layWays_248 ?_
      refine lv_aload_n hx hb dX9_layWays_249 rfl (lv_at hl 1 rfl) ?_
      refine w_gR (z := 42) (C := RX9) (T := TX9) hx hb hts n9 hown hK hP t_28 rfl 26 (by decide) L49 rfl rfl dX9_layWays_250 ?_
      refine lv_bipush (v := (10)) hx hb dX9_layWays_253 (by decide) ?_
      refine lv_iload_n hx hb dX9_layWays_255 rfl (lv_at hl 2 rfl) ?_
      refine lv_imul hx hb dX9_layWays_256 ?_
      refine lv_iload_n hx hb dX9_layWays_257 rfl (lv_at hl 4 rfl) ?_
      refine lv_iadd hx hb dX9_layWays_258 ?_
      obtain ⟨g_9, hf⟩ := gd_inv hf
      refine w_lald hx hb hK hP t_42 g_9 dX9_layWays_259 ?_
      refine lv_ladd hx hb dX9_layWays_260 ?_
      obtain ⟨r_10, S_11, hc_12, hf⟩ := bo_inv hf
      refine w_cl (va_runS (As := [.long (S.2 42 ((((10 : Int32) * x2) + x3)).toNatClampNeg), .long ((S.2 42 ((((10 : Int32) * x2) + x1)).toNatClampNeg) + (S.2 42 ((((10 : Int32) * x1) + x3)).toNatClampNeg))]) (rest := [.int (((10 : Int32) * x2) + x3), .ref (ad 42)]) ⟨hx, hb, hml, hown, hts⟩ (c_X9_least l D y ad aL aU hI n S ((S.2 42 ((((10 : Int32) * x2) + x3)).toNatClampNeg)) (((S.2 42 ((((10 : Int32) * x2) + x1)).toNatClampNeg) + (S.2 42 ((((10 : Int32) * x1) + x3)).toNatClampNeg))) _ _ hc_12) (cwS 2 hts gX9_layWays_X9_least rfl rfl rfl (by decide +kernel) ⟨Nat.le_of_ble_eq_true rfl, Nat.le_of_ble_eq_true rfl⟩) (pwu_S hP hK hZ hS) rfl rfl hl.1 rfl (lv_room (Nat.le_of_ble_eq_true rfl)) dX9_layWays_261 ⟨Nat.zero_le _, Nat.zero_le _⟩) hS (fun H locs hP hS => ?_)
      refine lv_goto (tgt := 278) hx hb dX9_layWays_264 (by decide) ?_
      exact j278 x1 x2 k141 hk141 k151 hk151 k161 hk161 S_11 x3 ((((10 : Int32) * x2) + x3)) r_10 _ _ _ hf hP hS (lv_sub hl [1, 2, 3, 4] rfl)
  have j209 : ∀ (x1 : Int32) (x2 : Int32) (k141 : St → Int32 → Option (Int32 × St)) (hk141 : ∀ (S : St) (x1 : Int32) (H : Heap) (locs : List Loc) (ls : Array Slot), k141 S x1 = some (r, S2) → PW D y ad S H → va_S (AA ad) s.heap H locs → lv_has ls 5 [(0, .ref (ad 28)), (1, .int x1)] → W p l e (headSpec wsX9_layWays ({ frames := 2, cells := 0, slots := 0, locals := 43 })).room s m ([.ref (ad 28)] : List Value).toArray below meth c H locs 0 0 (QI below r S2 D y ad ([.ref (ad 28)] : List Value).toArray s) (F0 m 141 ls [])) (k151 : St → Int32 → Option (Int32 × St)) (hk151 : ∀ (S : St) (x2 : Int32) (H : Heap) (locs : List Loc) (ls : Array Slot), k151 S x2 = some (r, S2) → PW D y ad S H → va_S (AA ad) s.heap H locs → lv_has ls 5 [(0, .ref (ad 28)), (1, .int x1), (2, .int x2)] → W p l e (headSpec wsX9_layWays ({ frames := 2, cells := 0, slots := 0, locals := 43 })).room s m ([.ref (ad 28)] : List Value).toArray below meth c H locs 0 0 (QI below r S2 D y ad ([.ref (ad 28)] : List Value).toArray s) (F0 m 151 ls [])) (k161 : St → Int32 → Option (Int32 × St)) (hk161 : ∀ (S : St) (x3 : Int32) (H : Heap) (locs : List Loc) (ls : Array Slot), k161 S x3 = some (r, S2) → PW D y ad S H → va_S (AA ad) s.heap H locs → lv_has ls 5 [(0, .ref (ad 28)), (1, .int x1), (2, .int x2), (3, .int x3)] → W p l e (headSpec wsX9_layWays ({ frames := 2, cells := 0, slots := 0, locals := 43 })).room s m ([.ref (ad 28)] : List Value).toArray below meth c H locs 0 0 (QI below r S2 D y ad ([.ref (ad 28)] : List Value).toArray s) (F0 m 161 ls [])), ∀ (S : St) (x3 : Int32) (H : Heap) (locs : List Loc) (ls : Array Slot), f_X9_layWays_209 n x1 x2 k141 k151 k161 S x3 = some (r, S2) → PW D y ad S H → va_S (AA ad) s.heap H locs → lv_has ls 5 [(0, .ref (ad 28)), (1, .int x1), (2, .int x2), (3, .int x3)] → W p l e (headSpec wsX9_layWays ({ frames := 2, cells := 0, slots := 0, locals := 43 })).room s m ([.ref (ad 28)] : List Value).toArray below meth c H locs 0 0 (QI below r S2 D y ad ([.ref (ad 28)] : List Value).toArray s) (F0 m 209 ls []) := by
    intro x1 x2 k141 hk141 k151 hk151 k161 hk161 S x3 H locs ls hf hP hS hl
    unfold f_X9_layWays_209 at hf
    refine lv_iconst (v := 0) hx hb dX9_layWays_209 (by decide) ?_
    exact j210 x1 x2 k141 hk141 k151 hk151 k161 hk161 S x3 ((0 : Int32)) _ _ _ hf hP hS (lv_sub hl [0, 1, 2, 3] rfl)
  have b161 : ∀ (x1 : Int32) (x2 : Int32) (k141 : St → Int32 → Option (Int32 × St)) (hk141 : ∀ (S : St) (x1 : Int32) (H : Heap) (locs : List Loc) (ls : Array Slot), k141 S x1 = some (r, S2) → PW D y ad S H → va_S (AA ad) s.heap H locs → lv_has ls 5 [(0, .ref (ad 28)), (1, .int x1)] → W p l e (headSpec wsX9_layWays ({ frames := 2, cells := 0, slots := 0, locals := 43 })).room s m ([.ref (ad 28)] : List Value).toArray below meth c H locs 0 0 (QI below r S2 D y ad ([.ref (ad 28)] : List Value).toArray s) (F0 m 141 ls [])) (k151 : St → Int32 → Option (Int32 × St)) (hk151 : ∀ (S : St) (x2 : Int32) (H : Heap) (locs : List Loc) (ls : Array Slot), k151 S x2 = some (r, S2) → PW D y ad S H → va_S (AA ad) s.heap H locs → lv_has ls 5 [(0, .ref (ad 28)), (1, .int x1), (2, .int x2)] → W p l e (headSpec wsX9_layWays ({ frames := 2, cells := 0, slots := 0, locals := 43 })).room s m ([.ref (ad 28)] : List Value).toArray below meth c H locs 0 0 (QI below r S2 D y ad ([.ref (ad 28)] : List Value).toArray s) (F0 m 151 ls [])) (k161 : St → Int32 → Option (Int32 × St)) (hk161 : ∀ (S : St) (x3 : Int32) (H : Heap) (locs : List Loc) (ls : Array Slot), k161 S x3 = some (r, S2) → PW D y ad S H → va_S (AA ad) s.heap H locs → lv_has ls 5 [(0, .ref (ad 28)), (1, .int x1), (2, .int x2), (3, .int x3)] → W p l e (headSpec wsX9_layWays ({ frames := 2, cells := 0, slots := 0, locals := 43 })).room s m ([.ref (ad 28)] : List Value).toArray below meth c H locs 0 0 (QI below r S2 D y ad ([.ref (ad 28)] : List Value).toArray s) (F0 m 161 ls [])), ∀ (S : St) (x3 : Int32) (H : Heap) (locs : List Loc) (ls : Array Slot), f_X9_layWays_161 n x1 x2 k141 k151 k161 S x3 = some (r, S2) → PW D y ad S H → va_S (AA ad) s.heap H locs → lv_has ls 5 [(0, .ref (ad 28)), (1, .int x1), (2, .int x2), (3, .int x3)] → W p l e (headSpec wsX9_layWays ({ frames := 2, cells := 0, slots := 0, locals := 43 })).room s m ([.ref (ad 28)] : List Value).toArray below meth c H locs 0 0 (QI below r S2 D y ad ([.ref (ad 28)] : List Value).toArray s) (F0 m 161 ls []) := by
    intro x1 x2 k141 hk141 k151 hk151 k161 hk161 S x3 H locs ls hf hP hS hl
    unfold f_X9_layWays_161 at hf
    refine lv_iload_n hx hb dX9_layWays_161 rfl (lv_at hl 3 rfl) ?_
    refine lv_aload_n hx hb dX9_layWays_162 rfl (lv_at hl 0 rfl) ?_
    refine w_gI (C := RX9) (T := TX9) hx hb hts n9 hown hK hP t_28 rfl 18 (by decide) L133 rfl dX9_layWays_163 ?_
    refine lv_icmp_ge (tgt := 285) hx hb dX9_layWays_166 (by decide) (fun b_13 => ?_) (fun b_13 => ?_)
    · have hf := if_t b_13 hf
      obtain ⟨x2_14, ex2_14, hf⟩ := bd_inv hf
      refine lv_iinc (v := x2_14) (lv' := [(2, .int x2_14), (0, .ref (ad 28)), (1, .int x1), (3, .int x3)]) hx hb dX9_layWays_285 hl (k := 2) rfl (by rw [ex2_14]; rfl) (by decide) rfl (fun ls hl => ?_)
      refine lv_goto (tgt := 151) hx hb dX9_layWays_288 (by decide) ?_
      exact hk151 S x2_14 _ _ _ hf hP hS (lv_sub hl [1, 2, 0] rfl)
    · have hf := if_f b_13 hf
      refine lv_aload_n hx hb dX9_layWays_169 rfl (lv_at hl 0 rfl) ?_
      refine w_gR (z := 42) (C := RX9) (T := TX9) hx hb hts n9 hown hK hP t_28 rfl 26 (by decide) L49 rfl rfl dX9_layWays_170 ?_
      refine lv_bipush (v := (10)) hx hb dX9_layWays_173 (by decide) ?_
      refine lv_iload_n hx hb dX9_layWays_175 rfl (lv_at hl 2 rfl) ?_
      refine lv_imul hx hb dX9_layWays_176 ?_
      refine lv_iload_n hx hb dX9_layWays_177 rfl (lv_at hl 1 rfl) ?_
      refine lv_iadd hx hb dX9_layWays_178 ?_
      obtain ⟨g_15, hf⟩ := gd_inv hf
      refine w_lald hx hb hK hP t_42 g_15 dX9_layWays_179 ?_
      refine lv_ldc2 (v := (1152921504606846976)) hx hb hown K176 dX9_layWays_180 ?_
      refine W.lcmp hx hb dX9_layWays_183 ?_
      refine lv_if_ge (tgt := 209) hx hb dX9_layWays_184 (by decide) (fun b_16 => ?_) (fun b_16 => ?_)
      · have hf := if_t b_16 hf
        exact j209 x1 x2 k141 hk141 k151 hk151 k161 hk161 S x3 _ _ _ hf hP hS (lv_sub hl [0, 1, 2, 3] rfl)
      · have hf := if_f b_16 hf
        refine lv_aload_n hx hb dX9_layWays_187 rfl (lv_at hl 0 rfl) ?_
        refine w_gR (z := 42) (C := RX9) (T := TX9) hx hb hts n9 hown hK hP t_28 rfl 26 (by decide) L49 rfl rfl dX9_layWays_188 ?_
        refine lv_bipush (v := (10)) hx hb dX9_layWays_191 (by decide) ?_
        refine lv_iload_n hx hb dX9_layWays_193 rfl (lv_at hl 1 rfl) ?_
        refine lv_imul hx hb dX9_layWays_194 ?_
        refine lv_iload_n hx hb dX9_layWays_195 rfl (lv_at hl 3 rfl) ?_
        refine lv_iadd hx hb dX9_layWays_196 ?_
        obtain ⟨g_17, hf⟩ := gd_inv hf
        refine w_lald hx hb hK hP t_42 g_17 dX9_layWays_197 ?_
        refine lv_ldc2 (v := (1152921504606846976)) hx hb hown K176 dX9_layWays_198 ?_
        refine W.lcmp hx hb dX9_layWays_201 ?_
        refine lv_if_ge (tgt := 209) hx hb dX9_layWays_202 (by decide) (fun b_18 => ?_) (fun b_18 => ?_)
        · have hf := if_t b_18 hf
          exact j209 x1 x2 k141 hk141 k151 hk151 k161 hk161 S x3 _ _ _ hf hP hS (lv_sub hl [0, 1, 2, 3] rfl)
        · have hf := if_f b_18 hf
          refine lv_iconst (v := 1) hx hb dX9_layWays_205 (by decide) ?_
          refine lv_goto (tgt := 210) hx hb dX9_layWays_206 (by decide) ?_
          exact j210 x1 x2 k141 hk141 k151 hk151 k161 hk161 S x3 ((1 : Int32)) _ _ _ hf hP hS (lv_sub hl [0, 1, 2, 3] rfl)
  have j161 : ∀ (x1 : Int32) (x2 : Int32) (k141 : St → Int32 → Option (Int32 × St)) (hk141 : ∀ (S : St) (x1 : Int32) (H : Heap) (locs : List Loc) (ls : Array Slot), k141 S x1 = some (r, S2) → PW D y ad S H → va_S (AA ad) s.heap H locs → lv_has ls 5 [(0, .ref (ad 28)), (1, .int x1)] → W p l e (headSpec wsX9_layWays ({ frames := 2, cells := 0, slots := 0, locals := 43 })).room s m ([.ref (ad 28)] : List Value).toArray below meth c H locs 0 0 (QI below r S2 D y ad ([.ref (ad 28)] : List Value).toArray s) (F0 m 141 ls [])) (k151 : St → Int32 → Option (Int32 × St)) (hk151 : ∀ (S : St) (x2 : Int32) (H : Heap) (locs : List Loc) (ls : Array Slot), k151 S x2 = some (r, S2) → PW D y ad S H → va_S (AA ad) s.heap H locs → lv_has ls 5 [(0, .ref (ad 28)), (1, .int x1), (2, .int x2)] → W p l e (headSpec wsX9_layWays ({ frames := 2, cells := 0, slots := 0, locals := 43 })).room s m ([.ref (ad 28)] : List Value).toArray below meth c H locs 0 0 (QI below r S2 D y ad ([.ref (ad 28)] : List Value).toArray s) (F0 m 151 ls [])) (fu : Nat), ∀ (S : St) (x3 : Int32) (H : Heap) (locs : List Loc) (ls : Array Slot), fixF (fun _ _ => none) (f_X9_layWays_161 n x1 x2 k141 k151) fu S x3 = some (r, S2) → PW D y ad S H → va_S (AA ad) s.heap H locs → lv_has ls 5 [(0, .ref (ad 28)), (1, .int x1), (2, .int x2), (3, .int x3)] → W p l e (headSpec wsX9_layWays ({ frames := 2, cells := 0, slots := 0, locals := 43 })).room s m ([.ref (ad 28)] : List Value).toArray below meth c H locs 0 0 (QI below r S2 D y ad ([.ref (ad 28)] : List Value).toArray s) (F0 m 161 ls []) := by
    intro x1 x2 k141 hk141 k151 hk151 fu
    induction fu with
    | zero => intro S x3 H locs ls hf hP hS hl; cases hf
    | succ fu ih => exact b161 x1 x2 k141 hk141 k151 hk151 (fixF (fun _ _ => none) (f_X9_layWays_161 n x1 x2 k141 k151) fu) ih
  have b151 : ∀ (x1 : Int32) (k141 : St → Int32 → Option (Int32 × St)) (hk141 : ∀ (S : St) (x1 : Int32) (H : Heap) (locs : List Loc) (ls : Array Slot), k141 S x1 = some (r, S2) → PW D y ad S H → va_S (AA ad) s.heap H locs → lv_has ls 5 [(0, .ref (ad 28)), (1, .int x1)] → W p l e (headSpec wsX9_layWays ({ frames := 2, cells := 0, slots := 0, locals := 43 })).room s m ([.ref (ad 28)] : List Value).toArray below meth c H locs 0 0 (QI below r S2 D y ad ([.ref (ad 28)] : List Value).toArray s) (F0 m 141 ls [])) (k151 : St → Int32 → Option (Int32 × St)) (hk151 : ∀ (S : St) (x2 : Int32) (H : Heap) (locs : List Loc) (ls : Array Slot), k151 S x2 = some (r, S2) → PW D y ad S H → va_S (AA ad) s.heap H locs → lv_has ls 5 [(0, .ref (ad 28)), (1, .int x1), (2, .int x2)] → W p l e (headSpec wsX9_layWays ({ frames := 2, cells := 0, slots := 0, locals := 43 })).room s m ([.ref (ad 28)] : List Value).toArray below meth c H locs 0 0 (QI below r S2 D y ad ([.ref (ad 28)] : List Value).toArray s) (F0 m 151 ls [])), ∀ (S : St) (x2 : Int32) (H : Heap) (locs : List Loc) (ls : Array Slot), f_X9_layWays_151 n x1 k141 k151 S x2 = some (r, S2) → PW D y ad S H → va_S (AA ad) s.heap H locs → lv_has ls 5 [(0, .ref (ad 28)), (1, .int x1), (2, .int x2)] → W p l e (headSpec wsX9_layWays ({ frames := 2, cells := 0, slots := 0, locals := 43 })).room s m ([.ref (ad 28)] : List Value).toArray below meth c H locs 0 0 (QI below r S2 D y ad ([.ref (ad 28)] : List Value).toArray s) (F0 m 151 ls []) := by
    intro x1 k141 hk141 k151 hk151 S x2 H locs ls hf hP hS hl
    unfold f_X9_layWays_151 at hf
    refine lv_iload_n hx hb dX9_layWays_151 rfl (lv_at hl 2 rfl) ?_
    refine lv_aload_n hx hb dX9_layWays_152 rfl (lv_at hl 0 rfl) ?_
    refine w_gI (C := RX9) (T := TX9) hx hb hts n9 hown hK hP t_28 rfl 18 (by decide) L133 rfl dX9_layWays_153 ?_
    refine lv_icmp_ge (tgt := 291) hx hb dX9_layWays_156 (by decide) (fun b_19 => ?_) (fun b_19 => ?_)
    · have hf := if_t b_19 hf
      refine lv_aload_n hx hb dX9_layWays_291 rfl (lv_at hl 0 rfl) ?_
      obtain ⟨r_20, S_21, hc_22, hf⟩ := bo_inv hf
      refine w_ci (va_runV (As := []) (rest := []) ⟨hx, hb, hml, hown, hts⟩ (c_X9_isBelowSomewhere l D y ad aL aU hI n S  _ _ hc_22) (cwV 0 hts gX9_layWays_X9_isBelowSomewhere rfl rfl rfl (by decide +kernel) ⟨Nat.le_of_ble_eq_true rfl, Nat.le_of_ble_eq_true rfl⟩) (pwu_V t_28 rfl hP hK hZ hS) rfl rfl hl.1 rfl (lv_room (Nat.le_of_ble_eq_true rfl)) dX9_layWays_292 ⟨Nat.zero_le _, Nat.zero_le _⟩) hS (fun H locs hP hS => ?_)
      refine lv_if_eq (tgt := 300) hx hb dX9_layWays_295 (by decide) (fun b_23 => ?_) (fun b_23 => ?_)
      · have hf := if_t b_23 hf
        obtain ⟨x1_24, ex1_24, hf⟩ := bd_inv hf
        refine lv_iinc (v := x1_24) (lv' := [(1, .int x1_24), (0, .ref (ad 28)), (2, .int x2)]) hx hb dX9_layWays_300 hl (k := 1) rfl (by rw [ex1_24]; rfl) (by decide) rfl (fun ls hl => ?_)
        refine lv_goto (tgt := 141) hx hb dX9_layWays_303 (by decide) ?_
        exact hk141 S_21 x1_24 _ _ _ hf hP hS (lv_sub hl [1, 0] rfl)
      · have hf := if_f b_23 hf
        refine lv_iconst (v := 1) hx hb dX9_layWays_298 (by decide) ?_
        exact w_zret hx hb hr hlocks (fun h => h (by decide)) hP hS (rt_inv hf) dX9_layWays_299
    · have hf := if_f b_19 hf
      refine lv_iconst (v := 0) hx hb dX9_layWays_159 (by decide) ?_
      obtain ⟨x3_25, ex3_25, hf⟩ := bd_inv hf
      refine w_topI ex3_25 ?_
      refine lv_istore_n (lv' := [(3, .int x3_25), (0, .ref (ad 28)), (1, .int x1), (2, .int x2)]) hx hb dX9_layWays_160 rfl hl (by decide) rfl (fun ls hl => ?_)
      exact j161 x1 x2 k141 hk141 k151 hk151 n S x3_25 _ _ _ hf hP hS (lv_sub hl [1, 2, 3, 0] rfl)
  have j151 : ∀ (x1 : Int32) (k141 : St → Int32 → Option (Int32 × St)) (hk141 : ∀ (S : St) (x1 : Int32) (H : Heap) (locs : List Loc) (ls : Array Slot), k141 S x1 = some (r, S2) → PW D y ad S H → va_S (AA ad) s.heap H locs → lv_has ls 5 [(0, .ref (ad 28)), (1, .int x1)] → W p l e (headSpec wsX9_layWays ({ frames := 2, cells := 0, slots := 0, locals := 43 })).room s m ([.ref (ad 28)] : List Value).toArray below meth c H locs 0 0 (QI below r S2 D y ad ([.ref (ad 28)] : List Value).toArray s) (F0 m 141 ls [])) (fu : Nat), ∀ (S : St) (x2 : Int32) (H : Heap) (locs : List Loc) (ls : Array Slot), fixF (fun _ _ => none) (f_X9_layWays_151 n x1 k141) fu S x2 = some (r, S2) → PW D y ad S H → va_S (AA ad) s.heap H locs → lv_has ls 5 [(0, .ref (ad 28)), (1, .int x1), (2, .int x2)] → W p l e (headSpec wsX9_layWays ({ frames := 2, cells := 0, slots := 0, locals := 43 })).room s m ([.ref (ad 28)] : List Value).toArray below meth c H locs 0 0 (QI below r S2 D y ad ([.ref (ad 28)] : List Value).toArray s) (F0 m 151 ls []) := by
    intro x1 k141 hk141 fu
    induction fu with
    | zero => intro S x2 H locs ls hf hP hS hl; cases hf
    | succ fu ih => exact b151 x1 k141 hk141 (fixF (fun _ _ => none) (f_X9_layWays_151 n x1 k141) fu) ih
  have b141 : ∀ (k141 : St → Int32 → Option (Int32 × St)) (hk141 : ∀ (S : St) (x1 : Int32) (H : Heap) (locs : List Loc) (ls : Array Slot), k141 S x1 = some (r, S2) → PW D y ad S H → va_S (AA ad) s.heap H locs → lv_has ls 5 [(0, .ref (ad 28)), (1, .int x1)] → W p l e (headSpec wsX9_layWays ({ frames := 2, cells := 0, slots := 0, locals := 43 })).room s m ([.ref (ad 28)] : List Value).toArray below meth c H locs 0 0 (QI below r S2 D y ad ([.ref (ad 28)] : List Value).toArray s) (F0 m 141 ls [])), ∀ (S : St) (x1 : Int32) (H : Heap) (locs : List Loc) (ls : Array Slot), f_X9_layWays_141 n k141 S x1 = some (r, S2) → PW D y ad S H → va_S (AA ad) s.heap H locs → lv_has ls 5 [(0, .ref (ad 28)), (1, .int x1)] → W p l e (headSpec wsX9_layWays ({ frames := 2, cells := 0, slots := 0, locals := 43 })).room s m ([.ref (ad 28)] : List Value).toArray below meth c H locs 0 0 (QI below r S2 D y ad ([.ref (ad 28)] : List Value).toArray s) (F0 m 141 ls []) := by
    intro  k141 hk141 S x1 H locs ls hf hP hS hl
    unfold f_X9_layWays_141 at hf
    refine lv_iload_n hx hb dX9_layWays_141 rfl (lv_at hl 1 rfl) ?_
    refine lv_aload_n hx hb dX9_layWays_142 rfl (lv_at hl 0 rfl) ?_
    refine w_gI (C := RX9) (T := TX9) hx hb hts n9 hown hK hP t_28 rfl 18 (by decide) L133 rfl dX9_layWays_143 ?_
    refine lv_icmp_ge (tgt := 306) hx hb dX9_layWays_146 (by decide) (fun b_26 => ?_) (fun b_26 => ?_)
    · have hf := if_t b_26 hf
      refine lv_iconst (v := 0) hx hb dX9_layWays_306 (by decide) ?_
      exact w_zret hx hb hr hlocks (fun h => h (by decide)) hP hS (rt_inv hf) dX9_layWays_307
    · have hf := if_f b_26 hf
      refine lv_iconst (v := 0) hx hb dX9_layWays_149 (by decide) ?_
      obtain ⟨x2_27, ex2_27, hf⟩ := bd_inv hf
      refine w_topI ex2_27 ?_
      refine lv_istore_n (lv' := [(2, .int x2_27), (0, .ref (ad 28)), (1, .int x1)]) hx hb dX9_layWays_150 rfl hl (by decide) rfl (fun ls hl => ?_)
      exact j151 x1 k141 hk141 n S x2_27 _ _ _ hf hP hS (lv_sub hl [1, 2, 0] rfl)
  have j141 : ∀ (fu : Nat), ∀ (S : St) (x1 : Int32) (H : Heap) (locs : List Loc) (ls : Array Slot), fixF (fun _ _ => none) (f_X9_layWays_141 n) fu S x1 = some (r, S2) → PW D y ad S H → va_S (AA ad) s.heap H locs → lv_has ls 5 [(0, .ref (ad 28)), (1, .int x1)] → W p l e (headSpec wsX9_layWays ({ frames := 2, cells := 0, slots := 0, locals := 43 })).room s m ([.ref (ad 28)] : List Value).toArray below meth c H locs 0 0 (QI below r S2 D y ad ([.ref (ad 28)] : List Value).toArray s) (F0 m 141 ls []) := by
    intro   fu
    induction fu with
    | zero => intro S x1 H locs ls hf hP hS hl; cases hf
    | succ fu ih => exact b141   (fixF (fun _ _ => none) (f_X9_layWays_141 n) fu) ih
  have j132 : ∀ (k67 : St → Int32 → Option (Int32 × St)) (hk67 : ∀ (S : St) (x1 : Int32) (H : Heap) (locs : List Loc) (ls : Array Slot), k67 S x1 = some (r, S2) → PW D y ad S H → va_S (AA ad) s.heap H locs → lv_has ls 5 [(0, .ref (ad 28)), (1, .int x1)] → W p l e (headSpec wsX9_layWays ({ frames := 2, cells := 0, slots := 0, locals := 43 })).room s m ([.ref (ad 28)] : List Value).toArray below meth c H locs 0 0 (QI below r S2 D y ad ([.ref (ad 28)] : List Value).toArray s) (F0 m 67 ls [])), ∀ (S : St) (x1 : Int32) (t1 : Int32) (t2 : Int64) (H : Heap) (locs : List Loc) (ls : Array Slot), f_X9_layWays_132 n k67 S x1 t1 t2 = some (r, S2) → PW D y ad S H → va_S (AA ad) s.heap H locs → lv_has ls 5 [(0, .ref (ad 28)), (1, .int x1)] → W p l e (headSpec wsX9_layWays ({ frames := 2, cells := 0, slots := 0, locals := 43 })).room s m ([.ref (ad 28)] : List Value).toArray below meth c H locs 0 0 (QI below r S2 D y ad ([.ref (ad 28)] : List Value).toArray s) (F0 m 132 ls [.long t2, .int t1, .ref (ad 42)]) := by
    intro  k67 hk67 S x1 t1 t2 H locs ls hf hP hS hl
    unfold f_X9_layWays_132 at hf
    obtain ⟨g_28, hf⟩ := gd_inv hf
    obtain ⟨S_29, eS_29, hf⟩ := bd_inv hf
    refine w_last hx hb hK hI hP hS t_42 g_28 dX9_layWays_132 (fun H locs hP hS => ?_)
    rw [← eS_29] at hP
    obtain ⟨x1_30, ex1_30, hf⟩ := bd_inv hf
    refine lv_iinc (v := x1_30) (lv' := [(1, .int x1_30), (0, .ref (ad 28))]) hx hb dX9_layWays_133 hl (k := 1) rfl (by rw [ex1_30]; rfl) (by decide) rfl (fun ls hl => ?_)
    refine lv_goto (tgt := 67) hx hb dX9_layWays_136 (by decide) ?_
    exact hk67 S_29 x1_30 _ _ _ hf hP hS (lv_sub hl [1, 0] rfl)
  have b67 : ∀ (k67 : St → Int32 → Option (Int32 × St)) (hk67 : ∀ (S : St) (x1 : Int32) (H : Heap) (locs : List Loc) (ls : Array Slot), k67 S x1 = some (r, S2) → PW D y ad S H → va_S (AA ad) s.heap H locs → lv_has ls 5 [(0, .ref (ad 28)), (1, .int x1)] → W p l e (headSpec wsX9_layWays ({ frames := 2, cells := 0, slots := 0, locals := 43 })).room s m ([.ref (ad 28)] : List Value).toArray below meth c H locs 0 0 (QI below r S2 D y ad ([.ref (ad 28)] : List Value).toArray s) (F0 m 67 ls [])), ∀ (S : St) (x1 : Int32) (H : Heap) (locs : List Loc) (ls : Array Slot), f_X9_layWays_67 n k67 S x1 = some (r, S2) → PW D y ad S H → va_S (AA ad) s.heap H locs → lv_has ls 5 [(0, .ref (ad 28)), (1, .int x1)] → W p l e (headSpec wsX9_layWays ({ frames := 2, cells := 0, slots := 0, locals := 43 })).room s m ([.ref (ad 28)] : List Value).toArray below meth c H locs 0 0 (QI below r S2 D y ad ([.ref (ad 28)] : List Value).toArray s) (F0 m 67 ls []) := by
    intro  k67 hk67 S x1 H locs ls hf hP hS hl
    unfold f_X9_layWays_67 at hf
    refine lv_iload_n hx hb dX9_layWays_67 rfl (lv_at hl 1 rfl) ?_
    refine lv_aload_n hx hb dX9_layWays_68 rfl (lv_at hl 0 rfl) ?_
    refine w_gI (C := RX9) (T := TX9) hx hb hts n9 hown hK hP t_28 rfl 2 (by decide) L141 rfl dX9_layWays_69 ?_
    refine lv_icmp_ge (tgt := 139) hx hb dX9_layWays_72 (by decide) (fun b_31 => ?_) (fun b_31 => ?_)
    · have hf := if_t b_31 hf
      refine lv_iconst (v := 0) hx hb dX9_layWays_139 (by decide) ?_
      obtain ⟨x1_32, ex1_32, hf⟩ := bd_inv hf
      refine w_topI ex1_32 ?_
      refine lv_istore_n (lv' := [(1, .int x1_32), (0, .ref (ad 28))]) hx hb dX9_layWays_140 rfl hl (by decide) rfl (fun ls hl => ?_)
      exact j141   n S x1_32 _ _ _ hf hP hS (lv_sub hl [1, 0] rfl)
    · have hf := if_f b_31 hf
      refine lv_bipush (v := (10)) hx hb dX9_layWays_75 (by decide) ?_
      refine lv_aload_n hx hb dX9_layWays_77 rfl (lv_at hl 0 rfl) ?_
      refine w_gR (z := 38) (C := RX9) (T := TX9) hx hb hts n9 hown hK hP t_28 rfl 22 (by decide) L37 rfl rfl dX9_layWays_78 ?_
      refine lv_iload_n hx hb dX9_layWays_81 rfl (lv_at hl 1 rfl) ?_
      obtain ⟨g_33, hf⟩ := gd_inv hf
      refine w_iald hx hb hK hP t_38 g_33 dX9_layWays_82 ?_
      refine lv_imul hx hb dX9_layWays_83 ?_
      refine lv_aload_n hx hb dX9_layWays_84 rfl (lv_at hl 0 rfl) ?_
      refine w_gR (z := 39) (C := RX9) (T := TX9) hx hb hts n9 hown hK hP t_28 rfl 23 (by decide) L40 rfl rfl dX9_layWays_85 ?_
      refine lv_iload_n hx hb dX9_layWays_88 rfl (lv_at hl 1 rfl) ?_
      obtain ⟨g_34, hf⟩ := gd_inv hf
      refine w_iald hx hb hK hP t_39 g_34 dX9_layWays_89 ?_
      refine lv_iadd hx hb dX9_layWays_90 ?_
      obtain ⟨x2_35, ex2_35, hf⟩ := bd_inv hf
      refine w_topI ex2_35 ?_
      refine lv_istore_n (lv' := [(2, .int x2_35), (0, .ref (ad 28)), (1, .int x1)]) hx hb dX9_layWays_91 rfl hl (by decide) rfl (fun ls hl => ?_)
      refine lv_aload_n hx hb dX9_layWays_92 rfl (lv_at hl 1 rfl) ?_
      refine w_gR (z := 42) (C := RX9) (T := TX9) hx hb hts n9 hown hK hP t_28 rfl 26 (by decide) L49 rfl rfl dX9_layWays_93 ?_
      refine lv_iload_n hx hb dX9_layWays_96 rfl (lv_at hl 0 rfl) ?_
      refine lv_aload_n hx hb dX9_layWays_97 rfl (lv_at hl 1 rfl) ?_
      refine w_gR (z := 32) (C := RX9) (T := TX9) hx hb hts n9 hown hK hP t_28 rfl 5 (by decide) L19 rfl rfl dX9_layWays_98 ?_
      refine lv_iload_n hx hb dX9_layWays_101 rfl (lv_at hl 2 rfl) ?_
      obtain ⟨g_36, hf⟩ := gd_inv hf
      refine w_iald hx hb hK hP t_32 g_36 dX9_layWays_102 ?_
      refine lv_iconst (v := 2) hx hb dX9_layWays_103 (by decide) ?_
      refine lv_icmp_ne (tgt := 126) hx hb dX9_layWays_104 (by decide) (fun b_37 => ?_) (fun b_37 => ?_)
      · have hf := if_f b_37 hf
        refine lv_aload_n hx hb dX9_layWays_126 rfl (lv_at hl 1 rfl) ?_
        refine w_gR (z := 42) (C := RX9) (T := TX9) hx hb hts n9 hown hK hP t_28 rfl 26 (by decide) L49 rfl rfl dX9_layWays_127 ?_
        refine lv_iload_n hx hb dX9_layWays_130 rfl (lv_at hl 0 rfl) ?_
        obtain ⟨g_38, hf⟩ := gd_inv hf
        refine w_lald hx hb hK hP t_42 g_38 dX9_layWays_131 ?_
        exact j132  k67 hk67 S x1 x2_35 ((S.2 42 (x2_35).toNatClampNeg)) _ _ _ hf hP hS (lv_sub hl [1, 2] rfl)
      · have hf := if_t b_37 hf
        refine lv_aload_n hx hb dX9_layWays_107 rfl (lv_at hl 1 rfl) ?_
        refine w_gR (z := 42) (C := RX9) (T := TX9) hx hb hts n9 hown hK hP t_28 rfl 26 (by decide) L49 rfl rfl dX9_layWays_108 ?_
        refine lv_iload_n hx hb dX9_layWays_111 rfl (lv_at hl 0 rfl) ?_
        obtain ⟨g_39, hf⟩ := gd_inv hf
        refine w_lald hx hb hK hP t_42 g_39 dX9_layWays_112 ?_
        refine lv_aload_n hx hb dX9_layWays_113 rfl (lv_at hl 1 rfl) ?_
        refine w_gR (z := 33) (C := RX9) (T := TX9) hx hb hts n9 hown hK hP t_28 rfl 6 (by decide) L22 rfl rfl dX9_layWays_114 ?_
        refine lv_iload_n hx hb dX9_layWays_117 rfl (lv_at hl 2 rfl) ?_
        obtain ⟨g_40, hf⟩ := gd_inv hf
        refine w_iald hx hb hK hP t_33 g_40 dX9_layWays_118 ?_
        refine lv_i2l hx hb dX9_layWays_119 rfl ?_
        obtain ⟨r_41, S_42, hc_43, hf⟩ := bo_inv hf
        refine w_cl (va_runS (As := [.long (S.2 42 (x2_35).toNatClampNeg), .long ((S.1 33 (x1).toNatClampNeg)).toInt64]) (rest := [.int x2_35, .ref (ad 42)]) ⟨hx, hb, hml, hown, hts⟩ (c_X9_least l D y ad aL aU hI n S ((S.2 42 (x2_35).toNatClampNeg)) (((S.1 33 (x1).toNatClampNeg)).toInt64) _ _ hc_43) (cwS 2 hts gX9_layWays_X9_least rfl rfl rfl (by decide +kernel) ⟨Nat.le_of_ble_eq_true rfl, Nat.le_of_ble_eq_true rfl⟩) (pwu_S hP hK hZ hS) rfl rfl hl.1 rfl (lv_room (Nat.le_of_ble_eq_true rfl)) dX9_layWays_120 ⟨Nat.zero_le _, Nat.zero_le _⟩) hS (fun H locs hP hS => ?_)
        refine lv_goto (tgt := 132) hx hb dX9_layWays_123 (by decide) ?_
        exact j132  k67 hk67 S_42 x1 x2_35 r_41 _ _ _ hf hP hS (lv_sub hl [1, 2] rfl)
  have j67 : ∀ (fu : Nat), ∀ (S : St) (x1 : Int32) (H : Heap) (locs : List Loc) (ls : Array Slot), fixF (fun _ _ => none) (f_X9_layWays_67 n) fu S x1 = some (r, S2) → PW D y ad S H → va_S (AA ad) s.heap H locs → lv_has ls 5 [(0, .ref (ad 28)), (1, .int x1)] → W p l e (headSpec wsX9_layWays ({ frames := 2, cells := 0, slots := 0, locals := 43 })).room s m ([.ref (ad 28)] : List Value).toArray below meth c H locs 0 0 (QI below r S2 D y ad ([.ref (ad 28)] : List Value).toArray s) (F0 m 67 ls []) := by
    intro   fu
    induction fu with
    | zero => intro S x1 H locs ls hf hP hS hl; cases hf
    | succ fu ih => exact b67   (fixF (fun _ _ => none) (f_X9_layWays_67 n) fu) ih
  have j52 : ∀ (x1 : Int32) (k2 : St → Int32 → Option (Int32 × St)) (hk2 : ∀ (S : St) (x1 : Int32) (H : Heap) (locs : List Loc) (ls : Array Slot), k2 S x1 = some (r, S2) → PW D y ad S H → va_S (AA ad) s.heap H locs → lv_has ls 5 [(0, .ref (ad 28)), (1, .int x1)] → W p l e (headSpec wsX9_layWays ({ frames := 2, cells := 0, slots := 0, locals := 43 })).room s m ([.ref (ad 28)] : List Value).toArray below meth c H locs 0 0 (QI below r S2 D y ad ([.ref (ad 28)] : List Value).toArray s) (F0 m 2 ls [])) (k12 : St → Int32 → Option (Int32 × St)) (hk12 : ∀ (S : St) (x2 : Int32) (H : Heap) (locs : List Loc) (ls : Array Slot), k12 S x2 = some (r, S2) → PW D y ad S H → va_S (AA ad) s.heap H locs → lv_has ls 5 [(0, .ref (ad 28)), (1, .int x1), (2, .int x2)] → W p l e (headSpec wsX9_layWays ({ frames := 2, cells := 0, slots := 0, locals := 43 })).room s m ([.ref (ad 28)] : List Value).toArray below meth c H locs 0 0 (QI below r S2 D y ad ([.ref (ad 28)] : List Value).toArray s) (F0 m 12 ls [])), ∀ (S : St) (x2 : Int32) (t1 : Int32) (t2 : Int64) (H : Heap) (locs : List Loc) (ls : Array Slot), f_X9_layWays_52 n x1 k2 k12 S x2 t1 t2 = some (r, S2) → PW D y ad S H → va_S (AA ad) s.heap H locs → lv_has ls 5 [(0, .ref (ad 28)), (1, .int x1), (2, .int x2)] → W p l e (headSpec wsX9_layWays ({ frames := 2, cells := 0, slots := 0, locals := 43 })).room s m ([.ref (ad 28)] : List Value).toArray below meth c H locs 0 0 (QI below r S2 D y ad ([.ref (ad 28)] : List Value).toArray s) (F0 m 52 ls [.long t2, .int t1, .ref (ad 42)]) := by
    intro x1 k2 hk2 k12 hk12 S x2 t1 t2 H locs ls hf hP hS hl
    unfold f_X9_layWays_52 at hf
    obtain ⟨g_44, hf⟩ := gd_inv hf
    obtain ⟨S_45, eS_45, hf⟩ := bd_inv hf
    refine w_last hx hb hK hI hP hS t_42 g_44 dX9_layWays_52 (fun H locs hP hS => ?_)
    rw [← eS_45] at hP
    obtain ⟨x2_46, ex2_46, hf⟩ := bd_inv hf
    refine lv_iinc (v := x2_46) (lv' := [(2, .int x2_46), (0, .ref (ad 28)), (1, .int x1)]) hx hb dX9_layWays_53 hl (k := 2) rfl (by rw [ex2_46]; rfl) (by decide) rfl (fun ls hl => ?_)
    refine lv_goto (tgt := 12) hx hb dX9_layWays_56 (by decide) ?_
    exact hk12 S_45 x2_46 _ _ _ hf hP hS (lv_sub hl [1, 2, 0] rfl)
  have b12 : ∀ (x1 : Int32) (k2 : St → Int32 → Option (Int32 × St)) (hk2 : ∀ (S : St) (x1 : Int32) (H : Heap) (locs : List Loc) (ls : Array Slot), k2 S x1 = some (r, S2) → PW D y ad S H → va_S (AA ad) s.heap H locs → lv_has ls 5 [(0, .ref (ad 28)), (1, .int x1)] → W p l e (headSpec wsX9_layWays ({ frames := 2, cells := 0, slots := 0, locals := 43 })).room s m ([.ref (ad 28)] : List Value).toArray below meth c H locs 0 0 (QI below r S2 D y ad ([.ref (ad 28)] : List Value).toArray s) (F0 m 2 ls [])) (k12 : St → Int32 → Option (Int32 × St)) (hk12 : ∀ (S : St) (x2 : Int32) (H : Heap) (locs : List Loc) (ls : Array Slot), k12 S x2 = some (r, S2) → PW D y ad S H → va_S (AA ad) s.heap H locs → lv_has ls 5 [(0, .ref (ad 28)), (1, .int x1), (2, .int x2)] → W p l e (headSpec wsX9_layWays ({ frames := 2, cells := 0, slots := 0, locals := 43 })).room s m ([.ref (ad 28)] : List Value).toArray below meth c H locs 0 0 (QI below r S2 D y ad ([.ref (ad 28)] : List Value).toArray s) (F0 m 12 ls [])), ∀ (S : St) (x2 : Int32) (H : Heap) (locs : List Loc) (ls : Array Slot), f_X9_layWays_12 n x1 k2 k12 S x2 = some (r, S2) → PW D y ad S H → va_S (AA ad) s.heap H locs → lv_has ls 5 [(0, .ref (ad 28)), (1, .int x1), (2, .int x2)] → W p l e (headSpec wsX9_layWays ({ frames := 2, cells := 0, slots := 0, locals := 43 })).room s m ([.ref (ad 28)] : List Value).toArray below meth c H locs 0 0 (QI below r S2 D y ad ([.ref (ad 28)] : List Value).toArray s) (F0 m 12 ls []) := by
    intro x1 k2 hk2 k12 hk12 S x2 H locs ls hf hP hS hl
    unfold f_X9_layWays_12 at hf
    refine lv_iload_n hx hb dX9_layWays_12 rfl (lv_at hl 2 rfl) ?_
    refine lv_aload_n hx hb dX9_layWays_13 rfl (lv_at hl 0 rfl) ?_
    refine w_gI (C := RX9) (T := TX9) hx hb hts n9 hown hK hP t_28 rfl 18 (by decide) L133 rfl dX9_layWays_14 ?_
    refine lv_icmp_ge (tgt := 59) hx hb dX9_layWays_17 (by decide) (fun b_47 => ?_) (fun b_47 => ?_)
    · have hf := if_t b_47 hf
      obtain ⟨x1_48, ex1_48, hf⟩ := bd_inv hf
      refine lv_iinc (v := x1_48) (lv' := [(1, .int x1_48), (0, .ref (ad 28)), (2, .int x2)]) hx hb dX9_layWays_59 hl (k := 1) rfl (by rw [ex1_48]; rfl) (by decide) rfl (fun ls hl => ?_)
      refine lv_goto (tgt := 2) hx hb dX9_layWays_62 (by decide) ?_
      exact hk2 S x1_48 _ _ _ hf hP hS (lv_sub hl [1, 0] rfl)
    · have hf := if_f b_47 hf
      refine lv_aload_n hx hb dX9_layWays_20 rfl (lv_at hl 0 rfl) ?_
      refine w_gR (z := 42) (C := RX9) (T := TX9) hx hb hts n9 hown hK hP t_28 rfl 26 (by decide) L49 rfl rfl dX9_layWays_21 ?_
      refine lv_bipush (v := (10)) hx hb dX9_layWays_24 (by decide) ?_
      refine lv_iload_n hx hb dX9_layWays_26 rfl (lv_at hl 1 rfl) ?_
      refine lv_imul hx hb dX9_layWays_27 ?_
      refine lv_iload_n hx hb dX9_layWays_28 rfl (lv_at hl 2 rfl) ?_
      refine lv_iadd hx hb dX9_layWays_29 ?_
      refine lv_aload_n hx hb dX9_layWays_30 rfl (lv_at hl 0 rfl) ?_
      refine w_gR (z := 41) (C := RX9) (T := TX9) hx hb hts n9 hown hK hP t_28 rfl 25 (by decide) L46 rfl rfl dX9_layWays_31 ?_
      refine lv_iload_n hx hb dX9_layWays_34 rfl (lv_at hl 1 rfl) ?_
      obtain ⟨g_49, hf⟩ := gd_inv hf
      refine w_iald hx hb hK hP t_41 g_49 dX9_layWays_35 ?_
      refine lv_aload_n hx hb dX9_layWays_36 rfl (lv_at hl 0 rfl) ?_
      refine w_gR (z := 41) (C := RX9) (T := TX9) hx hb hts n9 hown hK hP t_28 rfl 25 (by decide) L46 rfl rfl dX9_layWays_37 ?_
      refine lv_iload_n hx hb dX9_layWays_40 rfl (lv_at hl 2 rfl) ?_
      obtain ⟨g_50, hf⟩ := gd_inv hf
      refine w_iald hx hb hK hP t_41 g_50 dX9_layWays_41 ?_
      refine lv_icmp_ne (tgt := 49) hx hb dX9_layWays_42 (by decide) (fun b_51 => ?_) (fun b_51 => ?_)
      · have hf := if_f b_51 hf
        refine lv_ldc2 (v := (1152921504606846976)) hx hb hown K176 dX9_layWays_49 ?_
        exact j52 x1 k2 hk2 k12 hk12 S x2 ((((10 : Int32) * x1) + x2)) ((1152921504606846976 : Int64)) _ _ _ hf hP hS (lv_sub hl [0, 1, 2] rfl)
      · have hf := if_t b_51 hf
        refine lv_lconst (v := 0) hx hb dX9_layWays_45 (by decide) ?_
        refine lv_goto (tgt := 52) hx hb dX9_layWays_46 (by decide) ?_
        exact j52 x1 k2 hk2 k12 hk12 S x2 ((((10 : Int32) * x1) + x2)) ((0 : Int64)) _ _ _ hf hP hS (lv_sub hl [0, 1, 2] rfl)
  have j12 : ∀ (x1 : Int32) (k2 : St → Int32 → Option (Int32 × St)) (hk2 : ∀ (S : St) (x1 : Int32) (H : Heap) (locs : List Loc) (ls : Array Slot), k2 S x1 = some (r, S2) → PW D y ad S H → va_S (AA ad) s.heap H locs → lv_has ls 5 [(0, .ref (ad 28)), (1, .int x1)] → W p l e (headSpec wsX9_layWays ({ frames := 2, cells := 0, slots := 0, locals := 43 })).room s m ([.ref (ad 28)] : List Value).toArray below meth c H locs 0 0 (QI below r S2 D y ad ([.ref (ad 28)] : List Value).toArray s) (F0 m 2 ls [])) (fu : Nat), ∀ (S : St) (x2 : Int32) (H : Heap) (locs : List Loc) (ls : Array Slot), fixF (fun _ _ => none) (f_X9_layWays_12 n x1 k2) fu S x2 = some (r, S2) → PW D y ad S H → va_S (AA ad) s.heap H locs → lv_has ls 5 [(0, .ref (ad 28)), (1, .int x1), (2, .int x2)] → W p l e (headSpec wsX9_layWays ({ frames := 2, cells := 0, slots := 0, locals := 43 })).room s m ([.ref (ad 28)] : List Value).toArray below meth c H locs 0 0 (QI below r S2 D y ad ([.ref (ad 28)] : List Value).toArray s) (F0 m 12 ls []) := by
    intro x1 k2 hk2 fu
    induction fu with
    | zero => intro S x2 H locs ls hf hP hS hl; cases hf
    | succ fu ih => exact b12 x1 k2 hk2 (fixF (fun _ _ => none) (f_X9_layWays_12 n x1 k2) fu) ih
  have b2 : ∀ (k2 : St → Int32 → Option (Int32 × St)) (hk2 : ∀ (S : St) (x1 : Int32) (H : Heap) (locs : List Loc) (ls : Array Slot), k2 S x1 = some (r, S2) → PW D y ad S H → va_S (AA ad) s.heap H locs → lv_has ls 5 [(0, .ref (ad 28)), (1, .int x1)] → W p l e (headSpec wsX9_layWays ({ frames := 2, cells := 0, slots := 0, locals := 43 })).room s m ([.ref (ad 28)] : List Value).toArray below meth c H locs 0 0 (QI below r S2 D y ad ([.ref (ad 28)] : List Value).toArray s) (F0 m 2 ls [])), ∀ (S : St) (x1 : Int32) (H : Heap) (locs : List Loc) (ls : Array Slot), f_X9_layWays_2 n k2 S x1 = some (r, S2) → PW D y ad S H → va_S (AA ad) s.heap H locs → lv_has ls 5 [(0, .ref (ad 28)), (1, .int x1)] → W p l e (headSpec wsX9_layWays ({ frames := 2, cells := 0, slots := 0, locals := 43 })).room s m ([.ref (ad 28)] : List Value).toArray below meth c H locs 0 0 (QI below r S2 D y ad ([.ref (ad 28)] : List Value).toArray s) (F0 m 2 ls []) := by
    intro  k2 hk2 S x1 H locs ls hf hP hS hl
    unfold f_X9_layWays_2 at hf
    refine lv_iload_n hx hb dX9_layWays_2 rfl (lv_at hl 1 rfl) ?_
    refine lv_aload_n hx hb dX9_layWays_3 rfl (lv_at hl 0 rfl) ?_
    refine w_gI (C := RX9) (T := TX9) hx hb hts n9 hown hK hP t_28 rfl 18 (by decide) L133 rfl dX9_layWays_4 ?_
    refine lv_icmp_ge (tgt := 65) hx hb dX9_layWays_7 (by decide) (fun b_52 => ?_) (fun b_52 => ?_)
    · have hf := if_t b_52 hf
      refine lv_iconst (v := 0) hx hb dX9_layWays_65 (by decide) ?_
      obtain ⟨x1_53, ex1_53, hf⟩ := bd_inv hf
      refine w_topI ex1_53 ?_
      refine lv_istore_n (lv' := [(1, .int x1_53), (0, .ref (ad 28))]) hx hb dX9_layWays_66 rfl hl (by decide) rfl (fun ls hl => ?_)
      exact j67   n S x1_53 _ _ _ hf hP hS (lv_sub hl [1, 0] rfl)
    · have hf := if_f b_52 hf
      refine lv_iconst (v := 0) hx hb dX9_layWays_10 (by decide) ?_
      obtain ⟨x2_54, ex2_54, hf⟩ := bd_inv hf
      refine w_topI ex2_54 ?_
      refine lv_istore_n (lv' := [(2, .int x2_54), (0, .ref (ad 28)), (1, .int x1)]) hx hb dX9_layWays_11 rfl hl (by decide) rfl (fun ls hl => ?_)
      exact j12 x1 k2 hk2 n S x2_54 _ _ _ hf hP hS (lv_sub hl [1, 2, 0] rfl)
  have j2 : ∀ (fu : Nat), ∀ (S : St) (x1 : Int32) (H : Heap) (locs : List Loc) (ls : Array Slot), fixF (fun _ _ => none) (f_X9_layWays_2 n) fu S x1 = some (r, S2) → PW D y ad S H → va_S (AA ad) s.heap H locs → lv_has ls 5 [(0, .ref (ad 28)), (1, .int x1)] → W p l e (headSpec wsX9_layWays ({ frames := 2, cells := 0, slots := 0, locals := 43 })).room s m ([.ref (ad 28)] : List Value).toArray below meth c H locs 0 0 (QI below r S2 D y ad ([.ref (ad 28)] : List Value).toArray s) (F0 m 2 ls []) := by
    intro   fu
    induction fu with
    | zero => intro S x1 H locs ls hf hP hS hl; cases hf
    | succ fu ih => exact b2   (fixF (fun _ _ => none) (f_X9_layWays_2 n) fu) ih
  unfold f_X9_layWays at hf
  refine lv_iconst (v := 0) hx hb dX9_layWays_0 (by decide) ?_
  obtain ⟨x1_55, ex1_55, hf⟩ := bd_inv hf
  refine w_topI ex1_55 ?_
  refine lv_istore_n (lv' := [(1, .int x1_55), (0, .ref (ad 28))]) hx hb dX9_layWays_1 rfl hl (by decide) rfl (fun ls hl => ?_)
  exact j2   n S x1_55 _ _ _ hf hP hS (lv_sub hl [1, 0] rfl)
set_option maxHeartbeats 4000000 in
set_option maxRecDepth 100000 in
theorem c_X9_joinTight (l : Launch) (D : va_G) (y : y4) (ad : Nat → Nat) (aL aU : Nat) (hI : Inj ad) (n : Nat) (S : St) (r : Int32) (S2 : St) (hf : f_X9_joinTight n S = some (r, S2)) : KI l D y ad aL aU yX9_joinTight wsX9_joinTight ({ frames := 2, cells := 0, slots := 0, locals := 45 }) [.ref (ad 28)] S r S2 := by
  refine Met.ofW (cc := cX9_joinTight) (maxL := 5) (ret := (some .boolean)) (by decide) rfl ?_
  intro p e s m args below meth c s₁ B hml hv
  obtain ⟨rfl, hP, hK, hZ⟩ := hv
  have hx := B.exec
  have hb := B.bytes
  have hr := B.returns
  have hts := atoms_spec (ws := wsX9_joinTight) B.pre
  have hown : s.vm.findClass RX9 = some m.cls := findClass_of_methodNamed B.named
  have hlocks := B.notSynchronized
  have hS : va_S (AA ad) s.heap s.heap [] := va_S.rf
  have L46 := hts (.fieldLink RX9 46 "JoinedTheoriesModel" "sameOf" "[I") (by decide +kernel)
  have L49 := hts (.fieldLink RX9 49 "JoinedTheoriesModel" "ways" "[J") (by decide +kernel)
  have L133 := hts (.fieldLink RX9 133 "JoinedTheoriesModel" "terms" "I") (by decide +kernel)
  have K176 := hts (.constantLong RX9 176 (1152921504606846976)) (by decide +kernel)
  have n9 : ∀ w ∈ wsX90, w ∈ wsX9_joinTight := by decide +kernel
  have hl := lv_entry ([.ref (ad 28)]) (n := 5) (Nat.le_of_ble_eq_true rfl)
  rw [lg_entry_eq]
  generalize (lg_sl ([.ref (ad 28)]) ++ List.replicate (5 - (lg_sl ([.ref (ad 28)])).length) Slot.unset).toArray = ls at hl ⊢
  have hl : lv_has ls 5 [(0, .ref (ad 28))] := hl
  have j134 : ∀ (x2 : Int32) (k4 : St → Int32 → Int32 → Option (Int32 × St)) (hk4 : ∀ (S : St) (x1 : Int32) (x2 : Int32) (H : Heap) (locs : List Loc) (ls : Array Slot), k4 S x1 x2 = some (r, S2) → PW D y ad S H → va_S (AA ad) s.heap H locs → lv_has ls 5 [(0, .ref (ad 28)), (1, .int x1), (2, .int x2)] → W p l e (headSpec wsX9_joinTight ({ frames := 2, cells := 0, slots := 0, locals := 45 })).room s m ([.ref (ad 28)] : List Value).toArray below meth c H locs 0 0 (QI below r S2 D y ad ([.ref (ad 28)] : List Value).toArray s) (F0 m 4 ls [])) (k14 : St → Int32 → Int32 → Option (Int32 × St)) (hk14 : ∀ (S : St) (x1 : Int32) (x3 : Int32) (H : Heap) (locs : List Loc) (ls : Array Slot), k14 S x1 x3 = some (r, S2) → PW D y ad S H → va_S (AA ad) s.heap H locs → lv_has ls 5 [(0, .ref (ad 28)), (1, .int x1), (2, .int x2), (3, .int x3)] → W p l e (headSpec wsX9_joinTight ({ frames := 2, cells := 0, slots := 0, locals := 45 })).room s m ([.ref (ad 28)] : List Value).toArray below meth c H locs 0 0 (QI below r S2 D y ad ([.ref (ad 28)] : List Value).toArray s) (F0 m 14 ls [])), ∀ (S : St) (x1 : Int32) (x3 : Int32) (H : Heap) (locs : List Loc) (ls : Array Slot), f_X9_joinTight_134 n x2 k4 k14 S x1 x3 = some (r, S2) → PW D y ad S H → va_S (AA ad) s.heap H locs → lv_has ls 5 [(0, .ref (ad 28)), (1, .int x1), (2, .int x2), (3, .int x3)] → W p l e (headSpec wsX9_joinTight ({ frames := 2, cells := 0, slots := 0, locals := 45 })).room s m ([.ref (ad 28)] : List Value).toArray below meth c H locs 0 0 (QI below r S2 D y ad ([.ref (ad 28)] : List Value).toArray s) (F0 m 134 ls []) := by
    intro x2 k4 hk4 k14 hk14 S x1 x3 H locs ls hf hP hS hl
    unfold f_X9_joinTight_134 at hf
    obtain ⟨x3_1, ex3_1, hf⟩ := bd_inv hf
    refine lv_iinc (v := x3_1) (lv' := [(3, .int x3_1), (0, .ref (ad 28)), (1, .int x1), (2, .int x2)]) hx hb dX9_joinTight_134 hl (k := 3) rfl (by rw [ex3_1]; rfl) (by decide) rfl (fun ls hl => ?_)
    refine lv_goto (tgt := 14) hx hb dX9_joinTight_137 (by decide) ?_
    exact hk14 S x1 x3_1 _ _ _ hf hP hS (lv_sub hl [1, 2, 3, 0] rfl)
  have j60 : ∀ (x2 : Int32) (k4 : St → Int32 → Int32 → Option (Int32 × St)) (hk4 : ∀ (S : St) (x1 : Int32) (x2 : Int32) (H : Heap) (locs : List Loc) (ls : Array Slot), k4 S x1 x2 = some (r, S2) → PW D y ad S H → va_S (AA ad) s.heap H locs → lv_has ls 5 [(0, .ref (ad 28)), (1, .int x1), (2, .int x2)] → W p l e (headSpec wsX9_joinTight ({ frames := 2, cells := 0, slots := 0, locals := 45 })).room s m ([.ref (ad 28)] : List Value).toArray below meth c H locs 0 0 (QI below r S2 D y ad ([.ref (ad 28)] : List Value).toArray s) (F0 m 4 ls [])) (k14 : St → Int32 → Int32 → Option (Int32 × St)) (hk14 : ∀ (S : St) (x1 : Int32) (x3 : Int32) (H : Heap) (locs : List Loc) (ls : Array Slot), k14 S x1 x3 = some (r, S2) → PW D y ad S H → va_S (AA ad) s.heap H locs → lv_has ls 5 [(0, .ref (ad 28)), (1, .int x1), (2, .int x2), (3, .int x3)] → W p l e (headSpec wsX9_joinTight ({ frames := 2, cells := 0, slots := 0, locals := 45 })).room s m ([.ref (ad 28)] : List Value).toArray below meth c H locs 0 0 (QI below r S2 D y ad ([.ref (ad 28)] : List Value).toArray s) (F0 m 14 ls [])), ∀ (S : St) (x1 : Int32) (x3 : Int32) (t0 : Int32) (H : Heap) (locs : List Loc) (ls : Array Slot), f_X9_joinTight_60 n x2 k4 k14 S x1 x3 t0 = some (r, S2) → PW D y ad S H → va_S (AA ad) s.heap H locs → lv_has ls 5 [(0, .ref (ad 28)), (1, .int x1), (2, .int x2), (3, .int x3)] → W p l e (headSpec wsX9_joinTight ({ frames := 2, cells := 0, slots := 0, locals := 45 })).room s m ([.ref (ad 28)] : List Value).toArray below meth c H locs 0 0 (QI below r S2 D y ad ([.ref (ad 28)] : List Value).toArray s) (F0 m 60 ls [.int t0]) := by
    intro x2 k4 hk4 k14 hk14 S x1 x3 t0 H locs ls hf hP hS hl
    unfold f_X9_joinTight_60 at hf
    obtain ⟨x4_2, ex4_2, hf⟩ := bd_inv hf
    refine w_topI ex4_2 ?_
    refine lv_istore (lv' := [(4, .int x4_2), (0, .ref (ad 28)), (1, .int x1), (2, .int x2), (3, .int x3)]) hx hb dX9_joinTight_60 hl (by decide) rfl (fun ls hl => ?_)
    refine lv_iload hx hb dX9_joinTight_62 (lv_at hl 0 rfl) ?_
    refine lv_if_eq (tgt := 134) hx hb dX9_joinTight_64 (by decide) (fun b_3 => ?_) (fun b_3 => ?_)
    · have hf := if_t b_3 hf
      exact j134 x2 k4 hk4 k14 hk14 S x1 x3 _ _ _ hf hP hS (lv_sub hl [1, 2, 3, 4] rfl)
    · have hf := if_f b_3 hf
      refine lv_aload_n hx hb dX9_joinTight_67 rfl (lv_at hl 1 rfl) ?_
      refine w_gR (z := 41) (C := RX9) (T := TX9) hx hb hts n9 hown hK hP t_28 rfl 25 (by decide) L46 rfl rfl dX9_joinTight_68 ?_
      refine lv_iload_n hx hb dX9_joinTight_71 rfl (lv_at hl 3 rfl) ?_
      obtain ⟨g_4, hf⟩ := gd_inv hf
      refine w_iald hx hb hK hP t_41 g_4 dX9_joinTight_72 ?_
      refine lv_aload_n hx hb dX9_joinTight_73 rfl (lv_at hl 1 rfl) ?_
      refine w_gR (z := 41) (C := RX9) (T := TX9) hx hb hts n9 hown hK hP t_28 rfl 25 (by decide) L46 rfl rfl dX9_joinTight_74 ?_
      refine lv_iload_n hx hb dX9_joinTight_77 rfl (lv_at hl 4 rfl) ?_
      obtain ⟨g_5, hf⟩ := gd_inv hf
      refine w_iald hx hb hK hP t_41 g_5 dX9_joinTight_78 ?_
      refine lv_icmp_eq (tgt := 134) hx hb dX9_joinTight_79 (by decide) (fun b_6 => ?_) (fun b_6 => ?_)
      · have hf := if_t b_6 hf
        exact j134 x2 k4 hk4 k14 hk14 S x1 x3 _ _ _ hf hP hS (lv_sub hl [1, 2, 3, 4] rfl)
      · have hf := if_f b_6 hf
        refine lv_aload_n hx hb dX9_joinTight_82 rfl (lv_at hl 1 rfl) ?_
        refine w_gR (z := 42) (C := RX9) (T := TX9) hx hb hts n9 hown hK hP t_28 rfl 26 (by decide) L49 rfl rfl dX9_joinTight_83 ?_
        refine lv_bipush (v := (10)) hx hb dX9_joinTight_86 (by decide) ?_
        refine lv_iload_n hx hb dX9_joinTight_88 rfl (lv_at hl 3 rfl) ?_
        refine lv_imul hx hb dX9_joinTight_89 ?_
        refine lv_iload_n hx hb dX9_joinTight_90 rfl (lv_at hl 4 rfl) ?_
        refine lv_iadd hx hb dX9_joinTight_91 ?_
        obtain ⟨g_7, hf⟩ := gd_inv hf
        refine w_lald hx hb hK hP t_42 g_7 dX9_joinTight_92 ?_
        refine lv_aload_n hx hb dX9_joinTight_93 rfl (lv_at hl 1 rfl) ?_
        refine w_gR (z := 42) (C := RX9) (T := TX9) hx hb hts n9 hown hK hP t_28 rfl 26 (by decide) L49 rfl rfl dX9_joinTight_94 ?_
        refine lv_bipush (v := (10)) hx hb dX9_joinTight_97 (by decide) ?_
        refine lv_iload_n hx hb dX9_joinTight_99 rfl (lv_at hl 4 rfl) ?_
        refine lv_imul hx hb dX9_joinTight_100 ?_
        refine lv_iload_n hx hb dX9_joinTight_101 rfl (lv_at hl 3 rfl) ?_
        refine lv_iadd hx hb dX9_joinTight_102 ?_
        obtain ⟨g_8, hf⟩ := gd_inv hf
        refine w_lald hx hb hK hP t_42 g_8 dX9_joinTight_103 ?_
        refine lv_ladd hx hb dX9_joinTight_104 ?_
        refine lv_lconst (v := 0) hx hb dX9_joinTight_105 (by decide) ?_
        refine W.lcmp hx hb dX9_joinTight_106 ?_
        refine lv_if_ne (tgt := 134) hx hb dX9_joinTight_107 (by decide) (fun b_9 => ?_) (fun b_9 => ?_)
        · have hf := if_f b_9 hf
          exact j134 x2 k4 hk4 k14 hk14 S x1 x3 _ _ _ hf hP hS (lv_sub hl [1, 2, 3, 4] rfl)
        · have hf := if_t b_9 hf
          refine lv_aload_n hx hb dX9_joinTight_110 rfl (lv_at hl 1 rfl) ?_
          refine w_gR (z := 42) (C := RX9) (T := TX9) hx hb hts n9 hown hK hP t_28 rfl 26 (by decide) L49 rfl rfl dX9_joinTight_111 ?_
          refine lv_bipush (v := (10)) hx hb dX9_joinTight_114 (by decide) ?_
          refine lv_iload_n hx hb dX9_joinTight_116 rfl (lv_at hl 3 rfl) ?_
          refine lv_imul hx hb dX9_joinTight_117 ?_
          refine lv_iload_n hx hb dX9_joinTight_118 rfl (lv_at hl 4 rfl) ?_
          refine lv_iadd hx hb dX9_joinTight_119 ?_
          obtain ⟨g_10, hf⟩ := gd_inv hf
          refine w_lald hx hb hK hP t_42 g_10 dX9_joinTight_120 ?_
          refine lv_lconst (v := 0) hx hb dX9_joinTight_121 (by decide) ?_
          refine W.lcmp hx hb dX9_joinTight_122 ?_
          refine lv_if_ne (tgt := 134) hx hb dX9_joinTight_123 (by decide) (fun b_11 => ?_) (fun b_11 => ?_)
          · have hf := if_f b_11 hf
            exact j134 x2 k4 hk4 k14 hk14 S x1 x3 _ _ _ hf hP hS (lv_sub hl [1, 2, 3, 4] rfl)
          · have hf := if_t b_11 hf
            refine lv_aload_n hx hb dX9_joinTight_126 rfl (lv_at hl 1 rfl) ?_
            refine lv_iload_n hx hb dX9_joinTight_127 rfl (lv_at hl 3 rfl) ?_
            refine lv_iload_n hx hb dX9_joinTight_128 rfl (lv_at hl 4 rfl) ?_
            obtain ⟨r_12, S_13, hc_14, hf⟩ := bo_inv hf
            refine w_cv (va_runV (As := [.int x2, .int x3]) (rest := []) ⟨hx, hb, hml, hown, hts⟩ (c_X9_join l D y ad aL aU hI n S x2 x3 _ _ hc_14) (cwV 2 hts gX9_joinTight_X9_join rfl rfl rfl (by decide +kernel) ⟨Nat.le_of_ble_eq_true rfl, Nat.le_of_ble_eq_true rfl⟩) (pwu_V t_28 rfl hP hK hZ hS) rfl rfl hl.1 rfl (lv_room (Nat.le_of_ble_eq_true rfl)) dX9_joinTight_129 ⟨Nat.zero_le _, Nat.zero_le _⟩) hS (fun H locs hP hS => ?_)
            refine lv_iconst (v := 1) hx hb dX9_joinTight_132 (by decide) ?_
            obtain ⟨x1_15, ex1_15, hf⟩ := bd_inv hf
            refine w_topI ex1_15 ?_
            refine lv_istore_n (lv' := [(1, .int x1_15), (4, .int x4_2), (0, .ref (ad 28)), (2, .int x2), (3, .int x3)]) hx hb dX9_joinTight_133 rfl hl (by decide) rfl (fun ls hl => ?_)
            exact j134 x2 k4 hk4 k14 hk14 S_13 x1_15 x3 _ _ _ hf hP hS (lv_sub hl [2, 0, 3, 4] rfl)
  have j59 : ∀ (x2 : Int32) (k4 : St → Int32 → Int32 → Option (Int32 × St)) (hk4 : ∀ (S : St) (x1 : Int32) (x2 : Int32) (H : Heap) (locs : List Loc) (ls : Array Slot), k4 S x1 x2 = some (r, S2) → PW D y ad S H → va_S (AA ad) s.heap H locs → lv_has ls 5 [(0, .ref (ad 28)), (1, .int x1), (2, .int x2)] → W p l e (headSpec wsX9_joinTight ({ frames := 2, cells := 0, slots := 0, locals := 45 })).room s m ([.ref (ad 28)] : List Value).toArray below meth c H locs 0 0 (QI below r S2 D y ad ([.ref (ad 28)] : List Value).toArray s) (F0 m 4 ls [])) (k14 : St → Int32 → Int32 → Option (Int32 × St)) (hk14 : ∀ (S : St) (x1 : Int32) (x3 : Int32) (H : Heap) (locs : List Loc) (ls : Array Slot), k14 S x1 x3 = some (r, S2) → PW D y ad S H → va_S (AA ad) s.heap H locs → lv_has ls 5 [(0, .ref (ad 28)), (1, .int x1), (2, .int x2), (3, .int x3)] → W p l e (headSpec wsX9_joinTight ({ frames := 2, cells := 0, slots := 0, locals := 45 })).room s m ([.ref (ad 28)] : List Value).toArray below meth c H locs 0 0 (QI below r S2 D y ad ([.ref (ad 28)] : List Value).toArray s) (F0 m 14 ls [])), ∀ (S : St) (x1 : Int32) (x3 : Int32) (H : Heap) (locs : List Loc) (ls : Array Slot), f_X9_joinTight_59 n x2 k4 k14 S x1 x3 = some (r, S2) → PW D y ad S H → va_S (AA ad) s.heap H locs → lv_has ls 5 [(0, .ref (ad 28)), (1, .int x1), (2, .int x2), (3, .int x3)] → W p l e (headSpec wsX9_joinTight ({ frames := 2, cells := 0, slots := 0, locals := 45 })).room s m ([.ref (ad 28)] : List Value).toArray below meth c H locs 0 0 (QI below r S2 D y ad ([.ref (ad 28)] : List Value).toArray s) (F0 m 59 ls []) := by
    intro x2 k4 hk4 k14 hk14 S x1 x3 H locs ls hf hP hS hl
    unfold f_X9_joinTight_59 at hf
    refine lv_iconst (v := 0) hx hb dX9_joinTight_59 (by decide) ?_
    exact j60 x2 k4 hk4 k14 hk14 S x1 x3 ((0 : Int32)) _ _ _ hf hP hS (lv_sub hl [0, 1, 2, 3] rfl)
  have b14 : ∀ (x2 : Int32) (k4 : St → Int32 → Int32 → Option (Int32 × St)) (hk4 : ∀ (S : St) (x1 : Int32) (x2 : Int32) (H : Heap) (locs : List Loc) (ls : Array Slot), k4 S x1 x2 = some (r, S2) → PW D y ad S H → va_S (AA ad) s.heap H locs → lv_has ls 5 [(0, .ref (ad 28)), (1, .int x1), (2, .int x2)] → W p l e (headSpec wsX9_joinTight ({ frames := 2, cells := 0, slots := 0, locals := 45 })).room s m ([.ref (ad 28)] : List Value).toArray below meth c H locs 0 0 (QI below r S2 D y ad ([.ref (ad 28)] : List Value).toArray s) (F0 m 4 ls [])) (k14 : St → Int32 → Int32 → Option (Int32 × St)) (hk14 : ∀ (S : St) (x1 : Int32) (x3 : Int32) (H : Heap) (locs : List Loc) (ls : Array Slot), k14 S x1 x3 = some (r, S2) → PW D y ad S H → va_S (AA ad) s.heap H locs → lv_has ls 5 [(0, .ref (ad 28)), (1, .int x1), (2, .int x2), (3, .int x3)] → W p l e (headSpec wsX9_joinTight ({ frames := 2, cells := 0, slots := 0, locals := 45 })).room s m ([.ref (ad 28)] : List Value).toArray below meth c H locs 0 0 (QI below r S2 D y ad ([.ref (ad 28)] : List Value).toArray s) (F0 m 14 ls [])), ∀ (S : St) (x1 : Int32) (x3 : Int32) (H : Heap) (locs : List Loc) (ls : Array Slot), f_X9_joinTight_14 n x2 k4 k14 S x1 x3 = some (r, S2) → PW D y ad S H → va_S (AA ad) s.heap H locs → lv_has ls 5 [(0, .ref (ad 28)), (1, .int x1), (2, .int x2), (3, .int x3)] → W p l e (headSpec wsX9_joinTight ({ frames := 2, cells := 0, slots := 0, locals := 45 })).room s m ([.ref (ad 28)] : List Value).toArray below meth c H locs 0 0 (QI below r S2 D y ad ([.ref (ad 28)] : List Value).toArray s) (F0 m 14 ls []) := by
    intro x2 k4 hk4 k14 hk14 S x1 x3 H locs ls hf hP hS hl
    unfold f_X9_joinTight_14 at hf
    refine lv_iload_n hx hb dX9_joinTight_14 rfl (lv_at hl 3 rfl) ?_
    refine lv_iload_n hx hb dX9_joinTight_15 rfl (lv_at hl 2 rfl) ?_
    refine lv_icmp_ge (tgt := 140) hx hb dX9_joinTight_16 (by decide) (fun b_16 => ?_) (fun b_16 => ?_)
    · have hf := if_t b_16 hf
      obtain ⟨x2_17, ex2_17, hf⟩ := bd_inv hf
      refine lv_iinc (v := x2_17) (lv' := [(2, .int x2_17), (0, .ref (ad 28)), (1, .int x1), (3, .int x3)]) hx hb dX9_joinTight_140 hl (k := 2) rfl (by rw [ex2_17]; rfl) (by decide) rfl (fun ls hl => ?_)
      refine lv_goto (tgt := 4) hx hb dX9_joinTight_143 (by decide) ?_
      exact hk4 S x1 x2_17 _ _ _ hf hP hS (lv_sub hl [1, 2, 0] rfl)
    · have hf := if_f b_16 hf
      refine lv_aload_n hx hb dX9_joinTight_19 rfl (lv_at hl 0 rfl) ?_
      refine w_gR (z := 42) (C := RX9) (T := TX9) hx hb hts n9 hown hK hP t_28 rfl 26 (by decide) L49 rfl rfl dX9_joinTight_20 ?_
      refine lv_bipush (v := (10)) hx hb dX9_joinTight_23 (by decide) ?_
      refine lv_iload_n hx hb dX9_joinTight_25 rfl (lv_at hl 2 rfl) ?_
      refine lv_imul hx hb dX9_joinTight_26 ?_
      refine lv_iload_n hx hb dX9_joinTight_27 rfl (lv_at hl 3 rfl) ?_
      refine lv_iadd hx hb dX9_joinTight_28 ?_
      obtain ⟨g_18, hf⟩ := gd_inv hf
      refine w_lald hx hb hK hP t_42 g_18 dX9_joinTight_29 ?_
      refine lv_ldc2 (v := (1152921504606846976)) hx hb hown K176 dX9_joinTight_30 ?_
      refine W.lcmp hx hb dX9_joinTight_33 ?_
      refine lv_if_ge (tgt := 59) hx hb dX9_joinTight_34 (by decide) (fun b_19 => ?_) (fun b_19 => ?_)
      · have hf := if_t b_19 hf
        exact j59 x2 k4 hk4 k14 hk14 S x1 x3 _ _ _ hf hP hS (lv_sub hl [0, 1, 2, 3] rfl)
      · have hf := if_f b_19 hf
        refine lv_aload_n hx hb dX9_joinTight_37 rfl (lv_at hl 0 rfl) ?_
        refine w_gR (z := 42) (C := RX9) (T := TX9) hx hb hts n9 hown hK hP t_28 rfl 26 (by decide) L49 rfl rfl dX9_joinTight_38 ?_
        refine lv_bipush (v := (10)) hx hb dX9_joinTight_41 (by decide) ?_
        refine lv_iload_n hx hb dX9_joinTight_43 rfl (lv_at hl 3 rfl) ?_
        refine lv_imul hx hb dX9_joinTight_44 ?_
        refine lv_iload_n hx hb dX9_joinTight_45 rfl (lv_at hl 2 rfl) ?_
        refine lv_iadd hx hb dX9_joinTight_46 ?_
        obtain ⟨g_20, hf⟩ := gd_inv hf
        refine w_lald hx hb hK hP t_42 g_20 dX9_joinTight_47 ?_
        refine lv_ldc2 (v := (1152921504606846976)) hx hb hown K176 dX9_joinTight_48 ?_
        refine W.lcmp hx hb dX9_joinTight_51 ?_
        refine lv_if_ge (tgt := 59) hx hb dX9_joinTight_52 (by decide) (fun b_21 => ?_) (fun b_21 => ?_)
        · have hf := if_t b_21 hf
          exact j59 x2 k4 hk4 k14 hk14 S x1 x3 _ _ _ hf hP hS (lv_sub hl [0, 1, 2, 3] rfl)
        · have hf := if_f b_21 hf
          refine lv_iconst (v := 1) hx hb dX9_joinTight_55 (by decide) ?_
          refine lv_goto (tgt := 60) hx hb dX9_joinTight_56 (by decide) ?_
          exact j60 x2 k4 hk4 k14 hk14 S x1 x3 ((1 : Int32)) _ _ _ hf hP hS (lv_sub hl [0, 1, 2, 3] rfl)
  have j14 : ∀ (x2 : Int32) (k4 : St → Int32 → Int32 → Option (Int32 × St)) (hk4 : ∀ (S : St) (x1 : Int32) (x2 : Int32) (H : Heap) (locs : List Loc) (ls : Array Slot), k4 S x1 x2 = some (r, S2) → PW D y ad S H → va_S (AA ad) s.heap H locs → lv_has ls 5 [(0, .ref (ad 28)), (1, .int x1), (2, .int x2)] → W p l e (headSpec wsX9_joinTight ({ frames := 2, cells := 0, slots := 0, locals := 45 })).room s m ([.ref (ad 28)] : List Value).toArray below meth c H locs 0 0 (QI below r S2 D y ad ([.ref (ad 28)] : List Value).toArray s) (F0 m 4 ls [])) (fu : Nat), ∀ (S : St) (x1 : Int32) (x3 : Int32) (H : Heap) (locs : List Loc) (ls : Array Slot), fixF (fun _ _ _ => none) (f_X9_joinTight_14 n x2 k4) fu S x1 x3 = some (r, S2) → PW D y ad S H → va_S (AA ad) s.heap H locs → lv_has ls 5 [(0, .ref (ad 28)), (1, .int x1), (2, .int x2), (3, .int x3)] → W p l e (headSpec wsX9_joinTight ({ frames := 2, cells := 0, slots := 0, locals := 45 })).room s m ([.ref (ad 28)] : List Value).toArray below meth c H locs 0 0 (QI below r S2 D y ad ([.ref (ad 28)] : List Value).toArray s) (F0 m 14 ls []) := by
    intro x2 k4 hk4 fu
    induction fu with
    | zero => intro S x1 x3 H locs ls hf hP hS hl; cases hf
    | succ fu ih => exact b14 x2 k4 hk4 (fixF (fun _ _ _ => none) (f_X9_joinTight_14 n x2 k4) fu) ih
  have b4 : ∀ (k4 : St → Int32 → Int32 → Option (Int32 × St)) (hk4 : ∀ (S : St) (x1 : Int32) (x2 : Int32) (H : Heap) (locs : List Loc) (ls : Array Slot), k4 S x1 x2 = some (r, S2) → PW D y ad S H → va_S (AA ad) s.heap H locs → lv_has ls 5 [(0, .ref (ad 28)), (1, .int x1), (2, .int x2)] → W p l e (headSpec wsX9_joinTight ({ frames := 2, cells := 0, slots := 0, locals := 45 })).room s m ([.ref (ad 28)] : List Value).toArray below meth c H locs 0 0 (QI below r S2 D y ad ([.ref (ad 28)] : List Value).toArray s) (F0 m 4 ls [])), ∀ (S : St) (x1 : Int32) (x2 : Int32) (H : Heap) (locs : List Loc) (ls : Array Slot), f_X9_joinTight_4 n k4 S x1 x2 = some (r, S2) → PW D y ad S H → va_S (AA ad) s.heap H locs → lv_has ls 5 [(0, .ref (ad 28)), (1, .int x1), (2, .int x2)] → W p l e (headSpec wsX9_joinTight ({ frames := 2, cells := 0, slots := 0, locals := 45 })).room s m ([.ref (ad 28)] : List Value).toArray below meth c H locs 0 0 (QI below r S2 D y ad ([.ref (ad 28)] : List Value).toArray s) (F0 m 4 ls []) := by
    intro  k4 hk4 S x1 x2 H locs ls hf hP hS hl
    unfold f_X9_joinTight_4 at hf
    refine lv_iload_n hx hb dX9_joinTight_4 rfl (lv_at hl 2 rfl) ?_
    refine lv_aload_n hx hb dX9_joinTight_5 rfl (lv_at hl 0 rfl) ?_
    refine w_gI (C := RX9) (T := TX9) hx hb hts n9 hown hK hP t_28 rfl 18 (by decide) L133 rfl dX9_joinTight_6 ?_
    refine lv_icmp_ge (tgt := 146) hx hb dX9_joinTight_9 (by decide) (fun b_22 => ?_) (fun b_22 => ?_)
    · have hf := if_t b_22 hf
      refine lv_iload_n hx hb dX9_joinTight_146 rfl (lv_at hl 1 rfl) ?_
      obtain ⟨g_23, hf⟩ := gd_inv hf
      exact w_zret hx hb hr hlocks g_23 hP hS (rt_inv hf) dX9_joinTight_147
    · have hf := if_f b_22 hf
      refine lv_iconst (v := 0) hx hb dX9_joinTight_12 (by decide) ?_
      obtain ⟨x3_24, ex3_24, hf⟩ := bd_inv hf
      refine w_topI ex3_24 ?_
      refine lv_istore_n (lv' := [(3, .int x3_24), (0, .ref (ad 28)), (1, .int x1), (2, .int x2)]) hx hb dX9_joinTight_13 rfl hl (by decide) rfl (fun ls hl => ?_)
      exact j14 x2 k4 hk4 n S x1 x3_24 _ _ _ hf hP hS (lv_sub hl [1, 2, 3, 0] rfl)
  have j4 : ∀ (fu : Nat), ∀ (S : St) (x1 : Int32) (x2 : Int32) (H : Heap) (locs : List Loc) (ls : Array Slot), fixF (fun _ _ _ => none) (f_X9_joinTight_4 n) fu S x1 x2 = some (r, S2) → PW D y ad S H → va_S (AA ad) s.heap H locs → lv_has ls 5 [(0, .ref (ad 28)), (1, .int x1), (2, .int x2)] → W p l e (headSpec wsX9_joinTight ({ frames := 2, cells := 0, slots := 0, locals := 45 })).room s m ([.ref (ad 28)] : List Value).toArray below meth c H locs 0 0 (QI below r S2 D y ad ([.ref (ad 28)] : List Value).toArray s) (F0 m 4 ls []) := by
    intro   fu
    induction fu with
    | zero => intro S x1 x2 H locs ls hf hP hS hl; cases hf
    | succ fu ih => exact b4   (fixF (fun _ _ _ => none) (f_X9_joinTight_4 n) fu) ih
  unfold f_X9_joinTight at hf
  refine lv_iconst (v := 0) hx hb dX9_joinTight_0 (by decide) ?_
  obtain ⟨x1_25, ex1_25, hf⟩ := bd_inv hf
  refine w_topI ex1_25 ?_
  refine lv_istore_n (lv' := [(1, .int x1_25), (0, .ref (ad 28))]) hx hb dX9_joinTight_1 rfl hl (by decide) rfl (fun ls hl => ?_)
  refine lv_iconst (v := 0) hx hb dX9_joinTight_2 (by decide) ?_
  obtain ⟨x2_26, ex2_26, hf⟩ := bd_inv hf
  refine w_topI ex2_26 ?_
  refine lv_istore_n (lv' := [(2, .int x2_26), (1, .int x1_25), (0, .ref (ad 28))]) hx hb dX9_joinTight_3 rfl hl (by decide) rfl (fun ls hl => ?_)
  exact j4   n S x1_25 x2_26 _ _ _ hf hP hS (lv_sub hl [2, 1, 0] rfl)
set_option maxHeartbeats 4000000 in
set_option maxRecDepth 100000 in
theorem c_X9_layExchange (l : Launch) (D : va_G) (y : y4) (ad : Nat → Nat) (aL aU : Nat) (hI : Inj ad) (n : Nat) (S : St) (r : Unit) (S2 : St) (hf : f_X9_layExchange n S = some (r, S2)) : KV l D y ad aL aU yX9_layExchange wsX9_layExchange ({ frames := 3, cells := 0, slots := 0, locals := 69 }) [.ref (ad 28)] S r S2 := by
  refine Met.ofW (cc := cX9_layExchange) (maxL := 3) (ret := none) (by decide) rfl ?_
  intro p e s m args below meth c s₁ B hml hv
  obtain ⟨rfl, hP, hK, hZ⟩ := hv
  have hx := B.exec
  have hb := B.bytes
  have hr := B.returns
  have hts := atoms_spec (ws := wsX9_layExchange) B.pre
  have hown : s.vm.findClass RX9 = some m.cls := findClass_of_methodNamed B.named
  have hlocks := B.notSynchronized
  have hS : va_S (AA ad) s.heap s.heap [] := va_S.rf
  have L19 := hts (.fieldLink RX9 19 "JoinedTheoriesModel" "sortOf" "[I") (by decide +kernel)
  have L37 := hts (.fieldLink RX9 37 "JoinedTheoriesModel" "leftOf" "[I") (by decide +kernel)
  have L40 := hts (.fieldLink RX9 40 "JoinedTheoriesModel" "rightOf" "[I") (by decide +kernel)
  have L46 := hts (.fieldLink RX9 46 "JoinedTheoriesModel" "sameOf" "[I") (by decide +kernel)
  have L133 := hts (.fieldLink RX9 133 "JoinedTheoriesModel" "terms" "I") (by decide +kernel)
  have L141 := hts (.fieldLink RX9 141 "JoinedTheoriesModel" "literals" "I") (by decide +kernel)
  have L185 := hts (.fieldLink RX9 185 "JoinedTheoriesModel" "rounds" "I") (by decide +kernel)
  have L188 := hts (.fieldLink RX9 188 "JoinedTheoriesModel" "isClash" "Z") (by decide +kernel)
  have n9 : ∀ w ∈ wsX90, w ∈ wsX9_layExchange := by decide +kernel
  have hl := lv_entry ([.ref (ad 28)]) (n := 3) (Nat.le_of_ble_eq_true rfl)
  rw [lg_entry_eq]
  generalize (lg_sl ([.ref (ad 28)]) ++ List.replicate (3 - (lg_sl ([.ref (ad 28)])).length) Slot.unset).toArray = ls at hl ⊢
  have hl : lv_has ls 3 [(0, .ref (ad 28))] := hl
  have j183 : ∀ (k127 : St → Int32 → Option (Unit × St)) (hk127 : ∀ (S : St) (x2 : Int32) (H : Heap) (locs : List Loc) (ls : Array Slot), k127 S x2 = some (r, S2) → PW D y ad S H → va_S (AA ad) s.heap H locs → lv_has ls 3 [(0, .ref (ad 28)), (2, .int x2)] → W p l e (headSpec wsX9_layExchange ({ frames := 3, cells := 0, slots := 0, locals := 69 })).room s m ([.ref (ad 28)] : List Value).toArray below meth c H locs 0 0 (QV below r S2 D y ad ([.ref (ad 28)] : List Value).toArray s) (F0 m 127 ls [])), ∀ (S : St) (x2 : Int32) (t1 : Int32) (H : Heap) (locs : List Loc) (ls : Array Slot), f_X9_layExchange_183 n k127 S x2 t1 = some (r, S2) → PW D y ad S H → va_S (AA ad) s.heap H locs → lv_has ls 3 [(0, .ref (ad 28)), (2, .int x2)] → W p l e (headSpec wsX9_layExchange ({ frames := 3, cells := 0, slots := 0, locals := 69 })).room s m ([.ref (ad 28)] : List Value).toArray below meth c H locs 0 0 (QV below r S2 D y ad ([.ref (ad 28)] : List Value).toArray s) (F0 m 183 ls [.int t1, .ref (ad 28)]) := by
    intro  k127 hk127 S x2 t1 H locs ls hf hP hS hl
    unfold f_X9_layExchange_183 at hf
    obtain ⟨g_2, hf⟩ := gd_inv hf
    obtain ⟨S_1, eS_1, hf⟩ := bd_inv hf
    refine w_pI (ty := .boolean) (C := RX9) (T := TX9) hx hb hts n9 tyX9 tyX9_ok nmX9 hown hK hI hP hS t_28 rfl 27 (by decide) L188 rfl rfl rfl (zok g_2) dX9_layExchange_183 (fun H locs hP hS => ?_)
    rw [← eS_1] at hP
    obtain ⟨x2_3, ex2_3, hf⟩ := bd_inv hf
    refine lv_iinc (v := x2_3) (lv' := [(2, .int x2_3), (0, .ref (ad 28))]) hx hb dX9_layExchange_186 hl (k := 1) rfl (by rw [ex2_3]; rfl) (by decide) rfl (fun ls hl => ?_)
    refine lv_goto (tgt := 127) hx hb dX9_layExchange_189 (by decide) ?_
    exact hk127 S_1 x2_3 _ _ _ hf hP hS (lv_sub hl [1, 0] rfl)
  have j182 : ∀ (k127 : St → Int32 → Option (Unit × St)) (hk127 : ∀ (S : St) (x2 : Int32) (H : Heap) (locs : List Loc) (ls : Array Slot), k127 S x2 = some (r, S2) → PW D y ad S H → va_S (AA ad) s.heap H locs → lv_has ls 3 [(0, .ref (ad 28)), (2, .int x2)] → W p l e (headSpec wsX9_layExchange ({ frames := 3, cells := 0, slots := 0, locals := 69 })).room s m ([.ref (ad 28)] : List Value).toArray below meth c H locs 0 0 (QV below r S2 D y ad ([.ref (ad 28)] : List Value).toArray s) (F0 m 127 ls [])), ∀ (S : St) (x2 : Int32) (H : Heap) (locs : List Loc) (ls : Array Slot), f_X9_layExchange_182 n k127 S x2 = some (r, S2) → PW D y ad S H → va_S (AA ad) s.heap H locs → lv_has ls 3 [(0, .ref (ad 28)), (2, .int x2)] → W p l e (headSpec wsX9_layExchange ({ frames := 3, cells := 0, slots := 0, locals := 69 })).room s m ([.ref (ad 28)] : List Value).toArray below meth c H locs 0 0 (QV below r S2 D y ad ([.ref (ad 28)] : List Value).toArray s) (F0 m 182 ls [.ref (ad 28)]) := by
    intro  k127 hk127 S x2 H locs ls hf hP hS hl
    unfold f_X9_layExchange_182 at hf
    refine lv_iconst (v := 0) hx hb dX9_layExchange_182 (by decide) ?_
    exact j183  k127 hk127 S x2 ((0 : Int32)) _ _ _ hf hP hS (lv_sub hl [0, 1] rfl)
  have j178 : ∀ (k127 : St → Int32 → Option (Unit × St)) (hk127 : ∀ (S : St) (x2 : Int32) (H : Heap) (locs : List Loc) (ls : Array Slot), k127 S x2 = some (r, S2) → PW D y ad S H → va_S (AA ad) s.heap H locs → lv_has ls 3 [(0, .ref (ad 28)), (2, .int x2)] → W p l e (headSpec wsX9_layExchange ({ frames := 3, cells := 0, slots := 0, locals := 69 })).room s m ([.ref (ad 28)] : List Value).toArray below meth c H locs 0 0 (QV below r S2 D y ad ([.ref (ad 28)] : List Value).toArray s) (F0 m 127 ls [])), ∀ (S : St) (x2 : Int32) (H : Heap) (locs : List Loc) (ls : Array Slot), f_X9_layExchange_178 n k127 S x2 = some (r, S2) → PW D y ad S H → va_S (AA ad) s.heap H locs → lv_has ls 3 [(0, .ref (ad 28)), (2, .int x2)] → W p l e (headSpec wsX9_layExchange ({ frames := 3, cells := 0, slots := 0, locals := 69 })).room s m ([.ref (ad 28)] : List Value).toArray below meth c H locs 0 0 (QV below r S2 D y ad ([.ref (ad 28)] : List Value).toArray s) (F0 m 178 ls [.ref (ad 28)]) := by
    intro  k127 hk127 S x2 H locs ls hf hP hS hl
    unfold f_X9_layExchange_178 at hf
    refine lv_iconst (v := 1) hx hb dX9_layExchange_178 (by decide) ?_
    refine lv_goto (tgt := 183) hx hb dX9_layExchange_179 (by decide) ?_
    exact j183  k127 hk127 S x2 ((1 : Int32)) _ _ _ hf hP hS (lv_sub hl [0, 1] rfl)
  have b127 : ∀ (k127 : St → Int32 → Option (Unit × St)) (hk127 : ∀ (S : St) (x2 : Int32) (H : Heap) (locs : List Loc) (ls : Array Slot), k127 S x2 = some (r, S2) → PW D y ad S H → va_S (AA ad) s.heap H locs → lv_has ls 3 [(0, .ref (ad 28)), (2, .int x2)] → W p l e (headSpec wsX9_layExchange ({ frames := 3, cells := 0, slots := 0, locals := 69 })).room s m ([.ref (ad 28)] : List Value).toArray below meth c H locs 0 0 (QV below r S2 D y ad ([.ref (ad 28)] : List Value).toArray s) (F0 m 127 ls [])), ∀ (S : St) (x2 : Int32) (H : Heap) (locs : List Loc) (ls : Array Slot), f_X9_layExchange_127 n k127 S x2 = some (r, S2) → PW D y ad S H → va_S (AA ad) s.heap H locs → lv_has ls 3 [(0, .ref (ad 28)), (2, .int x2)] → W p l e (headSpec wsX9_layExchange ({ frames := 3, cells := 0, slots := 0, locals := 69 })).room s m ([.ref (ad 28)] : List Value).toArray below meth c H locs 0 0 (QV below r S2 D y ad ([.ref (ad 28)] : List Value).toArray s) (F0 m 127 ls []) := by
    intro  k127 hk127 S x2 H locs ls hf hP hS hl
    unfold f_X9_layExchange_127 at hf
    refine lv_iload_n hx hb dX9_layExchange_127 rfl (lv_at hl 1 rfl) ?_
    refine lv_aload_n hx hb dX9_layExchange_128 rfl (lv_at hl 0 rfl) ?_
    refine w_gI (C := RX9) (T := TX9) hx hb hts n9 hown hK hP t_28 rfl 2 (by decide) L141 rfl dX9_layExchange_129 ?_
    refine lv_icmp_ge (tgt := 192) hx hb dX9_layExchange_132 (by decide) (fun b_4 => ?_) (fun b_4 => ?_)
    · have hf := if_t b_4 hf
      exact w_vret hx hb hr hlocks hP hS (rt_inv hf) dX9_layExchange_192
    · have hf := if_f b_4 hf
      refine lv_aload_n hx hb dX9_layExchange_135 rfl (lv_at hl 0 rfl) ?_
      refine lv_aload_n hx hb dX9_layExchange_136 rfl (lv_at hl 0 rfl) ?_
      refine w_gI (C := RX9) (T := TX9) hx hb hts n9 hown hK hP t_28 rfl 27 (by decide) L188 rfl dX9_layExchange_137 ?_
      refine lv_if_ne (tgt := 178) hx hb dX9_layExchange_140 (by decide) (fun b_5 => ?_) (fun b_5 => ?_)
      · have hf := if_f b_5 hf
        exact j178  k127 hk127 S x2 _ _ _ hf hP hS (lv_sub hl [0, 1] rfl)
      · have hf := if_t b_5 hf
        refine lv_aload_n hx hb dX9_layExchange_143 rfl (lv_at hl 0 rfl) ?_
        refine w_gR (z := 32) (C := RX9) (T := TX9) hx hb hts n9 hown hK hP t_28 rfl 5 (by decide) L19 rfl rfl dX9_layExchange_144 ?_
        refine lv_iload_n hx hb dX9_layExchange_147 rfl (lv_at hl 1 rfl) ?_
        obtain ⟨g_6, hf⟩ := gd_inv hf
        refine w_iald hx hb hK hP t_32 g_6 dX9_layExchange_148 ?_
        refine lv_iconst (v := 1) hx hb dX9_layExchange_149 (by decide) ?_
        refine lv_icmp_ne (tgt := 182) hx hb dX9_layExchange_150 (by decide) (fun b_7 => ?_) (fun b_7 => ?_)
        · have hf := if_f b_7 hf
          exact j182  k127 hk127 S x2 _ _ _ hf hP hS (lv_sub hl [0, 1] rfl)
        · have hf := if_t b_7 hf
          refine lv_aload_n hx hb dX9_layExchange_153 rfl (lv_at hl 0 rfl) ?_
          refine w_gR (z := 41) (C := RX9) (T := TX9) hx hb hts n9 hown hK hP t_28 rfl 25 (by decide) L46 rfl rfl dX9_layExchange_154 ?_
          refine lv_aload_n hx hb dX9_layExchange_157 rfl (lv_at hl 0 rfl) ?_
          refine w_gR (z := 38) (C := RX9) (T := TX9) hx hb hts n9 hown hK hP t_28 rfl 22 (by decide) L37 rfl rfl dX9_layExchange_158 ?_
          refine lv_iload_n hx hb dX9_layExchange_161 rfl (lv_at hl 1 rfl) ?_
          obtain ⟨g_8, hf⟩ := gd_inv hf
          refine w_iald hx hb hK hP t_38 g_8 dX9_layExchange_162 ?_
          obtain ⟨g_9, hf⟩ := gd_inv hf
          refine w_iald hx hb hK hP t_41 g_9 dX9_layExchange_163 ?_
          refine lv_aload_n hx hb dX9_layExchange_164 rfl (lv_at hl 0 rfl) ?_
          refine w_gR (z := 41) (C := RX9) (T := TX9) hx hb hts n9 hown hK hP t_28 rfl 25 (by decide) L46 rfl rfl dX9_layExchange_165 ?_
          refine lv_aload_n hx hb dX9_layExchange_168 rfl (lv_at hl 0 rfl) ?_
          refine w_gR (z := 39) (C := RX9) (T := TX9) hx hb hts n9 hown hK hP t_28 rfl 23 (by decide) L40 rfl rfl dX9_layExchange_169 ?_
          refine lv_iload_n hx hb dX9_layExchange_172 rfl (lv_at hl 1 rfl) ?_
          obtain ⟨g_10, hf⟩ := gd_inv hf
          refine w_iald hx hb hK hP t_39 g_10 dX9_layExchange_173 ?_
          obtain ⟨g_11, hf⟩ := gd_inv hf
          refine w_iald hx hb hK hP t_41 g_11 dX9_layExchange_174 ?_
          refine lv_icmp_ne (tgt := 182) hx hb dX9_layExchange_175 (by decide) (fun b_12 => ?_) (fun b_12 => ?_)
          · have hf := if_f b_12 hf
            exact j182  k127 hk127 S x2 _ _ _ hf hP hS (lv_sub hl [0, 1] rfl)
          · have hf := if_t b_12 hf
            exact j178  k127 hk127 S x2 _ _ _ hf hP hS (lv_sub hl [0, 1] rfl)
  have j127 : ∀ (fu : Nat), ∀ (S : St) (x2 : Int32) (H : Heap) (locs : List Loc) (ls : Array Slot), fixF (fun _ _ => none) (f_X9_layExchange_127 n) fu S x2 = some (r, S2) → PW D y ad S H → va_S (AA ad) s.heap H locs → lv_has ls 3 [(0, .ref (ad 28)), (2, .int x2)] → W p l e (headSpec wsX9_layExchange ({ frames := 3, cells := 0, slots := 0, locals := 69 })).room s m ([.ref (ad 28)] : List Value).toArray below meth c H locs 0 0 (QV below r S2 D y ad ([.ref (ad 28)] : List Value).toArray s) (F0 m 127 ls []) := by
    intro   fu
    induction fu with
    | zero => intro S x2 H locs ls hf hP hS hl; cases hf
    | succ fu ih => exact b127   (fixF (fun _ _ => none) (f_X9_layExchange_127 n) fu) ih
  have j121 : ∀ (k76 : St → Int32 → Option (Unit × St)) (hk76 : ∀ (S : St) (x1 : Int32) (H : Heap) (locs : List Loc) (ls : Array Slot), k76 S x1 = some (r, S2) → PW D y ad S H → va_S (AA ad) s.heap H locs → lv_has ls 3 [(0, .ref (ad 28)), (1, .int x1)] → W p l e (headSpec wsX9_layExchange ({ frames := 3, cells := 0, slots := 0, locals := 69 })).room s m ([.ref (ad 28)] : List Value).toArray below meth c H locs 0 0 (QV below r S2 D y ad ([.ref (ad 28)] : List Value).toArray s) (F0 m 76 ls [])), ∀ (S : St) (t0 : Int32) (H : Heap) (locs : List Loc) (ls : Array Slot), f_X9_layExchange_121 n k76 S t0 = some (r, S2) → PW D y ad S H → va_S (AA ad) s.heap H locs → lv_has ls 3 [(0, .ref (ad 28))] → W p l e (headSpec wsX9_layExchange ({ frames := 3, cells := 0, slots := 0, locals := 69 })).room s m ([.ref (ad 28)] : List Value).toArray below meth c H locs 0 0 (QV below r S2 D y ad ([.ref (ad 28)] : List Value).toArray s) (F0 m 121 ls [.int t0]) := by
    intro  k76 hk76 S t0 H locs ls hf hP hS hl
    unfold f_X9_layExchange_121 at hf
    obtain ⟨x1_13, ex1_13, hf⟩ := bd_inv hf
    refine w_topI ex1_13 ?_
    refine lv_istore_n (lv' := [(1, .int x1_13), (0, .ref (ad 28))]) hx hb dX9_layExchange_121 rfl hl (by decide) rfl (fun ls hl => ?_)
    refine lv_goto (tgt := 76) hx hb dX9_layExchange_122 (by decide) ?_
    exact hk76 S x1_13 _ _ _ hf hP hS (lv_sub hl [1, 0] rfl)
  have j120 : ∀ (k76 : St → Int32 → Option (Unit × St)) (hk76 : ∀ (S : St) (x1 : Int32) (H : Heap) (locs : List Loc) (ls : Array Slot), k76 S x1 = some (r, S2) → PW D y ad S H → va_S (AA ad) s.heap H locs → lv_has ls 3 [(0, .ref (ad 28)), (1, .int x1)] → W p l e (headSpec wsX9_layExchange ({ frames := 3, cells := 0, slots := 0, locals := 69 })).room s m ([.ref (ad 28)] : List Value).toArray below meth c H locs 0 0 (QV below r S2 D y ad ([.ref (ad 28)] : List Value).toArray s) (F0 m 76 ls [])), ∀ (S : St) (H : Heap) (locs : List Loc) (ls : Array Slot), f_X9_layExchange_120 n k76 S = some (r, S2) → PW D y ad S H → va_S (AA ad) s.heap H locs → lv_has ls 3 [(0, .ref (ad 28))] → W p l e (headSpec wsX9_layExchange ({ frames := 3, cells := 0, slots := 0, locals := 69 })).room s m ([.ref (ad 28)] : List Value).toArray below meth c H locs 0 0 (QV below r S2 D y ad ([.ref (ad 28)] : List Value).toArray s) (F0 m 120 ls []) := by
    intro  k76 hk76 S H locs ls hf hP hS hl
    unfold f_X9_layExchange_120 at hf
    refine lv_iconst (v := 0) hx hb dX9_layExchange_120 (by decide) ?_
    exact j121  k76 hk76 S ((0 : Int32)) _ _ _ hf hP hS (lv_sub hl [0] rfl)
  have b76 : ∀ (k76 : St → Int32 → Option (Unit × St)) (hk76 : ∀ (S : St) (x1 : Int32) (H : Heap) (locs : List Loc) (ls : Array Slot), k76 S x1 = some (r, S2) → PW D y ad S H → va_S (AA ad) s.heap H locs → lv_has ls 3 [(0, .ref (ad 28)), (1, .int x1)] → W p l e (headSpec wsX9_layExchange ({ frames := 3, cells := 0, slots := 0, locals := 69 })).room s m ([.ref (ad 28)] : List Value).toArray below meth c H locs 0 0 (QV below r S2 D y ad ([.ref (ad 28)] : List Value).toArray s) (F0 m 76 ls [])), ∀ (S : St) (x1 : Int32) (H : Heap) (locs : List Loc) (ls : Array Slot), f_X9_layExchange_76 n k76 S x1 = some (r, S2) → PW D y ad S H → va_S (AA ad) s.heap H locs → lv_has ls 3 [(0, .ref (ad 28)), (1, .int x1)] → W p l e (headSpec wsX9_layExchange ({ frames := 3, cells := 0, slots := 0, locals := 69 })).room s m ([.ref (ad 28)] : List Value).toArray below meth c H locs 0 0 (QV below r S2 D y ad ([.ref (ad 28)] : List Value).toArray s) (F0 m 76 ls []) := by
    intro  k76 hk76 S x1 H locs ls hf hP hS hl
    unfold f_X9_layExchange_76 at hf
    refine lv_iload_n hx hb dX9_layExchange_76 rfl (lv_at hl 1 rfl) ?_
    refine lv_if_eq (tgt := 125) hx hb dX9_layExchange_77 (by decide) (fun b_14 => ?_) (fun b_14 => ?_)
    · have hf := if_t b_14 hf
      refine lv_iconst (v := 0) hx hb dX9_layExchange_125 (by decide) ?_
      obtain ⟨x2_15, ex2_15, hf⟩ := bd_inv hf
      refine w_topI ex2_15 ?_
      refine lv_istore_n (lv' := [(2, .int x2_15), (0, .ref (ad 28)), (1, .int x1)]) hx hb dX9_layExchange_126 rfl hl (by decide) rfl (fun ls hl => ?_)
      exact j127   n S x2_15 _ _ _ hf hP hS (lv_sub hl [1, 0] rfl)
    · have hf := if_f b_14 hf
      refine lv_aload_n hx hb dX9_layExchange_80 rfl (lv_at hl 0 rfl) ?_
      refine lv_dup hx hb dX9_layExchange_81 rfl ?_
      refine w_gI (C := RX9) (T := TX9) hx hb hts n9 hown hK hP t_28 rfl 28 (by decide) L185 rfl dX9_layExchange_82 ?_
      refine lv_iconst (v := 1) hx hb dX9_layExchange_85 (by decide) ?_
      refine lv_iadd hx hb dX9_layExchange_86 ?_
      obtain ⟨S_16, eS_16, hf⟩ := bd_inv hf
      refine w_pI (ty := .int) (C := RX9) (T := TX9) hx hb hts n9 tyX9 tyX9_ok nmX9 hown hK hI hP hS t_28 rfl 28 (by decide) L185 rfl rfl rfl ⟨rfl, rfl⟩ dX9_layExchange_87 (fun H locs hP hS => ?_)
      rw [← eS_16] at hP
      refine lv_aload_n hx hb dX9_layExchange_90 rfl (lv_at hl 0 rfl) ?_
      obtain ⟨r_17, S_18, hc_19, hf⟩ := bo_inv hf
      refine w_cv (va_runV (As := []) (rest := []) ⟨hx, hb, hml, hown, hts⟩ (c_X9_growSame l D y ad aL aU hI n S_16  _ _ hc_19) (cwV 0 hts gX9_layExchange_X9_growSame rfl rfl rfl (by decide +kernel) ⟨Nat.le_of_ble_eq_true rfl, Nat.le_of_ble_eq_true rfl⟩) (pwu_V t_28 rfl hP hK hZ hS) rfl rfl hl.1 rfl (lv_room (Nat.le_of_ble_eq_true rfl)) dX9_layExchange_91 ⟨Nat.zero_le _, Nat.zero_le _⟩) hS (fun H locs hP hS => ?_)
      refine lv_aload_n hx hb dX9_layExchange_94 rfl (lv_at hl 0 rfl) ?_
      refine lv_aload_n hx hb dX9_layExchange_95 rfl (lv_at hl 0 rfl) ?_
      obtain ⟨r_20, S_21, hc_22, hf⟩ := bo_inv hf
      refine w_ci (va_runV (As := []) (rest := [.ref (ad 28)]) ⟨hx, hb, hml, hown, hts⟩ (c_X9_layWays l D y ad aL aU hI n S_18  _ _ hc_22) (cwV 0 hts gX9_layExchange_X9_layWays rfl rfl rfl (by decide +kernel) ⟨Nat.le_of_ble_eq_true rfl, Nat.le_of_ble_eq_true rfl⟩) (pwu_V t_28 rfl hP hK hZ hS) rfl rfl hl.1 rfl (lv_room (Nat.le_of_ble_eq_true rfl)) dX9_layExchange_96 ⟨Nat.zero_le _, Nat.zero_le _⟩) hS (fun H locs hP hS => ?_)
      obtain ⟨g_24, hf⟩ := gd_inv hf
      obtain ⟨S_23, eS_23, hf⟩ := bd_inv hf
      refine w_pI (ty := .boolean) (C := RX9) (T := TX9) hx hb hts n9 tyX9 tyX9_ok nmX9 hown hK hI hP hS t_28 rfl 27 (by decide) L188 rfl rfl rfl (zok g_24) dX9_layExchange_99 (fun H locs hP hS => ?_)
      rw [← eS_23] at hP
      refine lv_aload_n hx hb dX9_layExchange_102 rfl (lv_at hl 0 rfl) ?_
      refine w_gI (C := RX9) (T := TX9) hx hb hts n9 hown hK hP t_28 rfl 27 (by decide) L188 rfl dX9_layExchange_103 ?_
      refine lv_if_ne (tgt := 120) hx hb dX9_layExchange_106 (by decide) (fun b_25 => ?_) (fun b_25 => ?_)
      · have hf := if_f b_25 hf
        exact j120  k76 hk76 S_23  _ _ _ hf hP hS (lv_sub hl [0] rfl)
      · have hf := if_t b_25 hf
        refine lv_aload_n hx hb dX9_layExchange_109 rfl (lv_at hl 0 rfl) ?_
        obtain ⟨r_26, S_27, hc_28, hf⟩ := bo_inv hf
        refine w_ci (va_runV (As := []) (rest := []) ⟨hx, hb, hml, hown, hts⟩ (c_X9_joinTight l D y ad aL aU hI n S_23  _ _ hc_28) (cwV 0 hts gX9_layExchange_X9_joinTight rfl rfl rfl (by decide +kernel) ⟨Nat.le_of_ble_eq_true rfl, Nat.le_of_ble_eq_true rfl⟩) (pwu_V t_28 rfl hP hK hZ hS) rfl rfl hl.1 rfl (lv_room (Nat.le_of_ble_eq_true rfl)) dX9_layExchange_110 ⟨Nat.zero_le _, Nat.zero_le _⟩) hS (fun H locs hP hS => ?_)
        refine lv_if_eq (tgt := 120) hx hb dX9_layExchange_113 (by decide) (fun b_29 => ?_) (fun b_29 => ?_)
        · have hf := if_t b_29 hf
          exact j120  k76 hk76 S_27  _ _ _ hf hP hS (lv_sub hl [0] rfl)
        · have hf := if_f b_29 hf
          refine lv_iconst (v := 1) hx hb dX9_layExchange_116 (by decide) ?_
          refine lv_goto (tgt := 121) hx hb dX9_layExchange_117 (by decide) ?_
          exact j121  k76 hk76 S_27 ((1 : Int32)) _ _ _ hf hP hS (lv_sub hl [0] rfl)
  have j76 : ∀ (fu : Nat), ∀ (S : St) (x1 : Int32) (H : Heap) (locs : List Loc) (ls : Array Slot), fixF (fun _ _ => none) (f_X9_layExchange_76 n) fu S x1 = some (r, S2) → PW D y ad S H → va_S (AA ad) s.heap H locs → lv_has ls 3 [(0, .ref (ad 28)), (1, .int x1)] → W p l e (headSpec wsX9_layExchange ({ frames := 3, cells := 0, slots := 0, locals := 69 })).room s m ([.ref (ad 28)] : List Value).toArray below meth c H locs 0 0 (QV below r S2 D y ad ([.ref (ad 28)] : List Value).toArray s) (F0 m 76 ls []) := by
    intro   fu
    induction fu with
    | zero => intro S x1 H locs ls hf hP hS hl; cases hf
    | succ fu ih => exact b76   (fixF (fun _ _ => none) (f_X9_layExchange_76 n) fu) ih
  have j68 : ∀ (k35 : St → Int32 → Option (Unit × St)) (hk35 : ∀ (S : St) (x1 : Int32) (H : Heap) (locs : List Loc) (ls : Array Slot), k35 S x1 = some (r, S2) → PW D y ad S H → va_S (AA ad) s.heap H locs → lv_has ls 3 [(0, .ref (ad 28)), (1, .int x1)] → W p l e (headSpec wsX9_layExchange ({ frames := 3, cells := 0, slots := 0, locals := 69 })).room s m ([.ref (ad 28)] : List Value).toArray below meth c H locs 0 0 (QV below r S2 D y ad ([.ref (ad 28)] : List Value).toArray s) (F0 m 35 ls [])), ∀ (S : St) (x1 : Int32) (H : Heap) (locs : List Loc) (ls : Array Slot), f_X9_layExchange_68 n k35 S x1 = some (r, S2) → PW D y ad S H → va_S (AA ad) s.heap H locs → lv_has ls 3 [(0, .ref (ad 28)), (1, .int x1)] → W p l e (headSpec wsX9_layExchange ({ frames := 3, cells := 0, slots := 0, locals := 69 })).room s m ([.ref (ad 28)] : List Value).toArray below meth c H locs 0 0 (QV below r S2 D y ad ([.ref (ad 28)] : List Value).toArray s) (F0 m 68 ls []) := by
    intro  k35 hk35 S x1 H locs ls hf hP hS hl
    unfold f_X9_layExchange_68 at hf
    obtain ⟨x1_30, ex1_30, hf⟩ := bd_inv hf
    refine lv_iinc (v := x1_30) (lv' := [(1, .int x1_30), (0, .ref (ad 28))]) hx hb dX9_layExchange_68 hl (k := 1) rfl (by rw [ex1_30]; rfl) (by decide) rfl (fun ls hl => ?_)
    refine lv_goto (tgt := 35) hx hb dX9_layExchange_71 (by decide) ?_
    exact hk35 S x1_30 _ _ _ hf hP hS (lv_sub hl [1, 0] rfl)
  have b35 : ∀ (k35 : St → Int32 → Option (Unit × St)) (hk35 : ∀ (S : St) (x1 : Int32) (H : Heap) (locs : List Loc) (ls : Array Slot), k35 S x1 = some (r, S2) → PW D y ad S H → va_S (AA ad) s.heap H locs → lv_has ls 3 [(0, .ref (ad 28)), (1, .int x1)] → W p l e (headSpec wsX9_layExchange ({ frames := 3, cells := 0, slots := 0, locals := 69 })).room s m ([.ref (ad 28)] : List Value).toArray below meth c H locs 0 0 (QV below r S2 D y ad ([.ref (ad 28)] : List Value).toArray s) (F0 m 35 ls [])), ∀ (S : St) (x1 : Int32) (H : Heap) (locs : List Loc) (ls : Array Slot), f_X9_layExchange_35 n k35 S x1 = some (r, S2) → PW D y ad S H → va_S (AA ad) s.heap H locs → lv_has ls 3 [(0, .ref (ad 28)), (1, .int x1)] → W p l e (headSpec wsX9_layExchange ({ frames := 3, cells := 0, slots := 0, locals := 69 })).room s m ([.ref (ad 28)] : List Value).toArray below meth c H locs 0 0 (QV below r S2 D y ad ([.ref (ad 28)] : List Value).toArray s) (F0 m 35 ls []) := by
    intro  k35 hk35 S x1 H locs ls hf hP hS hl
    unfold f_X9_layExchange_35 at hf
    refine lv_iload_n hx hb dX9_layExchange_35 rfl (lv_at hl 1 rfl) ?_
    refine lv_aload_n hx hb dX9_layExchange_36 rfl (lv_at hl 0 rfl) ?_
    refine w_gI (C := RX9) (T := TX9) hx hb hts n9 hown hK hP t_28 rfl 2 (by decide) L141 rfl dX9_layExchange_37 ?_
    refine lv_icmp_ge (tgt := 74) hx hb dX9_layExchange_40 (by decide) (fun b_31 => ?_) (fun b_31 => ?_)
    · have hf := if_t b_31 hf
      refine lv_iconst (v := 1) hx hb dX9_layExchange_74 (by decide) ?_
      obtain ⟨x1_32, ex1_32, hf⟩ := bd_inv hf
      refine w_topI ex1_32 ?_
      refine lv_istore_n (lv' := [(1, .int x1_32), (0, .ref (ad 28))]) hx hb dX9_layExchange_75 rfl hl (by decide) rfl (fun ls hl => ?_)
      exact j76   n S x1_32 _ _ _ hf hP hS (lv_sub hl [1, 0] rfl)
    · have hf := if_f b_31 hf
      refine lv_aload_n hx hb dX9_layExchange_43 rfl (lv_at hl 0 rfl) ?_
      refine w_gR (z := 32) (C := RX9) (T := TX9) hx hb hts n9 hown hK hP t_28 rfl 5 (by decide) L19 rfl rfl dX9_layExchange_44 ?_
      refine lv_iload_n hx hb dX9_layExchange_47 rfl (lv_at hl 1 rfl) ?_
      obtain ⟨g_33, hf⟩ := gd_inv hf
      refine w_iald hx hb hK hP t_32 g_33 dX9_layExchange_48 ?_
      refine lv_if_ne (tgt := 68) hx hb dX9_layExchange_49 (by decide) (fun b_34 => ?_) (fun b_34 => ?_)
      · have hf := if_f b_34 hf
        exact j68  k35 hk35 S x1 _ _ _ hf hP hS (lv_sub hl [0, 1] rfl)
      · have hf := if_t b_34 hf
        refine lv_aload_n hx hb dX9_layExchange_52 rfl (lv_at hl 0 rfl) ?_
        refine lv_aload_n hx hb dX9_layExchange_53 rfl (lv_at hl 0 rfl) ?_
        refine w_gR (z := 38) (C := RX9) (T := TX9) hx hb hts n9 hown hK hP t_28 rfl 22 (by decide) L37 rfl rfl dX9_layExchange_54 ?_
        refine lv_iload_n hx hb dX9_layExchange_57 rfl (lv_at hl 1 rfl) ?_
        obtain ⟨g_35, hf⟩ := gd_inv hf
        refine w_iald hx hb hK hP t_38 g_35 dX9_layExchange_58 ?_
        refine lv_aload_n hx hb dX9_layExchange_59 rfl (lv_at hl 0 rfl) ?_
        refine w_gR (z := 39) (C := RX9) (T := TX9) hx hb hts n9 hown hK hP t_28 rfl 23 (by decide) L40 rfl rfl dX9_layExchange_60 ?_
        refine lv_iload_n hx hb dX9_layExchange_63 rfl (lv_at hl 1 rfl) ?_
        obtain ⟨g_36, hf⟩ := gd_inv hf
        refine w_iald hx hb hK hP t_39 g_36 dX9_layExchange_64 ?_
        obtain ⟨r_37, S_38, hc_39, hf⟩ := bo_inv hf
        refine w_cv (va_runV (As := [.int (S.1 38 (x1).toNatClampNeg), .int (S.1 39 (x1).toNatClampNeg)]) (rest := []) ⟨hx, hb, hml, hown, hts⟩ (c_X9_join l D y ad aL aU hI n S ((S.1 38 (x1).toNatClampNeg)) ((S.1 39 (x1).toNatClampNeg)) _ _ hc_39) (cwV 2 hts gX9_layExchange_X9_join rfl rfl rfl (by decide +kernel) ⟨Nat.le_of_ble_eq_true rfl, Nat.le_of_ble_eq_true rfl⟩) (pwu_V t_28 rfl hP hK hZ hS) rfl rfl hl.1 rfl (lv_room (Nat.le_of_ble_eq_true rfl)) dX9_layExchange_65 ⟨Nat.zero_le _, Nat.zero_le _⟩) hS (fun H locs hP hS => ?_)
        exact j68  k35 hk35 S_38 x1 _ _ _ hf hP hS (lv_sub hl [0, 1] rfl)
  have j35 : ∀ (fu : Nat), ∀ (S : St) (x1 : Int32) (H : Heap) (locs : List Loc) (ls : Array Slot), fixF (fun _ _ => none) (f_X9_layExchange_35 n) fu S x1 = some (r, S2) → PW D y ad S H → va_S (AA ad) s.heap H locs → lv_has ls 3 [(0, .ref (ad 28)), (1, .int x1)] → W p l e (headSpec wsX9_layExchange ({ frames := 3, cells := 0, slots := 0, locals := 69 })).room s m ([.ref (ad 28)] : List Value).toArray below meth c H locs 0 0 (QV below r S2 D y ad ([.ref (ad 28)] : List Value).toArray s) (F0 m 35 ls []) := by
    intro   fu
    induction fu with
    | zero => intro S x1 H locs ls hf hP hS hl; cases hf
    | succ fu ih => exact b35   (fixF (fun _ _ => none) (f_X9_layExchange_35 n) fu) ih
  have b12 : ∀ (k12 : St → Int32 → Option (Unit × St)) (hk12 : ∀ (S : St) (x1 : Int32) (H : Heap) (locs : List Loc) (ls : Array Slot), k12 S x1 = some (r, S2) → PW D y ad S H → va_S (AA ad) s.heap H locs → lv_has ls 3 [(0, .ref (ad 28)), (1, .int x1)] → W p l e (headSpec wsX9_layExchange ({ frames := 3, cells := 0, slots := 0, locals := 69 })).room s m ([.ref (ad 28)] : List Value).toArray below meth c H locs 0 0 (QV below r S2 D y ad ([.ref (ad 28)] : List Value).toArray s) (F0 m 12 ls [])), ∀ (S : St) (x1 : Int32) (H : Heap) (locs : List Loc) (ls : Array Slot), f_X9_layExchange_12 n k12 S x1 = some (r, S2) → PW D y ad S H → va_S (AA ad) s.heap H locs → lv_has ls 3 [(0, .ref (ad 28)), (1, .int x1)] → W p l e (headSpec wsX9_layExchange ({ frames := 3, cells := 0, slots := 0, locals := 69 })).room s m ([.ref (ad 28)] : List Value).toArray below meth c H locs 0 0 (QV below r S2 D y ad ([.ref (ad 28)] : List Value).toArray s) (F0 m 12 ls []) := by
    intro  k12 hk12 S x1 H locs ls hf hP hS hl
    unfold f_X9_layExchange_12 at hf
    refine lv_iload_n hx hb dX9_layExchange_12 rfl (lv_at hl 1 rfl) ?_
    refine lv_aload_n hx hb dX9_layExchange_13 rfl (lv_at hl 0 rfl) ?_
    refine w_gI (C := RX9) (T := TX9) hx hb hts n9 hown hK hP t_28 rfl 18 (by decide) L133 rfl dX9_layExchange_14 ?_
    refine lv_icmp_ge (tgt := 33) hx hb dX9_layExchange_17 (by decide) (fun b_40 => ?_) (fun b_40 => ?_)
    · have hf := if_t b_40 hf
      refine lv_iconst (v := 0) hx hb dX9_layExchange_33 (by decide) ?_
      obtain ⟨x1_41, ex1_41, hf⟩ := bd_inv hf
      refine w_topI ex1_41 ?_
      refine lv_istore_n (lv' := [(1, .int x1_41), (0, .ref (ad 28))]) hx hb dX9_layExchange_34 rfl hl (by decide) rfl (fun ls hl => ?_)
      exact j35   n S x1_41 _ _ _ hf hP hS (lv_sub hl [1, 0] rfl)
    · have hf := if_f b_40 hf
      refine lv_aload_n hx hb dX9_layExchange_20 rfl (lv_at hl 0 rfl) ?_
      refine w_gR (z := 41) (C := RX9) (T := TX9) hx hb hts n9 hown hK hP t_28 rfl 25 (by decide) L46 rfl rfl dX9_layExchange_21 ?_
      refine lv_iload_n hx hb dX9_layExchange_24 rfl (lv_at hl 1 rfl) ?_
      refine lv_iload_n hx hb dX9_layExchange_25 rfl (lv_at hl 1 rfl) ?_
      obtain ⟨g_42, hf⟩ := gd_inv hf
      obtain ⟨S_43, eS_43, hf⟩ := bd_inv hf
      refine w_iast hx hb hK hI hP hS t_41 g_42 dX9_layExchange_26 (fun H locs hP hS => ?_)
      rw [← eS_43] at hP
      obtain ⟨x1_44, ex1_44, hf⟩ := bd_inv hf
      refine lv_iinc (v := x1_44) (lv' := [(1, .int x1_44), (0, .ref (ad 28))]) hx hb dX9_layExchange_27 hl (k := 1) rfl (by rw [ex1_44]; rfl) (by decide) rfl (fun ls hl => ?_)
      refine lv_goto (tgt := 12) hx hb dX9_layExchange_30 (by decide) ?_
      exact hk12 S_43 x1_44 _ _ _ hf hP hS (lv_sub hl [1, 0] rfl)
  have j12 : ∀ (fu : Nat), ∀ (S : St) (x1 : Int32) (H : Heap) (locs : List Loc) (ls : Array Slot), fixF (fun _ _ => none) (f_X9_layExchange_12 n) fu S x1 = some (r, S2) → PW D y ad S H → va_S (AA ad) s.heap H locs → lv_has ls 3 [(0, .ref (ad 28)), (1, .int x1)] → W p l e (headSpec wsX9_layExchange ({ frames := 3, cells := 0, slots := 0, locals := 69 })).room s m ([.ref (ad 28)] : List Value).toArray below meth c H locs 0 0 (QV below r S2 D y ad ([.ref (ad 28)] : List Value).toArray s) (F0 m 12 ls []) := by
    intro   fu
    induction fu with
    | zero => intro S x1 H locs ls hf hP hS hl; cases hf
    | succ fu ih => exact b12   (fixF (fun _ _ => none) (f_X9_layExchange_12 n) fu) ih
  unfold f_X9_layExchange at hf
  refine lv_aload_n hx hb dX9_layExchange_0 rfl (lv_at hl 0 rfl) ?_
  refine lv_iconst (v := 0) hx hb dX9_layExchange_1 (by decide) ?_
  obtain ⟨S_45, eS_45, hf⟩ := bd_inv hf
  refine w_pI (ty := .int) (C := RX9) (T := TX9) hx hb hts n9 tyX9 tyX9_ok nmX9 hown hK hI hP hS t_28 rfl 28 (by decide) L185 rfl rfl rfl ⟨rfl, rfl⟩ dX9_layExchange_2 (fun H locs hP hS => ?_)
  rw [← eS_45] at hP
  refine lv_aload_n hx hb dX9_layExchange_5 rfl (lv_at hl 0 rfl) ?_
  refine lv_iconst (v := 0) hx hb dX9_layExchange_6 (by decide) ?_
  obtain ⟨S_46, eS_46, hf⟩ := bd_inv hf
  refine w_pI (ty := .boolean) (C := RX9) (T := TX9) hx hb hts n9 tyX9 tyX9_ok nmX9 hown hK hI hP hS t_28 rfl 27 (by decide) L188 rfl rfl rfl ⟨rfl, rfl⟩ dX9_layExchange_7 (fun H locs hP hS => ?_)
  rw [← eS_46] at hP
  refine lv_iconst (v := 0) hx hb dX9_layExchange_10 (by decide) ?_
  obtain ⟨x1_47, ex1_47, hf⟩ := bd_inv hf
  refine w_topI ex1_47 ?_
  refine lv_istore_n (lv' := [(1, .int x1_47), (0, .ref (ad 28))]) hx hb dX9_layExchange_11 rfl hl (by decide) rfl (fun ls hl => ?_)
  exact j12   n S_46 x1_47 _ _ _ hf hP hS (lv_sub hl [1, 0] rfl)
set_option maxHeartbeats 4000000 in
set_option maxRecDepth 100000 in
theorem c_X9_sameSets (l : Launch) (D : va_G) (y : y4) (ad : Nat → Nat) (aL aU : Nat) (hI : Inj ad) (n : Nat) (S : St) (r : Int32) (S2 : St) (hf : f_X9_sameSets n S = some (r, S2)) : KI l D y ad aL aU yX9_sameSets wsX9_sameSets ({ frames := 1, cells := 0, slots := 0, locals := 20 }) [.ref (ad 28)] S r S2 := by
  refine Met.ofW (cc := cX9_sameSets) (maxL := 3) (ret := (some .int)) (by decide) rfl ?_
  intro p e s m args below meth c s₁ B hml hv
  obtain ⟨rfl, hP, hK, hZ⟩ := hv
  have hx := B.exec
  have hb := B.bytes
  have hr := B.returns
  have hts := atoms_spec (ws := wsX9_sameSets) B.pre
  have hown : s.vm.findClass RX9 = some m.cls := findClass_of_methodNamed B.named
  have hlocks := B.notSynchronized
  have hS : va_S (AA ad) s.heap s.heap [] := va_S.rf
  have L46 := hts (.fieldLink RX9 46 "JoinedTheoriesModel" "sameOf" "[I") (by decide +kernel)
  have L133 := hts (.fieldLink RX9 133 "JoinedTheoriesModel" "terms" "I") (by decide +kernel)
  have n9 : ∀ w ∈ wsX90, w ∈ wsX9_sameSets := by decide +kernel
  have hl := lv_entry ([.ref (ad 28)]) (n := 3) (Nat.le_of_ble_eq_true rfl)
  rw [lg_entry_eq]
  generalize (lg_sl ([.ref (ad 28)]) ++ List.replicate (3 - (lg_sl ([.ref (ad 28)])).length) Slot.unset).toArray = ls at hl ⊢
  have hl : lv_has ls 3 [(0, .ref (ad 28))] := hl
  have j28 : ∀ (k4 : St → Int32 → Int32 → Option (Int32 × St)) (hk4 : ∀ (S : St) (x1 : Int32) (x2 : Int32) (H : Heap) (locs : List Loc) (ls : Array Slot), k4 S x1 x2 = some (r, S2) → PW D y ad S H → va_S (AA ad) s.heap H locs → lv_has ls 3 [(0, .ref (ad 28)), (1, .int x1), (2, .int x2)] → W p l e (headSpec wsX9_sameSets ({ frames := 1, cells := 0, slots := 0, locals := 20 })).room s m ([.ref (ad 28)] : List Value).toArray below meth c H locs 0 0 (QI below r S2 D y ad ([.ref (ad 28)] : List Value).toArray s) (F0 m 4 ls [])), ∀ (S : St) (x2 : Int32) (t0 : Int32) (t1 : Int32) (H : Heap) (locs : List Loc) (ls : Array Slot), f_X9_sameSets_28 n k4 S x2 t0 t1 = some (r, S2) → PW D y ad S H → va_S (AA ad) s.heap H locs → lv_has ls 3 [(0, .ref (ad 28)), (2, .int x2)] → W p l e (headSpec wsX9_sameSets ({ frames := 1, cells := 0, slots := 0, locals := 20 })).room s m ([.ref (ad 28)] : List Value).toArray below meth c H locs 0 0 (QI below r S2 D y ad ([.ref (ad 28)] : List Value).toArray s) (F0 m 28 ls [.int t1, .int t0]) := by
    intro  k4 hk4 S x2 t0 t1 H locs ls hf hP hS hl
    unfold f_X9_sameSets_28 at hf
    refine lv_iadd hx hb dX9_sameSets_28 ?_
    obtain ⟨x1_1, ex1_1, hf⟩ := bd_inv hf
    refine w_topI ex1_1 ?_
    refine lv_istore_n (lv' := [(1, .int x1_1), (0, .ref (ad 28)), (2, .int x2)]) hx hb dX9_sameSets_29 rfl hl (by decide) rfl (fun ls hl => ?_)
    obtain ⟨x2_2, ex2_2, hf⟩ := bd_inv hf
    refine lv_iinc (v := x2_2) (lv' := [(2, .int x2_2), (1, .int x1_1), (0, .ref (ad 28))]) hx hb dX9_sameSets_30 hl (k := 2) rfl (by rw [ex2_2]; rfl) (by decide) rfl (fun ls hl => ?_)
    refine lv_goto (tgt := 4) hx hb dX9_sameSets_33 (by decide) ?_
    exact hk4 S x1_1 x2_2 _ _ _ hf hP hS (lv_sub hl [2, 1, 0] rfl)
  have b4 : ∀ (k4 : St → Int32 → Int32 → Option (Int32 × St)) (hk4 : ∀ (S : St) (x1 : Int32) (x2 : Int32) (H : Heap) (locs : List Loc) (ls : Array Slot), k4 S x1 x2 = some (r, S2) → PW D y ad S H → va_S (AA ad) s.heap H locs → lv_has ls 3 [(0, .ref (ad 28)), (1, .int x1), (2, .int x2)] → W p l e (headSpec wsX9_sameSets ({ frames := 1, cells := 0, slots := 0, locals := 20 })).room s m ([.ref (ad 28)] : List Value).toArray below meth c H locs 0 0 (QI below r S2 D y ad ([.ref (ad 28)] : List Value).toArray s) (F0 m 4 ls [])), ∀ (S : St) (x1 : Int32) (x2 : Int32) (H : Heap) (locs : List Loc) (ls : Array Slot), f_X9_sameSets_4 n k4 S x1 x2 = some (r, S2) → PW D y ad S H → va_S (AA ad) s.heap H locs → lv_has ls 3 [(0, .ref (ad 28)), (1, .int x1), (2, .int x2)] → W p l e (headSpec wsX9_sameSets ({ frames := 1, cells := 0, slots := 0, locals := 20 })).room s m ([.ref (ad 28)] : List Value).toArray below meth c H locs 0 0 (QI below r S2 D y ad ([.ref (ad 28)] : List Value).toArray s) (F0 m 4 ls []) := by
    intro  k4 hk4 S x1 x2 H locs ls hf hP hS hl
    unfold f_X9_sameSets_4 at hf
    refine lv_iload_n hx hb dX9_sameSets_4 rfl (lv_at hl 2 rfl) ?_
    refine lv_aload_n hx hb dX9_sameSets_5 rfl (lv_at hl 0 rfl) ?_
    refine w_gI (C := RX9) (T := TX9) hx hb hts n9 hown hK hP t_28 rfl 18 (by decide) L133 rfl dX9_sameSets_6 ?_
    refine lv_icmp_ge (tgt := 36) hx hb dX9_sameSets_9 (by decide) (fun b_3 => ?_) (fun b_3 => ?_)
    · have hf := if_t b_3 hf
      refine lv_iload_n hx hb dX9_sameSets_36 rfl (lv_at hl 1 rfl) ?_
      exact w_iret hx hb hr hlocks hP hS (rt_inv hf) dX9_sameSets_37
    · have hf := if_f b_3 hf
      refine lv_iload_n hx hb dX9_sameSets_12 rfl (lv_at hl 1 rfl) ?_
      refine lv_aload_n hx hb dX9_sameSets_13 rfl (lv_at hl 0 rfl) ?_
      refine w_gR (z := 41) (C := RX9) (T := TX9) hx hb hts n9 hown hK hP t_28 rfl 25 (by decide) L46 rfl rfl dX9_sameSets_14 ?_
      refine lv_iload_n hx hb dX9_sameSets_17 rfl (lv_at hl 2 rfl) ?_
      obtain ⟨g_4, hf⟩ := gd_inv hf
      refine w_iald hx hb hK hP t_41 g_4 dX9_sameSets_18 ?_
      refine lv_iload_n hx hb dX9_sameSets_19 rfl (lv_at hl 2 rfl) ?_
      refine lv_icmp_ne (tgt := 27) hx hb dX9_sameSets_20 (by decide) (fun b_5 => ?_) (fun b_5 => ?_)
      · have hf := if_f b_5 hf
        refine lv_iconst (v := 0) hx hb dX9_sameSets_27 (by decide) ?_
        exact j28  k4 hk4 S x2 x1 ((0 : Int32)) _ _ _ hf hP hS (lv_sub hl [0, 2] rfl)
      · have hf := if_t b_5 hf
        refine lv_iconst (v := 1) hx hb dX9_sameSets_23 (by decide) ?_
        refine lv_goto (tgt := 28) hx hb dX9_sameSets_24 (by decide) ?_
        exact j28  k4 hk4 S x2 x1 ((1 : Int32)) _ _ _ hf hP hS (lv_sub hl [0, 2] rfl)
  have j4 : ∀ (fu : Nat), ∀ (S : St) (x1 : Int32) (x2 : Int32) (H : Heap) (locs : List Loc) (ls : Array Slot), fixF (fun _ _ _ => none) (f_X9_sameSets_4 n) fu S x1 x2 = some (r, S2) → PW D y ad S H → va_S (AA ad) s.heap H locs → lv_has ls 3 [(0, .ref (ad 28)), (1, .int x1), (2, .int x2)] → W p l e (headSpec wsX9_sameSets ({ frames := 1, cells := 0, slots := 0, locals := 20 })).room s m ([.ref (ad 28)] : List Value).toArray below meth c H locs 0 0 (QI below r S2 D y ad ([.ref (ad 28)] : List Value).toArray s) (F0 m 4 ls []) := by
    intro   fu
    induction fu with
    | zero => intro S x1 x2 H locs ls hf hP hS hl; cases hf
    | succ fu ih => exact b4   (fixF (fun _ _ _ => none) (f_X9_sameSets_4 n) fu) ih
  unfold f_X9_sameSets at hf
  refine lv_iconst (v := 0) hx hb dX9_sameSets_0 (by decide) ?_
  obtain ⟨x1_6, ex1_6, hf⟩ := bd_inv hf
  refine w_topI ex1_6 ?_
  refine lv_istore_n (lv' := [(1, .int x1_6), (0, .ref (ad 28))]) hx hb dX9_sameSets_1 rfl hl (by decide) rfl (fun ls hl => ?_)
  refine lv_iconst (v := 0) hx hb dX9_sameSets_2 (by decide) ?_
  obtain ⟨x2_7, ex2_7, hf⟩ := bd_inv hf
  refine w_topI ex2_7 ?_
  refine lv_istore_n (lv' := [(2, .int x2_7), (1, .int x1_6), (0, .ref (ad 28))]) hx hb dX9_sameSets_3 rfl hl (by decide) rfl (fun ls hl => ?_)
  exact j4   n S x1_6 x2_7 _ _ _ hf hP hS (lv_sub hl [2, 1, 0] rfl)
set_option maxHeartbeats 4000000 in
set_option maxRecDepth 100000 in
theorem c_X9_exchangeNow (l : Launch) (D : va_G) (y : y4) (ad : Nat → Nat) (aL aU : Nat) (hI : Inj ad) (n : Nat) (S : St) (a1 : Int32) (r : Int32) (S2 : St) (hf : f_X9_exchangeNow n S a1 = some (r, S2)) : KI l D y ad aL aU yX9_exchangeNow wsX9_exchangeNow ({ frames := 4, cells := 0, slots := 0, locals := 91 }) [.ref (ad 28), .int a1] S r S2 := by
  refine Met.ofW (cc := cX9_exchangeNow) (maxL := 2) (ret := (some .int)) (by decide) rfl ?_
  intro p e s m args below meth c s₁ B hml hv
  obtain ⟨rfl, hP, hK, hZ⟩ := hv
  have hx := B.exec
  have hb := B.bytes
  have hr := B.returns
  have hts := atoms_spec (ws := wsX9_exchangeNow) B.pre
  have hown : s.vm.findClass RX9 = some m.cls := findClass_of_methodNamed B.named
  have hlocks := B.notSynchronized
  have hS : va_S (AA ad) s.heap s.heap [] := va_S.rf
  have L185 := hts (.fieldLink RX9 185 "JoinedTheoriesModel" "rounds" "I") (by decide +kernel)
  have L188 := hts (.fieldLink RX9 188 "JoinedTheoriesModel" "isClash" "Z") (by decide +kernel)
  have n9 : ∀ w ∈ wsX90, w ∈ wsX9_exchangeNow := by decide +kernel
  have hl := lv_entry ([.ref (ad 28), .int a1]) (n := 2) (Nat.le_of_ble_eq_true rfl)
  rw [lg_entry_eq]
  generalize (lg_sl ([.ref (ad 28), .int a1]) ++ List.replicate (2 - (lg_sl ([.ref (ad 28), .int a1])).length) Slot.unset).toArray = ls at hl ⊢
  have hl : lv_has ls 2 [(0, .ref (ad 28)), (1, .int a1)] := hl
  unfold f_X9_exchangeNow at hf
  refine lv_aload_n hx hb dX9_exchangeNow_0 rfl (lv_at hl 0 rfl) ?_
  obtain ⟨r_1, S_2, hc_3, hf⟩ := bo_inv hf
  refine w_cv (va_runV (As := []) (rest := []) ⟨hx, hb, hml, hown, hts⟩ (c_X9_layExchange l D y ad aL aU hI n S  _ _ hc_3) (cwV 0 hts gX9_exchangeNow_X9_layExchange rfl rfl rfl (by decide +kernel) ⟨Nat.le_of_ble_eq_true rfl, Nat.le_of_ble_eq_true rfl⟩) (pwu_V t_28 rfl hP hK hZ hS) rfl rfl hl.1 rfl (lv_room (Nat.le_of_ble_eq_true rfl)) dX9_exchangeNow_1 ⟨Nat.zero_le _, Nat.zero_le _⟩) hS (fun H locs hP hS => ?_)
  refine lv_iload_n hx hb dX9_exchangeNow_4 rfl (lv_at hl 1 rfl) ?_
  refine lv_if_ne (tgt := 23) hx hb dX9_exchangeNow_5 (by decide) (fun b_4 => ?_) (fun b_4 => ?_)
  · have hf := if_f b_4 hf
    refine lv_iload_n hx hb dX9_exchangeNow_23 rfl (lv_at hl 1 rfl) ?_
    refine lv_iconst (v := 1) hx hb dX9_exchangeNow_24 (by decide) ?_
    refine lv_icmp_ne (tgt := 35) hx hb dX9_exchangeNow_25 (by decide) (fun b_5 => ?_) (fun b_5 => ?_)
    · have hf := if_f b_5 hf
      refine lv_aload_n hx hb dX9_exchangeNow_35 rfl (lv_at hl 0 rfl) ?_
      obtain ⟨r_6, S_7, hc_8, hf⟩ := bo_inv hf
      refine w_ci (va_runV (As := []) (rest := []) ⟨hx, hb, hml, hown, hts⟩ (c_X9_sameSets l D y ad aL aU hI n S_2  _ _ hc_8) (cwV 0 hts gX9_exchangeNow_X9_sameSets rfl rfl rfl (by decide +kernel) ⟨Nat.le_of_ble_eq_true rfl, Nat.le_of_ble_eq_true rfl⟩) (pwu_V t_28 rfl hP hK hZ hS) rfl rfl hl.1 rfl (lv_room (Nat.le_of_ble_eq_true rfl)) dX9_exchangeNow_36 ⟨Nat.zero_le _, Nat.zero_le _⟩) hS (fun H locs hP hS => ?_)
      exact w_iret hx hb hr hlocks hP hS (rt_inv hf) dX9_exchangeNow_39
    · have hf := if_t b_5 hf
      refine lv_aload_n hx hb dX9_exchangeNow_28 rfl (lv_at hl 0 rfl) ?_
      refine w_gI (C := RX9) (T := TX9) hx hb hts n9 hown hK hP t_28 rfl 28 (by decide) L185 rfl dX9_exchangeNow_29 ?_
      refine lv_goto (tgt := 39) hx hb dX9_exchangeNow_32 (by decide) ?_
      exact w_iret hx hb hr hlocks hP hS (rt_inv hf) dX9_exchangeNow_39
  · have hf := if_t b_4 hf
    refine lv_aload_n hx hb dX9_exchangeNow_8 rfl (lv_at hl 0 rfl) ?_
    refine w_gI (C := RX9) (T := TX9) hx hb hts n9 hown hK hP t_28 rfl 27 (by decide) L188 rfl dX9_exchangeNow_9 ?_
    refine lv_if_eq (tgt := 19) hx hb dX9_exchangeNow_12 (by decide) (fun b_9 => ?_) (fun b_9 => ?_)
    · have hf := if_t b_9 hf
      refine lv_iconst (v := 0) hx hb dX9_exchangeNow_19 (by decide) ?_
      refine lv_goto (tgt := 39) hx hb dX9_exchangeNow_20 (by decide) ?_
      exact w_iret hx hb hr hlocks hP hS (rt_inv hf) dX9_exchangeNow_39
    · have hf := if_f b_9 hf
      refine lv_iconst (v := 1) hx hb dX9_exchangeNow_15 (by decide) ?_
      refine lv_goto (tgt := 39) hx hb dX9_exchangeNow_16 (by decide) ?_
      exact w_iret hx hb hr hlocks hP hS (rt_inv hf) dX9_exchangeNow_39
set_option maxHeartbeats 4000000 in
set_option maxRecDepth 100000 in
theorem c_X9_exchange (l : Launch) (D : va_G) (y : y4) (ad : Nat → Nat) (aL aU : Nat) (hI : Inj ad) (n : Nat) (S : St) (a1 : Int32) (r : Int32) (S2 : St) (hf : f_X9_exchange n S a1 = some (r, S2)) : KI l D y ad aL aU yX9_exchange wsX9_exchange ({ frames := 5, cells := 0, slots := 0, locals := 112 }) [.ref (ad 28), .int a1] S r S2 := by
  refine Met.ofW (cc := cX9_exchange) (maxL := 2) (ret := (some .int)) (by decide) rfl ?_
  intro p e s m args below meth c s₁ B hml hv
  obtain ⟨rfl, hP, hK, hZ⟩ := hv
  have hx := B.exec
  have hb := B.bytes
  have hr := B.returns
  have hts := atoms_spec (ws := wsX9_exchange) B.pre
  have hown : s.vm.findClass RX9 = some m.cls := findClass_of_methodNamed B.named
  have hlocks := B.notSynchronized
  have hS : va_S (AA ad) s.heap s.heap [] := va_S.rf
  have K81 := hts (.constant RX9 81 (-2000000003)) (by decide +kernel)
  have hl := lv_entry ([.ref (ad 28), .int a1]) (n := 2) (Nat.le_of_ble_eq_true rfl)
  rw [lg_entry_eq]
  generalize (lg_sl ([.ref (ad 28), .int a1]) ++ List.replicate (2 - (lg_sl ([.ref (ad 28), .int a1])).length) Slot.unset).toArray = ls at hl ⊢
  have hl : lv_has ls 2 [(0, .ref (ad 28)), (1, .int a1)] := hl
  unfold f_X9_exchange at hf
  refine lv_iload_n hx hb dX9_exchange_0 rfl (lv_at hl 1 rfl) ?_
  refine lv_iconst (v := 0) hx hb dX9_exchange_1 (by decide) ?_
  refine lv_iconst (v := 2) hx hb dX9_exchange_2 (by decide) ?_
  obtain ⟨r_1, S_2, hc_3, hf⟩ := bo_inv hf
  refine w_ci (va_runS (As := [.int a1, .int (0 : Int32), .int (2 : Int32)]) (rest := []) ⟨hx, hb, hml, hown, hts⟩ (c_X9_within l D y ad aL aU hI n S a1 (0 : Int32) (2 : Int32) _ _ hc_3) (cwS 3 hts gX9_exchange_X9_within rfl rfl rfl (by decide +kernel) ⟨Nat.le_of_ble_eq_true rfl, Nat.le_of_ble_eq_true rfl⟩) (pwu_S hP hK hZ hS) rfl rfl hl.1 rfl (lv_room (Nat.le_of_ble_eq_true rfl)) dX9_exchange_3 ⟨Nat.zero_le _, Nat.zero_le _⟩) hS (fun H locs hP hS => ?_)
  refine lv_if_eq (tgt := 17) hx hb dX9_exchange_6 (by decide) (fun b_4 => ?_) (fun b_4 => ?_)
  · have hf := if_t b_4 hf
    refine lv_ldc (v := (-2000000003)) hx hb hown K81 dX9_exchange_17 ?_
    exact w_iret hx hb hr hlocks hP hS (rt_inv hf) dX9_exchange_19
  · have hf := if_f b_4 hf
    refine lv_aload_n hx hb dX9_exchange_9 rfl (lv_at hl 0 rfl) ?_
    refine lv_iload_n hx hb dX9_exchange_10 rfl (lv_at hl 1 rfl) ?_
    obtain ⟨r_5, S_6, hc_7, hf⟩ := bo_inv hf
    refine w_ci (va_runV (As := [.int a1]) (rest := []) ⟨hx, hb, hml, hown, hts⟩ (c_X9_exchangeNow l D y ad aL aU hI n S_2 a1 _ _ hc_7) (cwV 1 hts gX9_exchange_X9_exchangeNow rfl rfl rfl (by decide +kernel) ⟨Nat.le_of_ble_eq_true rfl, Nat.le_of_ble_eq_true rfl⟩) (pwu_V t_28 rfl hP hK hZ hS) rfl rfl hl.1 rfl (lv_room (Nat.le_of_ble_eq_true rfl)) dX9_exchange_11 ⟨Nat.zero_le _, Nat.zero_le _⟩) hS (fun H locs hP hS => ?_)
    refine lv_goto (tgt := 19) hx hb dX9_exchange_14 (by decide) ?_
    exact w_iret hx hb hr hlocks hP hS (rt_inv hf) dX9_exchange_19
set_option maxHeartbeats 4000000 in
set_option maxRecDepth 100000 in
theorem c_X9_areTerms (l : Launch) (D : va_G) (y : y4) (ad : Nat → Nat) (aL aU : Nat) (hI : Inj ad) (n : Nat) (S : St) (a1 : Int32) (a2 : Int32) (r : Int32) (S2 : St) (hf : f_X9_areTerms n S a1 a2 = some (r, S2)) : KI l D y ad aL aU yX9_areTerms wsX9_areTerms ({ frames := 2, cells := 0, slots := 0, locals := 42 }) [.ref (ad 28), .int a1, .int a2] S r S2 := by
  refine Met.ofW (cc := cX9_areTerms) (maxL := 3) (ret := (some .boolean)) (by decide) rfl ?_
  intro p e s m args below meth c s₁ B hml hv
  obtain ⟨rfl, hP, hK, hZ⟩ := hv
  have hx := B.exec
  have hb := B.bytes
  have hr := B.returns
  have hts := atoms_spec (ws := wsX9_areTerms) B.pre
  have hown : s.vm.findClass RX9 = some m.cls := findClass_of_methodNamed B.named
  have hlocks := B.notSynchronized
  have hS : va_S (AA ad) s.heap s.heap [] := va_S.rf
  have L133 := hts (.fieldLink RX9 133 "JoinedTheoriesModel" "terms" "I") (by decide +kernel)
  have n9 : ∀ w ∈ wsX90, w ∈ wsX9_areTerms := by decide +kernel
  have hl := lv_entry ([.ref (ad 28), .int a1, .int a2]) (n := 3) (Nat.le_of_ble_eq_true rfl)
  rw [lg_entry_eq]
  generalize (lg_sl ([.ref (ad 28), .int a1, .int a2]) ++ List.replicate (3 - (lg_sl ([.ref (ad 28), .int a1, .int a2])).length) Slot.unset).toArray = ls at hl ⊢
  have hl : lv_has ls 3 [(0, .ref (ad 28)), (1, .int a1), (2, .int a2)] := hl
  unfold f_X9_areTerms at hf
  refine lv_iload_n hx hb dX9_areTerms_0 rfl (lv_at hl 1 rfl) ?_
  refine lv_iconst (v := 0) hx hb dX9_areTerms_1 (by decide) ?_
  refine lv_aload_n hx hb dX9_areTerms_2 rfl (lv_at hl 0 rfl) ?_
  refine w_gI (C := RX9) (T := TX9) hx hb hts n9 hown hK hP t_28 rfl 18 (by decide) L133 rfl dX9_areTerms_3 ?_
  refine lv_iconst (v := 1) hx hb dX9_areTerms_6 (by decide) ?_
  refine lv_isub hx hb dX9_areTerms_7 ?_
  obtain ⟨r_1, S_2, hc_3, hf⟩ := bo_inv hf
  refine w_ci (va_runS (As := [.int a1, .int (0 : Int32), .int ((S.1 28 18) - (1 : Int32))]) (rest := []) ⟨hx, hb, hml, hown, hts⟩ (c_X9_within l D y ad aL aU hI n S a1 (0 : Int32) (((S.1 28 18) - (1 : Int32))) _ _ hc_3) (cwS 3 hts gX9_areTerms_X9_within rfl rfl rfl (by decide +kernel) ⟨Nat.le_of_ble_eq_true rfl, Nat.le_of_ble_eq_true rfl⟩) (pwu_S hP hK hZ hS) rfl rfl hl.1 rfl (lv_room (Nat.le_of_ble_eq_true rfl)) dX9_areTerms_8 ⟨Nat.zero_le _, Nat.zero_le _⟩) hS (fun H locs hP hS => ?_)
  refine lv_if_eq (tgt := 32) hx hb dX9_areTerms_11 (by decide) (fun b_4 => ?_) (fun b_4 => ?_)
  · have hf := if_t b_4 hf
    refine lv_iconst (v := 0) hx hb dX9_areTerms_32 (by decide) ?_
    exact w_zret hx hb hr hlocks (fun h => h (by decide)) hP hS (rt_inv hf) dX9_areTerms_33
  · have hf := if_f b_4 hf
    refine lv_iload_n hx hb dX9_areTerms_14 rfl (lv_at hl 2 rfl) ?_
    refine lv_iconst (v := 0) hx hb dX9_areTerms_15 (by decide) ?_
    refine lv_aload_n hx hb dX9_areTerms_16 rfl (lv_at hl 0 rfl) ?_
    refine w_gI (C := RX9) (T := TX9) hx hb hts n9 hown hK hP t_28 rfl 18 (by decide) L133 rfl dX9_areTerms_17 ?_
    refine lv_iconst (v := 1) hx hb dX9_areTerms_20 (by decide) ?_
    refine lv_isub hx hb dX9_areTerms_21 ?_
    obtain ⟨r_5, S_6, hc_7, hf⟩ := bo_inv hf
    refine w_ci (va_runS (As := [.int a2, .int (0 : Int32), .int ((S_2.1 28 18) - (1 : Int32))]) (rest := []) ⟨hx, hb, hml, hown, hts⟩ (c_X9_within l D y ad aL aU hI n S_2 a2 (0 : Int32) (((S_2.1 28 18) - (1 : Int32))) _ _ hc_7) (cwS 3 hts gX9_areTerms_X9_within rfl rfl rfl (by decide +kernel) ⟨Nat.le_of_ble_eq_true rfl, Nat.le_of_ble_eq_true rfl⟩) (pwu_S hP hK hZ hS) rfl rfl hl.1 rfl (lv_room (Nat.le_of_ble_eq_true rfl)) dX9_areTerms_22 ⟨Nat.zero_le _, Nat.zero_le _⟩) hS (fun H locs hP hS => ?_)
    refine lv_if_eq (tgt := 32) hx hb dX9_areTerms_25 (by decide) (fun b_8 => ?_) (fun b_8 => ?_)
    · have hf := if_t b_8 hf
      refine lv_iconst (v := 0) hx hb dX9_areTerms_32 (by decide) ?_
      exact w_zret hx hb hr hlocks (fun h => h (by decide)) hP hS (rt_inv hf) dX9_areTerms_33
    · have hf := if_f b_8 hf
      refine lv_iconst (v := 1) hx hb dX9_areTerms_28 (by decide) ?_
      refine lv_goto (tgt := 33) hx hb dX9_areTerms_29 (by decide) ?_
      exact w_zret hx hb hr hlocks (fun h => h (by decide)) hP hS (rt_inv hf) dX9_areTerms_33
