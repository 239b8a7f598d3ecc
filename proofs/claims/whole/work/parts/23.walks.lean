set_option maxHeartbeats 4000000 in
set_option maxRecDepth 100000 in
theorem c_X6_narrowestClause (l : Launch) (D : va_G) (y : y4) (ad : Nat → Nat) (aL aU : Nat) (hI : Inj ad) (n : Nat) (S : St) (q1 : Nat) (hq1 : isD q1) (r : Int32) (S2 : St) (hf : f_X6_narrowestClause n S q1 = some (r, S2)) : KI l D y ad aL aU yX6_narrowestClause wsX6_narrowestClause ({ frames := 3, cells := 0, slots := 0, locals := 76 }) [.ref (ad 23), .ref (ad q1)] S r S2 := by
  refine Met.ofW (cc := cX6_narrowestClause) (maxL := 6) (ret := (some .int)) (by decide) rfl ?_
  intro p e s m args below meth c s₁ B hml hv
  obtain ⟨rfl, hP, hK, hZ⟩ := hv
  have hx := B.exec
  have hb := B.bytes
  have hr := B.returns
  have hts := atoms_spec (ws := wsX6_narrowestClause) B.pre
  have hown : s.vm.findClass RX6 = some m.cls := findClass_of_methodNamed B.named
  have hlocks := B.notSynchronized
  have hS : va_S (AA ad) s.heap s.heap [] := va_S.rf
  have L13 := hts (.fieldLink RX6 13 "JoinedTheories$Solver" "clauses" "[LJoinedTheories$Clause;") (by decide +kernel)
  have L37 := hts (.fieldLink RX6 37 "JoinedTheories$Solver" "clauseCount" "I") (by decide +kernel)
  have n6 : ∀ w ∈ wsX60, w ∈ wsX6_narrowestClause := by decide +kernel
  have hl := lv_entry ([.ref (ad 23), .ref (ad q1)]) (n := 6) (Nat.le_of_ble_eq_true rfl)
  rw [lg_entry_eq]
  generalize (lg_sl ([.ref (ad 23), .ref (ad q1)]) ++ List.replicate (6 - (lg_sl ([.ref (ad 23), .ref (ad q1)])).length) Slot.unset).toArray = ls at hl ⊢
  have hl : lv_has ls 6 [(0, .ref (ad 23)), (1, .ref (ad q1))] := hl
  have j61 : ∀ (k8 : St → Int32 → Int32 → Int32 → Option (Int32 × St)) (hk8 : ∀ (S : St) (x2 : Int32) (x3 : Int32) (x4 : Int32) (H : Heap) (locs : List Loc) (ls : Array Slot), k8 S x2 x3 x4 = some (r, S2) → PW D y ad S H → va_S (AA ad) s.heap H locs → lv_has ls 6 [(0, .ref (ad 23)), (1, .ref (ad q1)), (2, .int x2), (3, .int x3), (4, .int x4)] → W p l e (headSpec wsX6_narrowestClause ({ frames := 3, cells := 0, slots := 0, locals := 76 })).room s m ([.ref (ad 23), .ref (ad q1)] : List Value).toArray below meth c H locs 0 0 (QI below r S2 D y ad ([.ref (ad 23), .ref (ad q1)] : List Value).toArray s) (F0 m 8 ls [])), ∀ (S : St) (x2 : Int32) (x3 : Int32) (x4 : Int32) (H : Heap) (locs : List Loc) (ls : Array Slot), f_X6_narrowestClause_61 n q1 k8 S x2 x3 x4 = some (r, S2) → PW D y ad S H → va_S (AA ad) s.heap H locs → lv_has ls 6 [(0, .ref (ad 23)), (1, .ref (ad q1)), (2, .int x2), (3, .int x3), (4, .int x4)] → W p l e (headSpec wsX6_narrowestClause ({ frames := 3, cells := 0, slots := 0, locals := 76 })).room s m ([.ref (ad 23), .ref (ad q1)] : List Value).toArray below meth c H locs 0 0 (QI below r S2 D y ad ([.ref (ad 23), .ref (ad q1)] : List Value).toArray s) (F0 m 61 ls []) := by
    intro  k8 hk8 S x2 x3 x4 H locs ls hf hP hS hl
    unfold f_X6_narrowestClause_61 at hf
    obtain ⟨x4_1, ex4_1, hf⟩ := bd_inv hf
    refine lv_iinc (v := x4_1) (lv' := [(4, .int x4_1), (0, .ref (ad 23)), (1, .ref (ad q1)), (2, .int x2), (3, .int x3)]) hx hb dX6_narrowestClause_61 hl (k := 4) rfl (by rw [ex4_1]; rfl) (by decide) rfl (fun ls hl => ?_)
    refine lv_goto (tgt := 8) hx hb dX6_narrowestClause_64 (by decide) ?_
    exact hk8 S x2 x3 x4_1 _ _ _ hf hP hS (lv_sub hl [1, 2, 3, 4, 0] rfl)
  have b8 : ∀ (k8 : St → Int32 → Int32 → Int32 → Option (Int32 × St)) (hk8 : ∀ (S : St) (x2 : Int32) (x3 : Int32) (x4 : Int32) (H : Heap) (locs : List Loc) (ls : Array Slot), k8 S x2 x3 x4 = some (r, S2) → PW D y ad S H → va_S (AA ad) s.heap H locs → lv_has ls 6 [(0, .ref (ad 23)), (1, .ref (ad q1)), (2, .int x2), (3, .int x3), (4, .int x4)] → W p l e (headSpec wsX6_narrowestClause ({ frames := 3, cells := 0, slots := 0, locals := 76 })).room s m ([.ref (ad 23), .ref (ad q1)] : List Value).toArray below meth c H locs 0 0 (QI below r S2 D y ad ([.ref (ad 23), .ref (ad q1)] : List Value).toArray s) (F0 m 8 ls [])), ∀ (S : St) (x2 : Int32) (x3 : Int32) (x4 : Int32) (H : Heap) (locs : List Loc) (ls : Array Slot), f_X6_narrowestClause_8 n q1 k8 S x2 x3 x4 = some (r, S2) → PW D y ad S H → va_S (AA ad) s.heap H locs → lv_has ls 6 [(0, .ref (ad 23)), (1, .ref (ad q1)), (2, .int x2), (3, .int x3), (4, .int x4)] → W p l e (headSpec wsX6_narrowestClause ({ frames := 3, cells := 0, slots := 0, locals := 76 })).room s m ([.ref (ad 23), .ref (ad q1)] : List Value).toArray below meth c H locs 0 0 (QI below r S2 D y ad ([.ref (ad 23), .ref (ad q1)] : List Value).toArray s) (F0 m 8 ls []) := by
    intro  k8 hk8 S x2 x3 x4 H locs ls hf hP hS hl
    unfold f_X6_narrowestClause_8 at hf
    refine lv_iload hx hb dX6_narrowestClause_8 (lv_at hl 4 rfl) ?_
    refine lv_aload_n hx hb dX6_narrowestClause_10 rfl (lv_at hl 0 rfl) ?_
    refine w_gI (C := RX6) (T := TX6) hx hb hts n6 hown hK hP t_23 rfl 3 (by decide) L37 rfl dX6_narrowestClause_11 ?_
    refine lv_icmp_ge (tgt := 67) hx hb dX6_narrowestClause_14 (by decide) (fun b_2 => ?_) (fun b_2 => ?_)
    · have hf := if_t b_2 hf
      refine lv_iload_n hx hb dX6_narrowestClause_67 rfl (lv_at hl 2 rfl) ?_
      exact w_iret hx hb hr hlocks hP hS (rt_inv hf) dX6_narrowestClause_68
    · have hf := if_f b_2 hf
      refine lv_iload hx hb dX6_narrowestClause_17 (lv_at hl 4 rfl) ?_
      refine lv_bipush (v := (22)) hx hb dX6_narrowestClause_19 (by decide) ?_
      refine lv_icmp_ge (tgt := 67) hx hb dX6_narrowestClause_21 (by decide) (fun b_3 => ?_) (fun b_3 => ?_)
      · have hf := if_t b_3 hf
        refine lv_iload_n hx hb dX6_narrowestClause_67 rfl (lv_at hl 2 rfl) ?_
        exact w_iret hx hb hr hlocks hP hS (rt_inv hf) dX6_narrowestClause_68
      · have hf := if_f b_3 hf
        refine lv_aload_n hx hb dX6_narrowestClause_24 rfl (lv_at hl 0 rfl) ?_
        refine w_gR (z := 24) (C := RX6) (T := TX6) hx hb hts n6 hown hK hP t_23 rfl 2 (by decide) L13 rfl rfl dX6_narrowestClause_25 ?_
        refine lv_iload hx hb dX6_narrowestClause_28 (lv_at hl 4 rfl) ?_
        obtain ⟨g_4, hf⟩ := gd_inv hf
        refine w_aldC hx hb hK hP t_24 g_4 dX6_narrowestClause_30 ?_
        refine lv_aload_n hx hb dX6_narrowestClause_31 rfl (lv_at hl 1 rfl) ?_
        obtain ⟨r_5, S_6, hc_7, hf⟩ := bo_inv hf
        refine w_ci (va_runV (As := [.ref (ad q1)]) (rest := []) ⟨hx, hb, hml, hown, hts⟩ (c_X0_openOptions l D y ad aL aU hI n ((50 + (x4).toNatClampNeg)) (isC_of g_4) S q1 hq1 _ _ hc_7) (cwV 1 hts gX6_narrowestClause_X0_openOptions rfl rfl rfl (by decide +kernel) ⟨Nat.le_of_ble_eq_true rfl, Nat.le_of_ble_eq_true rfl⟩) (pwu_V (tC (isC_of g_4)) rfl hP hK hZ hS) rfl rfl hl.1 rfl (lv_room (Nat.le_of_ble_eq_true rfl)) dX6_narrowestClause_32 ⟨Nat.zero_le _, Nat.zero_le _⟩) hS (fun H locs hP hS => ?_)
        obtain ⟨x5_8, ex5_8, hf⟩ := bd_inv hf
        refine w_topI ex5_8 ?_
        refine lv_istore (lv' := [(5, .int x5_8), (0, .ref (ad 23)), (1, .ref (ad q1)), (2, .int x2), (3, .int x3), (4, .int x4)]) hx hb dX6_narrowestClause_35 hl (by decide) rfl (fun ls hl => ?_)
        refine lv_iload hx hb dX6_narrowestClause_37 (lv_at hl 0 rfl) ?_
        refine lv_iconst (v := (-1)) hx hb dX6_narrowestClause_39 (by decide) ?_
        refine lv_icmp_eq (tgt := 61) hx hb dX6_narrowestClause_40 (by decide) (fun b_9 => ?_) (fun b_9 => ?_)
        · have hf := if_t b_9 hf
          exact j61  k8 hk8 S_6 x2 x3 x4 _ _ _ hf hP hS (lv_sub hl [1, 2, 3, 4, 5] rfl)
        · have hf := if_f b_9 hf
          refine lv_iload hx hb dX6_narrowestClause_43 (lv_at hl 0 rfl) ?_
          obtain ⟨r_10, S_11, hc_12, hf⟩ := bo_inv hf
          refine w_ci (va_runS (As := [.int x5_8]) (rest := []) ⟨hx, hb, hml, hown, hts⟩ (c_J6_bitCount_0f7a4 l D y ad aL aU hI n S_6 x5_8 _ _ hc_12) (va_cwS 1 hts gX6_narrowestClause_J6_bitCount_0f7a4 rfl rfl rfl (by decide +kernel) ⟨Nat.le_of_ble_eq_true rfl, Nat.le_of_ble_eq_true rfl⟩) (pwu_S hP hK hZ hS) rfl rfl hl.1 rfl (lv_room (Nat.le_of_ble_eq_true rfl)) dX6_narrowestClause_45 ⟨Nat.zero_le _, Nat.zero_le _⟩) hS (fun H locs hP hS => ?_)
          refine lv_iload_n hx hb dX6_narrowestClause_48 rfl (lv_at hl 4 rfl) ?_
          refine lv_icmp_ge (tgt := 61) hx hb dX6_narrowestClause_49 (by decide) (fun b_13 => ?_) (fun b_13 => ?_)
          · have hf := if_t b_13 hf
            exact j61  k8 hk8 S_11 x2 x3 x4 _ _ _ hf hP hS (lv_sub hl [1, 2, 3, 4, 5] rfl)
          · have hf := if_f b_13 hf
            refine lv_iload hx hb dX6_narrowestClause_52 (lv_at hl 0 rfl) ?_
            obtain ⟨r_14, S_15, hc_16, hf⟩ := bo_inv hf
            refine w_ci (va_runS (As := [.int x5_8]) (rest := []) ⟨hx, hb, hml, hown, hts⟩ (c_J6_bitCount_0f7a4 l D y ad aL aU hI n S_11 x5_8 _ _ hc_16) (va_cwS 1 hts gX6_narrowestClause_J6_bitCount_0f7a4 rfl rfl rfl (by decide +kernel) ⟨Nat.le_of_ble_eq_true rfl, Nat.le_of_ble_eq_true rfl⟩) (pwu_S hP hK hZ hS) rfl rfl hl.1 rfl (lv_room (Nat.le_of_ble_eq_true rfl)) dX6_narrowestClause_54 ⟨Nat.zero_le _, Nat.zero_le _⟩) hS (fun H locs hP hS => ?_)
            obtain ⟨x3_17, ex3_17, hf⟩ := bd_inv hf
            refine w_topI ex3_17 ?_
            refine lv_istore_n (lv' := [(3, .int x3_17), (5, .int x5_8), (0, .ref (ad 23)), (1, .ref (ad q1)), (2, .int x2), (4, .int x4)]) hx hb dX6_narrowestClause_57 rfl hl (by decide) rfl (fun ls hl => ?_)
            refine lv_iload hx hb dX6_narrowestClause_58 (lv_at hl 5 rfl) ?_
            obtain ⟨x2_18, ex2_18, hf⟩ := bd_inv hf
            refine w_topI ex2_18 ?_
            refine lv_istore_n (lv' := [(2, .int x2_18), (3, .int x3_17), (5, .int x5_8), (0, .ref (ad 23)), (1, .ref (ad q1)), (4, .int x4)]) hx hb dX6_narrowestClause_60 rfl hl (by decide) rfl (fun ls hl => ?_)
            exact j61  k8 hk8 S_15 x2_18 x3_17 x4 _ _ _ hf hP hS (lv_sub hl [3, 4, 0, 1, 5] rfl)
  have j8 : ∀ (fu : Nat), ∀ (S : St) (x2 : Int32) (x3 : Int32) (x4 : Int32) (H : Heap) (locs : List Loc) (ls : Array Slot), fixF (fun _ _ _ _ => none) (f_X6_narrowestClause_8 n q1) fu S x2 x3 x4 = some (r, S2) → PW D y ad S H → va_S (AA ad) s.heap H locs → lv_has ls 6 [(0, .ref (ad 23)), (1, .ref (ad q1)), (2, .int x2), (3, .int x3), (4, .int x4)] → W p l e (headSpec wsX6_narrowestClause ({ frames := 3, cells := 0, slots := 0, locals := 76 })).room s m ([.ref (ad 23), .ref (ad q1)] : List Value).toArray below meth c H locs 0 0 (QI below r S2 D y ad ([.ref (ad 23), .ref (ad q1)] : List Value).toArray s) (F0 m 8 ls []) := by
    intro   fu
    induction fu with
    | zero => intro S x2 x3 x4 H locs ls hf hP hS hl; cases hf
    | succ fu ih => exact b8   (fixF (fun _ _ _ _ => none) (f_X6_narrowestClause_8 n q1) fu) ih
  unfold f_X6_narrowestClause at hf
  refine lv_iconst (v := (-1)) hx hb dX6_narrowestClause_0 (by decide) ?_
  obtain ⟨x2_19, ex2_19, hf⟩ := bd_inv hf
  refine w_topI ex2_19 ?_
  refine lv_istore_n (lv' := [(2, .int x2_19), (0, .ref (ad 23)), (1, .ref (ad q1))]) hx hb dX6_narrowestClause_1 rfl hl (by decide) rfl (fun ls hl => ?_)
  refine lv_bipush (v := (6)) hx hb dX6_narrowestClause_2 (by decide) ?_
  obtain ⟨x3_20, ex3_20, hf⟩ := bd_inv hf
  refine w_topI ex3_20 ?_
  refine lv_istore_n (lv' := [(3, .int x3_20), (2, .int x2_19), (0, .ref (ad 23)), (1, .ref (ad q1))]) hx hb dX6_narrowestClause_4 rfl hl (by decide) rfl (fun ls hl => ?_)
  refine lv_iconst (v := 0) hx hb dX6_narrowestClause_5 (by decide) ?_
  obtain ⟨x4_21, ex4_21, hf⟩ := bd_inv hf
  refine w_topI ex4_21 ?_
  refine lv_istore (lv' := [(4, .int x4_21), (3, .int x3_20), (2, .int x2_19), (0, .ref (ad 23)), (1, .ref (ad q1))]) hx hb dX6_narrowestClause_6 hl (by decide) rfl (fun ls hl => ?_)
  exact j8   n S x2_19 x3_20 x4_21 _ _ _ hf hP hS (lv_sub hl [3, 4, 2, 1, 0] rfl)
set_option maxHeartbeats 4000000 in
set_option maxRecDepth 100000 in
theorem c_X6_search (l : Launch) (D : va_G) (y : y4) (ad : Nat → Nat) (aL aU : Nat) (hI : Inj ad) (n d : Nat) : ∀ (S : St) (a1 : Int32) (r : Unit) (S2 : St), fixF (fun _ _ => none) (f_X6_search n) d S a1 = some (r, S2) → KV l D y ad aL aU yX6_search wsX6_search ({ frames := 4 + d, cells := 0, slots := 0, locals := 102 + d * 25 }) [.ref (ad 23), .int a1] S r S2 := by
  induction d with
  | zero => intro S a1 r S2 hf; cases hf
  | succ d ih =>
  intro S a1 r S2 hf
  generalize hkr : fixF (fun _ _ => none) (f_X6_search n) d = kr at ih
  have hf : f_X6_search n kr S a1 = some (r, S2) := by rw [← hkr]; exact hf
  refine Met.ofW (cc := cX6_search) (maxL := 6) (ret := none) (by decide) rfl ?_
  intro p e s m args below meth c s₁ B hml hv
  obtain ⟨rfl, hP, hK, hZ⟩ := hv
  have hx := B.exec
  have hb := B.bytes
  have hr := B.returns
  have hts := atoms_spec (ws := wsX6_search) B.pre
  have hown : s.vm.findClass RX6 = some m.cls := findClass_of_methodNamed B.named
  have hlocks := B.notSynchronized
  have hS : va_S (AA ad) s.heap s.heap [] := va_S.rf
  have L13 := hts (.fieldLink RX6 13 "JoinedTheories$Solver" "clauses" "[LJoinedTheories$Clause;") (by decide +kernel)
  have L19 := hts (.fieldLink RX6 19 "JoinedTheories$Solver" "levels" "[LJoinedTheories$Distances;") (by decide +kernel)
  have L24 := hts (.fieldLink RX6 24 "JoinedTheories$Solver" "best" "LJoinedTheories$Distances;") (by decide +kernel)
  have L45 := hts (.fieldLink RX6 45 "JoinedTheories$Solver" "found" "Z") (by decide +kernel)
  have n6 : ∀ w ∈ wsX60, w ∈ wsX6_search := by decide +kernel
  have hl := lv_entry ([.ref (ad 23), .int a1]) (n := 6) (Nat.le_of_ble_eq_true rfl)
  rw [lg_entry_eq]
  generalize (lg_sl ([.ref (ad 23), .int a1]) ++ List.replicate (6 - (lg_sl ([.ref (ad 23), .int a1])).length) Slot.unset).toArray = ls at hl ⊢
  have hl : lv_has ls 6 [(0, .ref (ad 23)), (1, .int a1)] := hl
  have j146 : ∀ (x1 : Int32) (q2 : Nat) (x3 : Int32) (x4 : Int32) (hq2 : isD q2) (k80 : St → Int32 → Option (Unit × St)) (hk80 : ∀ (S : St) (x5 : Int32) (H : Heap) (locs : List Loc) (ls : Array Slot), k80 S x5 = some (r, S2) → PW D y ad S H → va_S (AA ad) s.heap H locs → lv_has ls 6 [(0, .ref (ad 23)), (1, .int x1), (2, .ref (ad q2)), (3, .int x3), (4, .int x4), (5, .int x5)] → W p l e (headSpec wsX6_search ({ frames := 4 + (d + 1), cells := 0, slots := 0, locals := 102 + (d + 1) * 25 })).room s m ([.ref (ad 23), .int a1] : List Value).toArray below meth c H locs 0 0 (QV below r S2 D y ad ([.ref (ad 23), .int a1] : List Value).toArray s) (F0 m 80 ls [])), ∀ (S : St) (x5 : Int32) (H : Heap) (locs : List Loc) (ls : Array Slot), f_X6_search_146 n kr x1 q2 x3 x4 k80 S x5 = some (r, S2) → PW D y ad S H → va_S (AA ad) s.heap H locs → lv_has ls 6 [(0, .ref (ad 23)), (1, .int x1), (2, .ref (ad q2)), (3, .int x3), (4, .int x4), (5, .int x5)] → W p l e (headSpec wsX6_search ({ frames := 4 + (d + 1), cells := 0, slots := 0, locals := 102 + (d + 1) * 25 })).room s m ([.ref (ad 23), .int a1] : List Value).toArray below meth c H locs 0 0 (QV below r S2 D y ad ([.ref (ad 23), .int a1] : List Value).toArray s) (F0 m 146 ls []) := by
    intro x1 q2 x3 x4 hq2 k80 hk80 S x5 H locs ls hf hP hS hl
    unfold f_X6_search_146 at hf
    obtain ⟨x5_1, ex5_1, hf⟩ := bd_inv hf
    refine lv_iinc (v := x5_1) (lv' := [(5, .int x5_1), (0, .ref (ad 23)), (1, .int x1), (2, .ref (ad q2)), (3, .int x3), (4, .int x4)]) hx hb dX6_search_146 hl (k := 5) rfl (by rw [ex5_1]; rfl) (by decide) rfl (fun ls hl => ?_)
    refine lv_goto (tgt := 80) hx hb dX6_search_149 (by decide) ?_
    exact hk80 S x5_1 _ _ _ hf hP hS (lv_sub hl [1, 2, 3, 4, 5, 0] rfl)
  have b80 : ∀ (x1 : Int32) (q2 : Nat) (x3 : Int32) (x4 : Int32) (hq2 : isD q2) (k80 : St → Int32 → Option (Unit × St)) (hk80 : ∀ (S : St) (x5 : Int32) (H : Heap) (locs : List Loc) (ls : Array Slot), k80 S x5 = some (r, S2) → PW D y ad S H → va_S (AA ad) s.heap H locs → lv_has ls 6 [(0, .ref (ad 23)), (1, .int x1), (2, .ref (ad q2)), (3, .int x3), (4, .int x4), (5, .int x5)] → W p l e (headSpec wsX6_search ({ frames := 4 + (d + 1), cells := 0, slots := 0, locals := 102 + (d + 1) * 25 })).room s m ([.ref (ad 23), .int a1] : List Value).toArray below meth c H locs 0 0 (QV below r S2 D y ad ([.ref (ad 23), .int a1] : List Value).toArray s) (F0 m 80 ls [])), ∀ (S : St) (x5 : Int32) (H : Heap) (locs : List Loc) (ls : Array Slot), f_X6_search_80 n kr x1 q2 x3 x4 k80 S x5 = some (r, S2) → PW D y ad S H → va_S (AA ad) s.heap H locs → lv_has ls 6 [(0, .ref (ad 23)), (1, .int x1), (2, .ref (ad q2)), (3, .int x3), (4, .int x4), (5, .int x5)] → W p l e (headSpec wsX6_search ({ frames := 4 + (d + 1), cells := 0, slots := 0, locals := 102 + (d + 1) * 25 })).room s m ([.ref (ad 23), .int a1] : List Value).toArray below meth c H locs 0 0 (QV below r S2 D y ad ([.ref (ad 23), .int a1] : List Value).toArray s) (F0 m 80 ls []) := by
    intro x1 q2 x3 x4 hq2 k80 hk80 S x5 H locs ls hf hP hS hl
    unfold f_X6_search_80 at hf
    refine lv_iload hx hb dX6_search_80 (lv_at hl 5 rfl) ?_
    refine lv_iconst (v := 5) hx hb dX6_search_82 (by decide) ?_
    refine lv_icmp_ge (tgt := 152) hx hb dX6_search_83 (by decide) (fun b_2 => ?_) (fun b_2 => ?_)
    · have hf := if_t b_2 hf
      exact w_vret hx hb hr hlocks hP hS (rt_inv hf) dX6_search_152
    · have hf := if_f b_2 hf
      refine lv_iload_n hx hb dX6_search_86 rfl (lv_at hl 1 rfl) ?_
      refine lv_iconst (v := 1) hx hb dX6_search_87 (by decide) ?_
      refine lv_iadd hx hb dX6_search_88 ?_
      refine lv_bipush (v := (23)) hx hb dX6_search_89 (by decide) ?_
      refine lv_icmp_ge (tgt := 152) hx hb dX6_search_91 (by decide) (fun b_3 => ?_) (fun b_3 => ?_)
      · have hf := if_t b_3 hf
        exact w_vret hx hb hr hlocks hP hS (rt_inv hf) dX6_search_152
      · have hf := if_f b_3 hf
        refine lv_iload hx hb dX6_search_94 (lv_at hl 4 rfl) ?_
        refine lv_iload hx hb dX6_search_96 (lv_at hl 5 rfl) ?_
        refine lv_ishr hx hb dX6_search_98 ?_
        refine lv_iconst (v := 1) hx hb dX6_search_99 (by decide) ?_
        refine lv_iand hx hb dX6_search_100 ?_
        refine lv_iconst (v := 1) hx hb dX6_search_101 (by decide) ?_
        refine lv_icmp_ne (tgt := 146) hx hb dX6_search_102 (by decide) (fun b_4 => ?_) (fun b_4 => ?_)
        · have hf := if_f b_4 hf
          exact j146 x1 q2 x3 x4 hq2 k80 hk80 S x5 _ _ _ hf hP hS (lv_sub hl [0, 1, 2, 3, 4, 5] rfl)
        · have hf := if_t b_4 hf
          refine lv_aload_n hx hb dX6_search_105 rfl (lv_at hl 0 rfl) ?_
          refine w_gR (z := 25) (C := RX6) (T := TX6) hx hb hts n6 hown hK hP t_23 rfl 4 (by decide) L19 rfl rfl dX6_search_106 ?_
          refine lv_iload_n hx hb dX6_search_109 rfl (lv_at hl 1 rfl) ?_
          refine lv_iconst (v := 1) hx hb dX6_search_110 (by decide) ?_
          refine lv_iadd hx hb dX6_search_111 ?_
          obtain ⟨g_5, hf⟩ := gd_inv hf
          refine w_aldD hx hb hK hP t_25 g_5 dX6_search_112 ?_
          refine lv_aload_n hx hb dX6_search_113 rfl (lv_at hl 2 rfl) ?_
          obtain ⟨r_6, S_7, hc_8, hf⟩ := bo_inv hf
          refine w_cv (va_runV (As := [.ref (ad q2)]) (rest := []) ⟨hx, hb, hml, hown, hts⟩ (c_X1_copyFrom l D y ad aL aU hI n ((72 + ((x1 + (1 : Int32))).toNatClampNeg)) (isD_of g_5) S q2 hq2 _ _ hc_8) (cwV 1 hts gX6_search_X1_copyFrom rfl rfl rfl (by decide +kernel) ⟨Nat.le_trans (Nat.le_of_ble_eq_true rfl : 1 + 1 ≤ 4) (Nat.le_add_right _ _), Nat.le_trans (Nat.le_of_ble_eq_true rfl : 8 + (2 + 11) + 80 ≤ 102) (Nat.le_add_right _ _)⟩) (pwu_V (tD (isD_of g_5)) rfl hP hK hZ hS) rfl rfl hl.1 rfl (lv_room (Nat.le_of_ble_eq_true rfl)) dX6_search_114 ⟨Nat.zero_le _, Nat.zero_le _⟩) hS (fun H locs hP hS => ?_)
          refine lv_aload_n hx hb dX6_search_117 rfl (lv_at hl 0 rfl) ?_
          refine w_gR (z := 24) (C := RX6) (T := TX6) hx hb hts n6 hown hK hP t_23 rfl 2 (by decide) L13 rfl rfl dX6_search_118 ?_
          refine lv_iload_n hx hb dX6_search_121 rfl (lv_at hl 3 rfl) ?_
          obtain ⟨g_9, hf⟩ := gd_inv hf
          refine w_aldC hx hb hK hP t_24 g_9 dX6_search_122 ?_
          refine lv_aload_n hx hb dX6_search_123 rfl (lv_at hl 0 rfl) ?_
          refine w_gR (z := 25) (C := RX6) (T := TX6) hx hb hts n6 hown hK hP t_23 rfl 4 (by decide) L19 rfl rfl dX6_search_124 ?_
          refine lv_iload_n hx hb dX6_search_127 rfl (lv_at hl 1 rfl) ?_
          refine lv_iconst (v := 1) hx hb dX6_search_128 (by decide) ?_
          refine lv_iadd hx hb dX6_search_129 ?_
          obtain ⟨g_10, hf⟩ := gd_inv hf
          refine w_aldD hx hb hK hP t_25 g_10 dX6_search_130 ?_
          refine lv_iload hx hb dX6_search_131 (lv_at hl 5 rfl) ?_
          obtain ⟨r_11, S_12, hc_13, hf⟩ := bo_inv hf
          refine w_ci (va_runV (As := [.ref (ad (72 + ((x1 + (1 : Int32))).toNatClampNeg)), .int x5]) (rest := []) ⟨hx, hb, hml, hown, hts⟩ (c_X0_take l D y ad aL aU hI n ((50 + (x3).toNatClampNeg)) (isC_of g_9) S_7 ((72 + ((x1 + (1 : Int32))).toNatClampNeg)) (isD_of g_10) x5 _ _ hc_13) (cwV 2 hts gX6_search_X0_take rfl rfl rfl (by decide +kernel) ⟨Nat.le_trans (Nat.le_of_ble_eq_true rfl : 2 + 1 ≤ 4) (Nat.le_add_right _ _), Nat.le_trans (Nat.le_of_ble_eq_true rfl : 8 + (3 + 11) + 52 ≤ 102) (Nat.le_add_right _ _)⟩) (pwu_V (tC (isC_of g_9)) rfl hP hK hZ hS) rfl rfl hl.1 rfl (lv_room (Nat.le_of_ble_eq_true rfl)) dX6_search_133 ⟨Nat.zero_le _, Nat.zero_le _⟩) hS (fun H locs hP hS => ?_)
          refine lv_if_eq (tgt := 146) hx hb dX6_search_136 (by decide) (fun b_14 => ?_) (fun b_14 => ?_)
          · have hf := if_t b_14 hf
            exact j146 x1 q2 x3 x4 hq2 k80 hk80 S_12 x5 _ _ _ hf hP hS (lv_sub hl [0, 1, 2, 3, 4, 5] rfl)
          · have hf := if_f b_14 hf
            refine lv_aload_n hx hb dX6_search_139 rfl (lv_at hl 0 rfl) ?_
            refine lv_iload_n hx hb dX6_search_140 rfl (lv_at hl 1 rfl) ?_
            refine lv_iconst (v := 1) hx hb dX6_search_141 (by decide) ?_
            refine lv_iadd hx hb dX6_search_142 ?_
            obtain ⟨r_15, S_16, hc_17, hf⟩ := bo_inv hf
            refine w_cv (va_runV (As := [.int (x1 + (1 : Int32))]) (rest := []) ⟨hx, hb, hml, hown, hts⟩ (ih S_12 ((x1 + (1 : Int32))) _ _ hc_17) (cwV 1 hts gX6_search_X6_search rfl rfl rfl (by decide +kernel) ⟨Nat.le_refl _, by show 8 + (6 + 11) + (_ + d * 25) ≤ _ + (d + 1) * 25; omega⟩) (pwu_V t_23 rfl hP hK hZ hS) rfl rfl hl.1 rfl (lv_room (Nat.le_of_ble_eq_true rfl)) dX6_search_143 ⟨Nat.zero_le _, Nat.zero_le _⟩) hS (fun H locs hP hS => ?_)
            exact j146 x1 q2 x3 x4 hq2 k80 hk80 S_16 x5 _ _ _ hf hP hS (lv_sub hl [0, 1, 2, 3, 4, 5] rfl)
  have j80 : ∀ (x1 : Int32) (q2 : Nat) (x3 : Int32) (x4 : Int32) (hq2 : isD q2) (fu : Nat), ∀ (S : St) (x5 : Int32) (H : Heap) (locs : List Loc) (ls : Array Slot), fixF (fun _ _ => none) (f_X6_search_80 n kr x1 q2 x3 x4) fu S x5 = some (r, S2) → PW D y ad S H → va_S (AA ad) s.heap H locs → lv_has ls 6 [(0, .ref (ad 23)), (1, .int x1), (2, .ref (ad q2)), (3, .int x3), (4, .int x4), (5, .int x5)] → W p l e (headSpec wsX6_search ({ frames := 4 + (d + 1), cells := 0, slots := 0, locals := 102 + (d + 1) * 25 })).room s m ([.ref (ad 23), .int a1] : List Value).toArray below meth c H locs 0 0 (QV below r S2 D y ad ([.ref (ad 23), .int a1] : List Value).toArray s) (F0 m 80 ls []) := by
    intro x1 q2 x3 x4 hq2  fu
    induction fu with
    | zero => intro S x5 H locs ls hf hP hS hl; cases hf
    | succ fu ih => exact b80 x1 q2 x3 x4 hq2  (fixF (fun _ _ => none) (f_X6_search_80 n kr x1 q2 x3 x4) fu) ih
  have j51 : ∀ (S : St) (q2 : Nat) (hq2 : isD q2) (H : Heap) (locs : List Loc) (ls : Array Slot), f_X6_search_51 n kr S q2 = some (r, S2) → PW D y ad S H → va_S (AA ad) s.heap H locs → lv_has ls 6 [(0, .ref (ad 23)), (2, .ref (ad q2))] → W p l e (headSpec wsX6_search ({ frames := 4 + (d + 1), cells := 0, slots := 0, locals := 102 + (d + 1) * 25 })).room s m ([.ref (ad 23), .int a1] : List Value).toArray below meth c H locs 0 0 (QV below r S2 D y ad ([.ref (ad 23), .int a1] : List Value).toArray s) (F0 m 51 ls []) := by
    intro  S q2 hq2 H locs ls hf hP hS hl
    unfold f_X6_search_51 at hf
    refine lv_aload_n hx hb dX6_search_51 rfl (lv_at hl 0 rfl) ?_
    refine w_gR (z := 95) (C := RX6) (T := TX6) hx hb hts n6 hown hK hP t_23 rfl 5 (by decide) L24 rfl rfl dX6_search_52 ?_
    refine lv_aload_n hx hb dX6_search_55 rfl (lv_at hl 1 rfl) ?_
    obtain ⟨r_18, S_19, hc_20, hf⟩ := bo_inv hf
    refine w_cv (va_runV (As := [.ref (ad q2)]) (rest := []) ⟨hx, hb, hml, hown, hts⟩ (c_X1_copyFrom l D y ad aL aU hI n 95 isD95 S q2 hq2 _ _ hc_20) (cwV 1 hts gX6_search_X1_copyFrom rfl rfl rfl (by decide +kernel) ⟨Nat.le_trans (Nat.le_of_ble_eq_true rfl : 1 + 1 ≤ 4) (Nat.le_add_right _ _), Nat.le_trans (Nat.le_of_ble_eq_true rfl : 8 + (2 + 11) + 80 ≤ 102) (Nat.le_add_right _ _)⟩) (pwu_V t_95 rfl hP hK hZ hS) rfl rfl hl.1 rfl (lv_room (Nat.le_of_ble_eq_true rfl)) dX6_search_56 ⟨Nat.zero_le _, Nat.zero_le _⟩) hS (fun H locs hP hS => ?_)
    refine lv_aload_n hx hb dX6_search_59 rfl (lv_at hl 0 rfl) ?_
    refine lv_iconst (v := 1) hx hb dX6_search_60 (by decide) ?_
    obtain ⟨S_21, eS_21, hf⟩ := bd_inv hf
    refine w_pI (ty := .boolean) (C := RX6) (T := TX6) hx hb hts n6 tyX6 tyX6_ok nmX6 hown hK hI hP hS t_23 rfl 7 (by decide) L45 rfl rfl rfl ⟨rfl, rfl⟩ dX6_search_61 (fun H locs hP hS => ?_)
    rw [← eS_21] at hP
    exact w_vret hx hb hr hlocks hP hS (rt_inv hf) dX6_search_64
  unfold f_X6_search at hf
  refine lv_iload_n hx hb dX6_search_0 rfl (lv_at hl 1 rfl) ?_
  refine lv_if_lt (tgt := 10) hx hb dX6_search_1 (by decide) (fun b_22 => ?_) (fun b_22 => ?_)
  · have hf := if_t b_22 hf
    exact w_vret hx hb hr hlocks hP hS (rt_inv hf) dX6_search_10
  · have hf := if_f b_22 hf
    refine lv_iload_n hx hb dX6_search_4 rfl (lv_at hl 1 rfl) ?_
    refine lv_bipush (v := (23)) hx hb dX6_search_5 (by decide) ?_
    refine lv_icmp_lt (tgt := 11) hx hb dX6_search_7 (by decide) (fun b_23 => ?_) (fun b_23 => ?_)
    · have hf := if_t b_23 hf
      refine lv_aload_n hx hb dX6_search_11 rfl (lv_at hl 0 rfl) ?_
      refine w_gR (z := 25) (C := RX6) (T := TX6) hx hb hts n6 hown hK hP t_23 rfl 4 (by decide) L19 rfl rfl dX6_search_12 ?_
      refine lv_iload_n hx hb dX6_search_15 rfl (lv_at hl 1 rfl) ?_
      obtain ⟨g_24, hf⟩ := gd_inv hf
      refine w_aldD hx hb hK hP t_25 g_24 dX6_search_16 ?_
      obtain ⟨q2_25, eq2_25, hf⟩ := bd_inv hf
      have hq2_25 : isD q2_25 := by rw [eq2_25]; exact (isD_of g_24)
      refine w_topR eq2_25 ?_
      refine lv_astore_n (lv' := [(2, .ref (ad q2_25)), (0, .ref (ad 23)), (1, .int a1)]) hx hb dX6_search_17 rfl hl (by decide) rfl (fun ls hl => ?_)
      refine lv_aload_n hx hb dX6_search_18 rfl (lv_at hl 1 rfl) ?_
      refine lv_aload_n hx hb dX6_search_19 rfl (lv_at hl 0 rfl) ?_
      obtain ⟨r_26, S_27, hc_28, hf⟩ := bo_inv hf
      refine w_ci (va_runV (As := [.ref (ad q2_25)]) (rest := []) ⟨hx, hb, hml, hown, hts⟩ (c_X6_demandsMore l D y ad aL aU hI n S q2_25 hq2_25 _ _ hc_28) (cwV 1 hts gX6_search_X6_demandsMore rfl rfl rfl (by decide +kernel) ⟨Nat.le_trans (Nat.le_of_ble_eq_true rfl : 3 + 1 ≤ 4) (Nat.le_add_right _ _), Nat.le_trans (Nat.le_of_ble_eq_true rfl : 8 + (2 + 11) + 62 ≤ 102) (Nat.le_add_right _ _)⟩) (pwu_V t_23 rfl hP hK hZ hS) rfl rfl hl.1 rfl (lv_room (Nat.le_of_ble_eq_true rfl)) dX6_search_20 ⟨Nat.zero_le _, Nat.zero_le _⟩) hS (fun H locs hP hS => ?_)
      refine lv_if_eq (tgt := 34) hx hb dX6_search_23 (by decide) (fun b_29 => ?_) (fun b_29 => ?_)
      · have hf := if_t b_29 hf
        exact w_vret hx hb hr hlocks hP hS (rt_inv hf) dX6_search_34
      · have hf := if_f b_29 hf
        refine lv_aload_n hx hb dX6_search_26 rfl (lv_at hl 1 rfl) ?_
        refine lv_aload_n hx hb dX6_search_27 rfl (lv_at hl 0 rfl) ?_
        obtain ⟨r_30, S_31, hc_32, hf⟩ := bo_inv hf
        refine w_ci (va_runV (As := [.ref (ad q2_25)]) (rest := []) ⟨hx, hb, hml, hown, hts⟩ (c_X6_takeForcedOptions l D y ad aL aU hI n S_27 q2_25 hq2_25 _ _ hc_32) (cwV 1 hts gX6_search_X6_takeForcedOptions rfl rfl rfl (by decide +kernel) ⟨Nat.le_trans (Nat.le_of_ble_eq_true rfl : 3 + 1 ≤ 4) (Nat.le_add_right _ _), Nat.le_trans (Nat.le_of_ble_eq_true rfl : 8 + (7 + 11) + 76 ≤ 102) (Nat.le_add_right _ _)⟩) (pwu_V t_23 rfl hP hK hZ hS) rfl rfl hl.1 rfl (lv_room (Nat.le_of_ble_eq_true rfl)) dX6_search_28 ⟨Nat.zero_le _, Nat.zero_le _⟩) hS (fun H locs hP hS => ?_)
        refine lv_if_ne (tgt := 35) hx hb dX6_search_31 (by decide) (fun b_33 => ?_) (fun b_33 => ?_)
        · have hf := if_f b_33 hf
          refine lv_aload_n hx hb dX6_search_35 rfl (lv_at hl 1 rfl) ?_
          refine lv_aload_n hx hb dX6_search_36 rfl (lv_at hl 0 rfl) ?_
          obtain ⟨r_34, S_35, hc_36, hf⟩ := bo_inv hf
          refine w_ci (va_runV (As := [.ref (ad q2_25)]) (rest := []) ⟨hx, hb, hml, hown, hts⟩ (c_X6_narrowestClause l D y ad aL aU hI n S_31 q2_25 hq2_25 _ _ hc_36) (cwV 1 hts gX6_search_X6_narrowestClause rfl rfl rfl (by decide +kernel) ⟨Nat.le_trans (Nat.le_of_ble_eq_true rfl : 3 + 1 ≤ 4) (Nat.le_add_right _ _), Nat.le_trans (Nat.le_of_ble_eq_true rfl : 8 + (6 + 11) + 76 ≤ 102) (Nat.le_add_right _ _)⟩) (pwu_V t_23 rfl hP hK hZ hS) rfl rfl hl.1 rfl (lv_room (Nat.le_of_ble_eq_true rfl)) dX6_search_37 ⟨Nat.zero_le _, Nat.zero_le _⟩) hS (fun H locs hP hS => ?_)
          obtain ⟨x3_37, ex3_37, hf⟩ := bd_inv hf
          refine w_topI ex3_37 ?_
          refine lv_istore_n (lv' := [(3, .int x3_37), (2, .ref (ad q2_25)), (0, .ref (ad 23)), (1, .int a1)]) hx hb dX6_search_40 rfl hl (by decide) rfl (fun ls hl => ?_)
          refine lv_iload_n hx hb dX6_search_41 rfl (lv_at hl 0 rfl) ?_
          refine lv_if_lt (tgt := 51) hx hb dX6_search_42 (by decide) (fun b_38 => ?_) (fun b_38 => ?_)
          · have hf := if_t b_38 hf
            exact j51   S_35 q2_25 hq2_25 _ _ _ hf hP hS (lv_sub hl [2, 1] rfl)
          · have hf := if_f b_38 hf
            refine lv_iload_n hx hb dX6_search_45 rfl (lv_at hl 0 rfl) ?_
            refine lv_bipush (v := (22)) hx hb dX6_search_46 (by decide) ?_
            refine lv_icmp_lt (tgt := 65) hx hb dX6_search_48 (by decide) (fun b_39 => ?_) (fun b_39 => ?_)
            · have hf := if_t b_39 hf
              refine lv_aload_n hx hb dX6_search_65 rfl (lv_at hl 2 rfl) ?_
              refine w_gR (z := 24) (C := RX6) (T := TX6) hx hb hts n6 hown hK hP t_23 rfl 2 (by decide) L13 rfl rfl dX6_search_66 ?_
              refine lv_iload_n hx hb dX6_search_69 rfl (lv_at hl 0 rfl) ?_
              obtain ⟨g_40, hf⟩ := gd_inv hf
              refine w_aldC hx hb hK hP t_24 g_40 dX6_search_70 ?_
              refine lv_aload_n hx hb dX6_search_71 rfl (lv_at hl 1 rfl) ?_
              obtain ⟨r_41, S_42, hc_43, hf⟩ := bo_inv hf
              refine w_ci (va_runV (As := [.ref (ad q2_25)]) (rest := []) ⟨hx, hb, hml, hown, hts⟩ (c_X0_openOptions l D y ad aL aU hI n ((50 + (x3_37).toNatClampNeg)) (isC_of g_40) S_35 q2_25 hq2_25 _ _ hc_43) (cwV 1 hts gX6_search_X0_openOptions rfl rfl rfl (by decide +kernel) ⟨Nat.le_trans (Nat.le_of_ble_eq_true rfl : 2 + 1 ≤ 4) (Nat.le_add_right _ _), Nat.le_trans (Nat.le_of_ble_eq_true rfl : 8 + (15 + 11) + 42 ≤ 102) (Nat.le_add_right _ _)⟩) (pwu_V (tC (isC_of g_40)) rfl hP hK hZ hS) rfl rfl hl.1 rfl (lv_room (Nat.le_of_ble_eq_true rfl)) dX6_search_72 ⟨Nat.zero_le _, Nat.zero_le _⟩) hS (fun H locs hP hS => ?_)
              obtain ⟨x4_44, ex4_44, hf⟩ := bd_inv hf
              refine w_topI ex4_44 ?_
              refine lv_istore (lv' := [(4, .int x4_44), (3, .int x3_37), (2, .ref (ad q2_25)), (0, .ref (ad 23)), (1, .int a1)]) hx hb dX6_search_75 hl (by decide) rfl (fun ls hl => ?_)
              refine lv_iconst (v := 0) hx hb dX6_search_77 (by decide) ?_
              obtain ⟨x5_45, ex5_45, hf⟩ := bd_inv hf
              refine w_topI ex5_45 ?_
              refine lv_istore (lv' := [(5, .int x5_45), (4, .int x4_44), (3, .int x3_37), (2, .ref (ad q2_25)), (0, .ref (ad 23)), (1, .int a1)]) hx hb dX6_search_78 hl (by decide) rfl (fun ls hl => ?_)
              exact j80 a1 q2_25 x3_37 x4_44 hq2_25  n S_42 x5_45 _ _ _ hf hP hS (lv_sub hl [4, 5, 3, 2, 1, 0] rfl)
            · have hf := if_f b_39 hf
              exact j51   S_35 q2_25 hq2_25 _ _ _ hf hP hS (lv_sub hl [2, 1] rfl)
        · have hf := if_t b_33 hf
          exact w_vret hx hb hr hlocks hP hS (rt_inv hf) dX6_search_34
    · have hf := if_f b_23 hf
      exact w_vret hx hb hr hlocks hP hS (rt_inv hf) dX6_search_10
set_option maxHeartbeats 4000000 in
set_option maxRecDepth 100000 in
theorem c_X6_hasSolution (l : Launch) (D : va_G) (y : y4) (ad : Nat → Nat) (aL aU : Nat) (hI : Inj ad) (n : Nat) (S : St) (r : Int32) (S2 : St) (hf : f_X6_hasSolution n S = some (r, S2)) : KI l D y ad aL aU yX6_hasSolution wsX6_hasSolution ({ frames := 29, cells := 0, slots := 0, locals := 727 }) [.ref (ad 23)] S r S2 := by
  refine Met.ofW (cc := cX6_hasSolution) (maxL := 1) (ret := (some .boolean)) (by decide) rfl ?_
  intro p e s m args below meth c s₁ B hml hv
  obtain ⟨rfl, hP, hK, hZ⟩ := hv
  have hx := B.exec
  have hb := B.bytes
  have hr := B.returns
  have hts := atoms_spec (ws := wsX6_hasSolution) B.pre
  have hown : s.vm.findClass RX6 = some m.cls := findClass_of_methodNamed B.named
  have hlocks := B.notSynchronized
  have hS : va_S (AA ad) s.heap s.heap [] := va_S.rf
  have L41 := hts (.fieldLink RX6 41 "JoinedTheories$Solver" "contradictory" "Z") (by decide +kernel)
  have L45 := hts (.fieldLink RX6 45 "JoinedTheories$Solver" "found" "Z") (by decide +kernel)
  have n6 : ∀ w ∈ wsX60, w ∈ wsX6_hasSolution := by decide +kernel
  have hl := lv_entry ([.ref (ad 23)]) (n := 1) (Nat.le_of_ble_eq_true rfl)
  rw [lg_entry_eq]
  generalize (lg_sl ([.ref (ad 23)]) ++ List.replicate (1 - (lg_sl ([.ref (ad 23)])).length) Slot.unset).toArray = ls at hl ⊢
  have hl : lv_has ls 1 [(0, .ref (ad 23))] := hl
  unfold f_X6_hasSolution at hf
  refine lv_aload_n hx hb dX6_hasSolution_0 rfl (lv_at hl 0 rfl) ?_
  refine w_gI (C := RX6) (T := TX6) hx hb hts n6 hown hK hP t_23 rfl 6 (by decide) L41 rfl dX6_hasSolution_1 ?_
  refine lv_if_ne (tgt := 12) hx hb dX6_hasSolution_4 (by decide) (fun b_1 => ?_) (fun b_1 => ?_)
  · have hf := if_f b_1 hf
    refine lv_aload_n hx hb dX6_hasSolution_12 rfl (lv_at hl 0 rfl) ?_
    refine w_gI (C := RX6) (T := TX6) hx hb hts n6 hown hK hP t_23 rfl 7 (by decide) L45 rfl dX6_hasSolution_13 ?_
    obtain ⟨g_2, hf⟩ := gd_inv hf
    exact w_zret hx hb hr hlocks g_2 hP hS (rt_inv hf) dX6_hasSolution_16
  · have hf := if_t b_1 hf
    refine lv_aload_n hx hb dX6_hasSolution_7 rfl (lv_at hl 0 rfl) ?_
    refine lv_iconst (v := 0) hx hb dX6_hasSolution_8 (by decide) ?_
    obtain ⟨r_3, S_4, hc_5, hf⟩ := bo_inv hf
    refine w_cv (va_runV (As := [.int (0 : Int32)]) (rest := []) ⟨hx, hb, hml, hown, hts⟩ (c_X6_search l D y ad aL aU hI n 24 S (0 : Int32) _ _ hc_5) (cwV 1 hts gX6_hasSolution_X6_search rfl rfl rfl (by decide +kernel) ⟨Nat.le_of_ble_eq_true rfl, Nat.le_of_ble_eq_true rfl⟩) (pwu_V t_23 rfl hP hK hZ hS) rfl rfl hl.1 rfl (lv_room (Nat.le_of_ble_eq_true rfl)) dX6_hasSolution_9 ⟨Nat.zero_le _, Nat.zero_le _⟩) hS (fun H locs hP hS => ?_)
    refine lv_aload_n hx hb dX6_hasSolution_12 rfl (lv_at hl 0 rfl) ?_
    refine w_gI (C := RX6) (T := TX6) hx hb hts n6 hown hK hP t_23 rfl 7 (by decide) L45 rfl dX6_hasSolution_13 ?_
    obtain ⟨g_6, hf⟩ := gd_inv hf
    exact w_zret hx hb hr hlocks g_6 hP hS (rt_inv hf) dX6_hasSolution_16
set_option maxHeartbeats 4000000 in
set_option maxRecDepth 100000 in
theorem c_X6_foundEqual (l : Launch) (D : va_G) (y : y4) (ad : Nat → Nat) (aL aU : Nat) (hI : Inj ad) (n : Nat) (S : St) (a1 : Int32) (a2 : Int32) (r : Int32) (S2 : St) (hf : f_X6_foundEqual n S a1 a2 = some (r, S2)) : KI l D y ad aL aU yX6_foundEqual wsX6_foundEqual ({ frames := 3, cells := 0, slots := 0, locals := 64 }) [.ref (ad 23), .int a1, .int a2] S r S2 := by
  refine Met.ofW (cc := cX6_foundEqual) (maxL := 3) (ret := (some .boolean)) (by decide) rfl ?_
  intro p e s m args below meth c s₁ B hml hv
  obtain ⟨rfl, hP, hK, hZ⟩ := hv
  have hx := B.exec
  have hb := B.bytes
  have hr := B.returns
  have hts := atoms_spec (ws := wsX6_foundEqual) B.pre
  have hown : s.vm.findClass RX6 = some m.cls := findClass_of_methodNamed B.named
  have hlocks := B.notSynchronized
  have hS : va_S (AA ad) s.heap s.heap [] := va_S.rf
  have L24 := hts (.fieldLink RX6 24 "JoinedTheories$Solver" "best" "LJoinedTheories$Distances;") (by decide +kernel)
  have n6 : ∀ w ∈ wsX60, w ∈ wsX6_foundEqual := by decide +kernel
  have hl := lv_entry ([.ref (ad 23), .int a1, .int a2]) (n := 3) (Nat.le_of_ble_eq_true rfl)
  rw [lg_entry_eq]
  generalize (lg_sl ([.ref (ad 23), .int a1, .int a2]) ++ List.replicate (3 - (lg_sl ([.ref (ad 23), .int a1, .int a2])).length) Slot.unset).toArray = ls at hl ⊢
  have hl : lv_has ls 3 [(0, .ref (ad 23)), (1, .int a1), (2, .int a2)] := hl
  unfold f_X6_foundEqual at hf
  refine lv_aload_n hx hb dX6_foundEqual_0 rfl (lv_at hl 0 rfl) ?_
  refine w_gR (z := 95) (C := RX6) (T := TX6) hx hb hts n6 hown hK hP t_23 rfl 5 (by decide) L24 rfl rfl dX6_foundEqual_1 ?_
  refine lv_iload_n hx hb dX6_foundEqual_4 rfl (lv_at hl 1 rfl) ?_
  refine lv_iload_n hx hb dX6_foundEqual_5 rfl (lv_at hl 2 rfl) ?_
  obtain ⟨r_1, S_2, hc_3, hf⟩ := bo_inv hf
  refine w_ci (va_runV (As := [.int a1, .int a2]) (rest := []) ⟨hx, hb, hml, hown, hts⟩ (c_X1_areEqual l D y ad aL aU hI n 95 isD95 S a1 a2 _ _ hc_3) (cwV 2 hts gX6_foundEqual_X1_areEqual rfl rfl rfl (by decide +kernel) ⟨Nat.le_of_ble_eq_true rfl, Nat.le_of_ble_eq_true rfl⟩) (pwu_V t_95 rfl hP hK hZ hS) rfl rfl hl.1 rfl (lv_room (Nat.le_of_ble_eq_true rfl)) dX6_foundEqual_6 ⟨Nat.zero_le _, Nat.zero_le _⟩) hS (fun H locs hP hS => ?_)
  obtain ⟨g_4, hf⟩ := gd_inv hf
  exact w_zret hx hb hr hlocks g_4 hP hS (rt_inv hf) dX6_foundEqual_9
set_option maxHeartbeats 4000000 in
set_option maxRecDepth 100000 in
theorem c_X4_pairsTiedWith (l : Launch) (D : va_G) (y : y4) (ad : Nat → Nat) (aL aU : Nat) (hI : Inj ad) (n : Nat) (S : St) (a1 : Int32) (a2 : Int32) (r : Int32) (S2 : St) (hf : f_X4_pairsTiedWith n S a1 a2 = some (r, S2)) : KI l D y ad aL aU yX4_pairsTiedWith wsX4_pairsTiedWith ({ frames := 30, cells := 0, slots := 0, locals := 747 }) [.ref (ad 26), .int a1, .int a2] S r S2 := by
  refine Met.ofW (cc := cX4_pairsTiedWith) (maxL := 5) (ret := (some .int)) (by decide) rfl ?_
  intro p e s m args below meth c s₁ B hml hv
  obtain ⟨rfl, hP, hK, hZ⟩ := hv
  have hx := B.exec
  have hb := B.bytes
  have hr := B.returns
  have hts := atoms_spec (ws := wsX4_pairsTiedWith) B.pre
  have hown : s.vm.findClass RX4 = some m.cls := findClass_of_methodNamed B.named
  have hlocks := B.notSynchronized
  have hS : va_S (AA ad) s.heap s.heap [] := va_S.rf
  have L23 := hts (.fieldLink RX4 23 "JoinedTheories$PairFinder" "solver" "LJoinedTheories$Solver;") (by decide +kernel)
  have n4 : ∀ w ∈ wsX40, w ∈ wsX4_pairsTiedWith := by decide +kernel
  have hl := lv_entry ([.ref (ad 26), .int a1, .int a2]) (n := 5) (Nat.le_of_ble_eq_true rfl)
  rw [lg_entry_eq]
  generalize (lg_sl ([.ref (ad 26), .int a1, .int a2]) ++ List.replicate (5 - (lg_sl ([.ref (ad 26), .int a1, .int a2])).length) Slot.unset).toArray = ls at hl ⊢
  have hl : lv_has ls 5 [(0, .ref (ad 26)), (1, .int a1), (2, .int a2)] := hl
  have j66 : ∀ (k30 : St → Int32 → Int32 → Option (Int32 × St)) (hk30 : ∀ (S : St) (x3 : Int32) (x4 : Int32) (H : Heap) (locs : List Loc) (ls : Array Slot), k30 S x3 x4 = some (r, S2) → PW D y ad S H → va_S (AA ad) s.heap H locs → lv_has ls 5 [(0, .ref (ad 26)), (3, .int x3), (4, .int x4)] → W p l e (headSpec wsX4_pairsTiedWith ({ frames := 30, cells := 0, slots := 0, locals := 747 })).room s m ([.ref (ad 26), .int a1, .int a2] : List Value).toArray below meth c H locs 0 0 (QI below r S2 D y ad ([.ref (ad 26), .int a1, .int a2] : List Value).toArray s) (F0 m 30 ls [])), ∀ (S : St) (x3 : Int32) (x4 : Int32) (H : Heap) (locs : List Loc) (ls : Array Slot), f_X4_pairsTiedWith_66 n k30 S x3 x4 = some (r, S2) → PW D y ad S H → va_S (AA ad) s.heap H locs → lv_has ls 5 [(0, .ref (ad 26)), (3, .int x3), (4, .int x4)] → W p l e (headSpec wsX4_pairsTiedWith ({ frames := 30, cells := 0, slots := 0, locals := 747 })).room s m ([.ref (ad 26), .int a1, .int a2] : List Value).toArray below meth c H locs 0 0 (QI below r S2 D y ad ([.ref (ad 26), .int a1, .int a2] : List Value).toArray s) (F0 m 66 ls []) := by
    intro  k30 hk30 S x3 x4 H locs ls hf hP hS hl
    unfold f_X4_pairsTiedWith_66 at hf
    obtain ⟨x4_1, ex4_1, hf⟩ := bd_inv hf
    refine lv_iinc (v := x4_1) (lv' := [(4, .int x4_1), (0, .ref (ad 26)), (3, .int x3)]) hx hb dX4_pairsTiedWith_66 hl (k := 2) rfl (by rw [ex4_1]; rfl) (by decide) rfl (fun ls hl => ?_)
    refine lv_goto (tgt := 30) hx hb dX4_pairsTiedWith_69 (by decide) ?_
    exact hk30 S x3 x4_1 _ _ _ hf hP hS (lv_sub hl [1, 2, 0] rfl)
  have b30 : ∀ (k30 : St → Int32 → Int32 → Option (Int32 × St)) (hk30 : ∀ (S : St) (x3 : Int32) (x4 : Int32) (H : Heap) (locs : List Loc) (ls : Array Slot), k30 S x3 x4 = some (r, S2) → PW D y ad S H → va_S (AA ad) s.heap H locs → lv_has ls 5 [(0, .ref (ad 26)), (3, .int x3), (4, .int x4)] → W p l e (headSpec wsX4_pairsTiedWith ({ frames := 30, cells := 0, slots := 0, locals := 747 })).room s m ([.ref (ad 26), .int a1, .int a2] : List Value).toArray below meth c H locs 0 0 (QI below r S2 D y ad ([.ref (ad 26), .int a1, .int a2] : List Value).toArray s) (F0 m 30 ls [])), ∀ (S : St) (x3 : Int32) (x4 : Int32) (H : Heap) (locs : List Loc) (ls : Array Slot), f_X4_pairsTiedWith_30 n k30 S x3 x4 = some (r, S2) → PW D y ad S H → va_S (AA ad) s.heap H locs → lv_has ls 5 [(0, .ref (ad 26)), (3, .int x3), (4, .int x4)] → W p l e (headSpec wsX4_pairsTiedWith ({ frames := 30, cells := 0, slots := 0, locals := 747 })).room s m ([.ref (ad 26), .int a1, .int a2] : List Value).toArray below meth c H locs 0 0 (QI below r S2 D y ad ([.ref (ad 26), .int a1, .int a2] : List Value).toArray s) (F0 m 30 ls []) := by
    intro  k30 hk30 S x3 x4 H locs ls hf hP hS hl
    unfold f_X4_pairsTiedWith_30 at hf
    refine lv_iload hx hb dX4_pairsTiedWith_30 (lv_at hl 2 rfl) ?_
    refine lv_bipush (v := (10)) hx hb dX4_pairsTiedWith_32 (by decide) ?_
    refine lv_icmp_ge (tgt := 72) hx hb dX4_pairsTiedWith_34 (by decide) (fun b_2 => ?_) (fun b_2 => ?_)
    · have hf := if_t b_2 hf
      refine lv_iload_n hx hb dX4_pairsTiedWith_72 rfl (lv_at hl 1 rfl) ?_
      exact w_iret hx hb hr hlocks hP hS (rt_inv hf) dX4_pairsTiedWith_73
    · have hf := if_f b_2 hf
      refine lv_aload_n hx hb dX4_pairsTiedWith_37 rfl (lv_at hl 0 rfl) ?_
      refine w_gR (z := 23) (C := RX4) (T := TX4) hx hb hts n4 hown hK hP t_26 rfl 0 (by decide) L23 rfl rfl dX4_pairsTiedWith_38 ?_
      refine va_getsN (v := .ref aL) hx hb hZ.1.1 hS hown (va_Nw.use rfl hZ.2.2.1) (fun _ h => h) dX4_pairsTiedWith_41 ?_
      refine lv_iload hx hb dX4_pairsTiedWith_44 (lv_at hl 2 rfl) ?_
      obtain ⟨g_3, hf⟩ := gd_inv hf
      refine va_ti hx hb hZ.1.2 hS g_3 rfl dX4_pairsTiedWith_46 ?_
      refine va_getsN (v := .ref aU) hx hb hZ.2.1.1 hS hown (va_Nw.use rfl hZ.2.2.2) (fun _ h => h) dX4_pairsTiedWith_47 ?_
      refine lv_iload hx hb dX4_pairsTiedWith_50 (lv_at hl 2 rfl) ?_
      obtain ⟨g_4, hf⟩ := gd_inv hf
      refine va_ti hx hb hZ.2.1.2 hS g_4 rfl dX4_pairsTiedWith_52 ?_
      obtain ⟨r_5, S_6, hc_7, hf⟩ := bo_inv hf
      refine w_ci (va_runV (As := [.int (loF (x4).toNatClampNeg), .int (upF (x4).toNatClampNeg)]) (rest := []) ⟨hx, hb, hml, hown, hts⟩ (c_X6_foundEqual l D y ad aL aU hI n S ((loF (x4).toNatClampNeg)) ((upF (x4).toNatClampNeg)) _ _ hc_7) (cwV 2 hts gX4_pairsTiedWith_X6_foundEqual rfl rfl rfl (by decide +kernel) ⟨Nat.le_of_ble_eq_true rfl, Nat.le_of_ble_eq_true rfl⟩) (pwu_V t_23 rfl hP hK hZ hS) rfl rfl hl.1 rfl (lv_room (Nat.le_of_ble_eq_true rfl)) dX4_pairsTiedWith_53 ⟨Nat.zero_le _, Nat.zero_le _⟩) hS (fun H locs hP hS => ?_)
      refine lv_if_eq (tgt := 66) hx hb dX4_pairsTiedWith_56 (by decide) (fun b_8 => ?_) (fun b_8 => ?_)
      · have hf := if_t b_8 hf
        exact j66  k30 hk30 S_6 x3 x4 _ _ _ hf hP hS (lv_sub hl [0, 1, 2] rfl)
      · have hf := if_f b_8 hf
        refine lv_iload_n hx hb dX4_pairsTiedWith_59 rfl (lv_at hl 1 rfl) ?_
        refine lv_iconst (v := 1) hx hb dX4_pairsTiedWith_60 (by decide) ?_
        refine lv_iload hx hb dX4_pairsTiedWith_61 (lv_at hl 2 rfl) ?_
        refine lv_ishl hx hb dX4_pairsTiedWith_63 ?_
        refine lv_ior hx hb dX4_pairsTiedWith_64 ?_
        obtain ⟨x3_9, ex3_9, hf⟩ := bd_inv hf
        refine w_topI ex3_9 ?_
        refine lv_istore_n (lv' := [(3, .int x3_9), (0, .ref (ad 26)), (4, .int x4)]) hx hb dX4_pairsTiedWith_65 rfl hl (by decide) rfl (fun ls hl => ?_)
        exact j66  k30 hk30 S_6 x3_9 x4 _ _ _ hf hP hS (lv_sub hl [1, 0, 2] rfl)
  have j30 : ∀ (fu : Nat), ∀ (S : St) (x3 : Int32) (x4 : Int32) (H : Heap) (locs : List Loc) (ls : Array Slot), fixF (fun _ _ _ => none) (f_X4_pairsTiedWith_30 n) fu S x3 x4 = some (r, S2) → PW D y ad S H → va_S (AA ad) s.heap H locs → lv_has ls 5 [(0, .ref (ad 26)), (3, .int x3), (4, .int x4)] → W p l e (headSpec wsX4_pairsTiedWith ({ frames := 30, cells := 0, slots := 0, locals := 747 })).room s m ([.ref (ad 26), .int a1, .int a2] : List Value).toArray below meth c H locs 0 0 (QI below r S2 D y ad ([.ref (ad 26), .int a1, .int a2] : List Value).toArray s) (F0 m 30 ls []) := by
    intro   fu
    induction fu with
    | zero => intro S x3 x4 H locs ls hf hP hS hl; cases hf
    | succ fu ih => exact b30   (fixF (fun _ _ _ => none) (f_X4_pairsTiedWith_30 n) fu) ih
  unfold f_X4_pairsTiedWith at hf
  refine lv_aload_n hx hb dX4_pairsTiedWith_0 rfl (lv_at hl 0 rfl) ?_
  refine w_gR (z := 23) (C := RX4) (T := TX4) hx hb hts n4 hown hK hP t_26 rfl 0 (by decide) L23 rfl rfl dX4_pairsTiedWith_1 ?_
  refine lv_iload_n hx hb dX4_pairsTiedWith_4 rfl (lv_at hl 2 rfl) ?_
  obtain ⟨r_10, S_11, hc_12, hf⟩ := bo_inv hf
  refine w_cv (va_runV (As := [.int a2]) (rest := []) ⟨hx, hb, hml, hown, hts⟩ (c_X6_load l D y ad aL aU hI n S a2 _ _ hc_12) (cwV 1 hts gX4_pairsTiedWith_X6_load rfl rfl rfl (by decide +kernel) ⟨Nat.le_of_ble_eq_true rfl, Nat.le_of_ble_eq_true rfl⟩) (pwu_V t_23 rfl hP hK hZ hS) rfl rfl hl.1 rfl (lv_room (Nat.le_of_ble_eq_true rfl)) dX4_pairsTiedWith_5 ⟨Nat.zero_le _, Nat.zero_le _⟩) hS (fun H locs hP hS => ?_)
  refine lv_aload_n hx hb dX4_pairsTiedWith_8 rfl (lv_at hl 0 rfl) ?_
  refine lv_iload_n hx hb dX4_pairsTiedWith_9 rfl (lv_at hl 1 rfl) ?_
  obtain ⟨r_13, S_14, hc_15, hf⟩ := bo_inv hf
  refine w_cv (va_runV (As := [.int a1]) (rest := []) ⟨hx, hb, hml, hown, hts⟩ (c_X4_demandDifferentNames l D y ad aL aU hI n S_11 a1 _ _ hc_15) (cwV 1 hts gX4_pairsTiedWith_X4_demandDifferentNames rfl rfl rfl (by decide +kernel) ⟨Nat.le_of_ble_eq_true rfl, Nat.le_of_ble_eq_true rfl⟩) (pwu_V t_26 rfl hP hK hZ hS) rfl rfl hl.1 rfl (lv_room (Nat.le_of_ble_eq_true rfl)) dX4_pairsTiedWith_10 ⟨Nat.zero_le _, Nat.zero_le _⟩) hS (fun H locs hP hS => ?_)
  refine lv_aload_n hx hb dX4_pairsTiedWith_13 rfl (lv_at hl 0 rfl) ?_
  refine w_gR (z := 23) (C := RX4) (T := TX4) hx hb hts n4 hown hK hP t_26 rfl 0 (by decide) L23 rfl rfl dX4_pairsTiedWith_14 ?_
  obtain ⟨r_16, S_17, hc_18, hf⟩ := bo_inv hf
  refine w_ci (va_runV (As := []) (rest := []) ⟨hx, hb, hml, hown, hts⟩ (c_X6_hasSolution l D y ad aL aU hI n S_14  _ _ hc_18) (cwV 0 hts gX4_pairsTiedWith_X6_hasSolution rfl rfl rfl (by decide +kernel) ⟨Nat.le_of_ble_eq_true rfl, Nat.le_of_ble_eq_true rfl⟩) (pwu_V t_23 rfl hP hK hZ hS) rfl rfl hl.1 rfl (lv_room (Nat.le_of_ble_eq_true rfl)) dX4_pairsTiedWith_17 ⟨Nat.zero_le _, Nat.zero_le _⟩) hS (fun H locs hP hS => ?_)
  refine lv_if_ne (tgt := 25) hx hb dX4_pairsTiedWith_20 (by decide) (fun b_19 => ?_) (fun b_19 => ?_)
  · have hf := if_f b_19 hf
    refine lv_iconst (v := 0) hx hb dX4_pairsTiedWith_25 (by decide) ?_
    obtain ⟨x3_20, ex3_20, hf⟩ := bd_inv hf
    refine w_topI ex3_20 ?_
    refine lv_istore_n (lv' := [(3, .int x3_20), (0, .ref (ad 26)), (1, .int a1), (2, .int a2)]) hx hb dX4_pairsTiedWith_26 rfl hl (by decide) rfl (fun ls hl => ?_)
    refine lv_iconst (v := 0) hx hb dX4_pairsTiedWith_27 (by decide) ?_
    obtain ⟨x4_21, ex4_21, hf⟩ := bd_inv hf
    refine w_topI ex4_21 ?_
    refine lv_istore (lv' := [(4, .int x4_21), (3, .int x3_20), (0, .ref (ad 26)), (1, .int a1), (2, .int a2)]) hx hb dX4_pairsTiedWith_28 hl (by decide) rfl (fun ls hl => ?_)
    exact j30   n S_17 x3_20 x4_21 _ _ _ hf hP hS (lv_sub hl [2, 1, 0] rfl)
  · have hf := if_t b_19 hf
    refine lv_iconst (v := (-1)) hx hb dX4_pairsTiedWith_23 (by decide) ?_
    exact w_iret hx hb hr hlocks hP hS (rt_inv hf) dX4_pairsTiedWith_24
set_option maxHeartbeats 4000000 in
set_option maxRecDepth 100000 in
theorem c_X4_areTied (l : Launch) (D : va_G) (y : y4) (ad : Nat → Nat) (aL aU : Nat) (hI : Inj ad) (n : Nat) (S : St) (a1 : Int32) (a2 : Int32) (r : Int32) (S2 : St) (hf : f_X4_areTied n S a1 a2 = some (r, S2)) : KI l D y ad aL aU yX4_areTied wsX4_areTied ({ frames := 1, cells := 0, slots := 0, locals := 20 }) [.ref (ad 26), .int a1, .int a2] S r S2 := by
  refine Met.ofW (cc := cX4_areTied) (maxL := 3) (ret := (some .boolean)) (by decide) rfl ?_
  intro p e s m args below meth c s₁ B hml hv
  obtain ⟨rfl, hP, hK, hZ⟩ := hv
  have hx := B.exec
  have hb := B.bytes
  have hr := B.returns
  have hts := atoms_spec (ws := wsX4_areTied) B.pre
  have hown : s.vm.findClass RX4 = some m.cls := findClass_of_methodNamed B.named
  have hlocks := B.notSynchronized
  have hS : va_S (AA ad) s.heap s.heap [] := va_S.rf
  have L9 := hts (.fieldLink RX4 9 "JoinedTheories$PairFinder" "tied" "[I") (by decide +kernel)
  have n4 : ∀ w ∈ wsX40, w ∈ wsX4_areTied := by decide +kernel
  have hl := lv_entry ([.ref (ad 26), .int a1, .int a2]) (n := 3) (Nat.le_of_ble_eq_true rfl)
  rw [lg_entry_eq]
  generalize (lg_sl ([.ref (ad 26), .int a1, .int a2]) ++ List.replicate (3 - (lg_sl ([.ref (ad 26), .int a1, .int a2])).length) Slot.unset).toArray = ls at hl ⊢
  have hl : lv_has ls 3 [(0, .ref (ad 26)), (1, .int a1), (2, .int a2)] := hl
  unfold f_X4_areTied at hf
  refine lv_aload_n hx hb dX4_areTied_0 rfl (lv_at hl 0 rfl) ?_
  refine w_gR (z := 27) (C := RX4) (T := TX4) hx hb hts n4 hown hK hP t_26 rfl 1 (by decide) L9 rfl rfl dX4_areTied_1 ?_
  refine lv_iload_n hx hb dX4_areTied_4 rfl (lv_at hl 1 rfl) ?_
  obtain ⟨g_1, hf⟩ := gd_inv hf
  refine w_iald hx hb hK hP t_27 g_1 dX4_areTied_5 ?_
  refine lv_iconst (v := (-1)) hx hb dX4_areTied_6 (by decide) ?_
  refine lv_icmp_eq (tgt := 20) hx hb dX4_areTied_7 (by decide) (fun b_2 => ?_) (fun b_2 => ?_)
  · have hf := if_t b_2 hf
    refine lv_iconst (v := 0) hx hb dX4_areTied_20 (by decide) ?_
    exact w_zret hx hb hr hlocks (fun h => h (by decide)) hP hS (rt_inv hf) dX4_areTied_21
  · have hf := if_f b_2 hf
    refine lv_aload_n hx hb dX4_areTied_10 rfl (lv_at hl 0 rfl) ?_
    refine w_gR (z := 27) (C := RX4) (T := TX4) hx hb hts n4 hown hK hP t_26 rfl 1 (by decide) L9 rfl rfl dX4_areTied_11 ?_
    refine lv_iload_n hx hb dX4_areTied_14 rfl (lv_at hl 2 rfl) ?_
    obtain ⟨g_3, hf⟩ := gd_inv hf
    refine w_iald hx hb hK hP t_27 g_3 dX4_areTied_15 ?_
    refine lv_iconst (v := (-1)) hx hb dX4_areTied_16 (by decide) ?_
    refine lv_icmp_ne (tgt := 22) hx hb dX4_areTied_17 (by decide) (fun b_4 => ?_) (fun b_4 => ?_)
    · have hf := if_f b_4 hf
      refine lv_aload_n hx hb dX4_areTied_22 rfl (lv_at hl 0 rfl) ?_
      refine w_gR (z := 27) (C := RX4) (T := TX4) hx hb hts n4 hown hK hP t_26 rfl 1 (by decide) L9 rfl rfl dX4_areTied_23 ?_
      refine lv_iload_n hx hb dX4_areTied_26 rfl (lv_at hl 1 rfl) ?_
      obtain ⟨g_5, hf⟩ := gd_inv hf
      refine w_iald hx hb hK hP t_27 g_5 dX4_areTied_27 ?_
      refine lv_iload_n hx hb dX4_areTied_28 rfl (lv_at hl 2 rfl) ?_
      refine lv_ishr hx hb dX4_areTied_29 ?_
      refine lv_iconst (v := 1) hx hb dX4_areTied_30 (by decide) ?_
      refine lv_iand hx hb dX4_areTied_31 ?_
      refine lv_iconst (v := 1) hx hb dX4_areTied_32 (by decide) ?_
      refine lv_icmp_ne (tgt := 54) hx hb dX4_areTied_33 (by decide) (fun b_6 => ?_) (fun b_6 => ?_)
      · have hf := if_f b_6 hf
        refine lv_iconst (v := 0) hx hb dX4_areTied_54 (by decide) ?_
        exact w_zret hx hb hr hlocks (fun h => h (by decide)) hP hS (rt_inv hf) dX4_areTied_55
      · have hf := if_t b_6 hf
        refine lv_aload_n hx hb dX4_areTied_36 rfl (lv_at hl 0 rfl) ?_
        refine w_gR (z := 27) (C := RX4) (T := TX4) hx hb hts n4 hown hK hP t_26 rfl 1 (by decide) L9 rfl rfl dX4_areTied_37 ?_
        refine lv_iload_n hx hb dX4_areTied_40 rfl (lv_at hl 2 rfl) ?_
        obtain ⟨g_7, hf⟩ := gd_inv hf
        refine w_iald hx hb hK hP t_27 g_7 dX4_areTied_41 ?_
        refine lv_iload_n hx hb dX4_areTied_42 rfl (lv_at hl 1 rfl) ?_
        refine lv_ishr hx hb dX4_areTied_43 ?_
        refine lv_iconst (v := 1) hx hb dX4_areTied_44 (by decide) ?_
        refine lv_iand hx hb dX4_areTied_45 ?_
        refine lv_iconst (v := 1) hx hb dX4_areTied_46 (by decide) ?_
        refine lv_icmp_ne (tgt := 54) hx hb dX4_areTied_47 (by decide) (fun b_8 => ?_) (fun b_8 => ?_)
        · have hf := if_f b_8 hf
          refine lv_iconst (v := 0) hx hb dX4_areTied_54 (by decide) ?_
          exact w_zret hx hb hr hlocks (fun h => h (by decide)) hP hS (rt_inv hf) dX4_areTied_55
        · have hf := if_t b_8 hf
          refine lv_iconst (v := 1) hx hb dX4_areTied_50 (by decide) ?_
          refine lv_goto (tgt := 55) hx hb dX4_areTied_51 (by decide) ?_
          exact w_zret hx hb hr hlocks (fun h => h (by decide)) hP hS (rt_inv hf) dX4_areTied_55
    · have hf := if_t b_4 hf
      refine lv_iconst (v := 0) hx hb dX4_areTied_20 (by decide) ?_
      exact w_zret hx hb hr hlocks (fun h => h (by decide)) hP hS (rt_inv hf) dX4_areTied_21
set_option maxHeartbeats 4000000 in
set_option maxRecDepth 100000 in
theorem c_X4_oneIsEqual (l : Launch) (D : va_G) (y : y4) (ad : Nat → Nat) (aL aU : Nat) (hI : Inj ad) (n : Nat) (S : St) (a1 : Int32) (a2 : Int32) (a3 : Int32) (r : Int32) (S2 : St) (hf : f_X4_oneIsEqual n S a1 a2 a3 = some (r, S2)) : KI l D y ad aL aU yX4_oneIsEqual wsX4_oneIsEqual ({ frames := 30, cells := 0, slots := 0, locals := 747 }) [.ref (ad 26), .int a1, .int a2, .int a3] S r S2 := by
  refine Met.ofW (cc := cX4_oneIsEqual) (maxL := 4) (ret := (some .boolean)) (by decide) rfl ?_
  intro p e s m args below meth c s₁ B hml hv
  obtain ⟨rfl, hP, hK, hZ⟩ := hv
  have hx := B.exec
  have hb := B.bytes
  have hr := B.returns
  have hts := atoms_spec (ws := wsX4_oneIsEqual) B.pre
  have hown : s.vm.findClass RX4 = some m.cls := findClass_of_methodNamed B.named
  have hlocks := B.notSynchronized
  have hS : va_S (AA ad) s.heap s.heap [] := va_S.rf
  have L23 := hts (.fieldLink RX4 23 "JoinedTheories$PairFinder" "solver" "LJoinedTheories$Solver;") (by decide +kernel)
  have n4 : ∀ w ∈ wsX40, w ∈ wsX4_oneIsEqual := by decide +kernel
  have hl := lv_entry ([.ref (ad 26), .int a1, .int a2, .int a3]) (n := 4) (Nat.le_of_ble_eq_true rfl)
  rw [lg_entry_eq]
  generalize (lg_sl ([.ref (ad 26), .int a1, .int a2, .int a3]) ++ List.replicate (4 - (lg_sl ([.ref (ad 26), .int a1, .int a2, .int a3])).length) Slot.unset).toArray = ls at hl ⊢
  have hl : lv_has ls 4 [(0, .ref (ad 26)), (1, .int a1), (2, .int a2), (3, .int a3)] := hl
  unfold f_X4_oneIsEqual at hf
  refine lv_aload_n hx hb dX4_oneIsEqual_0 rfl (lv_at hl 0 rfl) ?_
  refine w_gR (z := 23) (C := RX4) (T := TX4) hx hb hts n4 hown hK hP t_26 rfl 0 (by decide) L23 rfl rfl dX4_oneIsEqual_1 ?_
  refine lv_iload_n hx hb dX4_oneIsEqual_4 rfl (lv_at hl 3 rfl) ?_
  obtain ⟨r_1, S_2, hc_3, hf⟩ := bo_inv hf
  refine w_cv (va_runV (As := [.int a3]) (rest := []) ⟨hx, hb, hml, hown, hts⟩ (c_X6_load l D y ad aL aU hI n S a3 _ _ hc_3) (cwV 1 hts gX4_oneIsEqual_X6_load rfl rfl rfl (by decide +kernel) ⟨Nat.le_of_ble_eq_true rfl, Nat.le_of_ble_eq_true rfl⟩) (pwu_V t_23 rfl hP hK hZ hS) rfl rfl hl.1 rfl (lv_room (Nat.le_of_ble_eq_true rfl)) dX4_oneIsEqual_5 ⟨Nat.zero_le _, Nat.zero_le _⟩) hS (fun H locs hP hS => ?_)
  refine lv_aload_n hx hb dX4_oneIsEqual_8 rfl (lv_at hl 0 rfl) ?_
  refine lv_iload_n hx hb dX4_oneIsEqual_9 rfl (lv_at hl 1 rfl) ?_
  obtain ⟨r_4, S_5, hc_6, hf⟩ := bo_inv hf
  refine w_cv (va_runV (As := [.int a1]) (rest := []) ⟨hx, hb, hml, hown, hts⟩ (c_X4_demandDifferentNames l D y ad aL aU hI n S_2 a1 _ _ hc_6) (cwV 1 hts gX4_oneIsEqual_X4_demandDifferentNames rfl rfl rfl (by decide +kernel) ⟨Nat.le_of_ble_eq_true rfl, Nat.le_of_ble_eq_true rfl⟩) (pwu_V t_26 rfl hP hK hZ hS) rfl rfl hl.1 rfl (lv_room (Nat.le_of_ble_eq_true rfl)) dX4_oneIsEqual_10 ⟨Nat.zero_le _, Nat.zero_le _⟩) hS (fun H locs hP hS => ?_)
  refine lv_aload_n hx hb dX4_oneIsEqual_13 rfl (lv_at hl 0 rfl) ?_
  refine lv_iload_n hx hb dX4_oneIsEqual_14 rfl (lv_at hl 2 rfl) ?_
  obtain ⟨r_7, S_8, hc_9, hf⟩ := bo_inv hf
  refine w_cv (va_runV (As := [.int a2]) (rest := []) ⟨hx, hb, hml, hown, hts⟩ (c_X4_demandDifferentNames l D y ad aL aU hI n S_5 a2 _ _ hc_9) (cwV 1 hts gX4_oneIsEqual_X4_demandDifferentNames rfl rfl rfl (by decide +kernel) ⟨Nat.le_of_ble_eq_true rfl, Nat.le_of_ble_eq_true rfl⟩) (pwu_V t_26 rfl hP hK hZ hS) rfl rfl hl.1 rfl (lv_room (Nat.le_of_ble_eq_true rfl)) dX4_oneIsEqual_15 ⟨Nat.zero_le _, Nat.zero_le _⟩) hS (fun H locs hP hS => ?_)
  refine lv_aload_n hx hb dX4_oneIsEqual_18 rfl (lv_at hl 0 rfl) ?_
  refine w_gR (z := 23) (C := RX4) (T := TX4) hx hb hts n4 hown hK hP t_26 rfl 0 (by decide) L23 rfl rfl dX4_oneIsEqual_19 ?_
  obtain ⟨r_10, S_11, hc_12, hf⟩ := bo_inv hf
  refine w_ci (va_runV (As := []) (rest := []) ⟨hx, hb, hml, hown, hts⟩ (c_X6_hasSolution l D y ad aL aU hI n S_8  _ _ hc_12) (cwV 0 hts gX4_oneIsEqual_X6_hasSolution rfl rfl rfl (by decide +kernel) ⟨Nat.le_of_ble_eq_true rfl, Nat.le_of_ble_eq_true rfl⟩) (pwu_V t_23 rfl hP hK hZ hS) rfl rfl hl.1 rfl (lv_room (Nat.le_of_ble_eq_true rfl)) dX4_oneIsEqual_22 ⟨Nat.zero_le _, Nat.zero_le _⟩) hS (fun H locs hP hS => ?_)
  refine lv_if_ne (tgt := 32) hx hb dX4_oneIsEqual_25 (by decide) (fun b_13 => ?_) (fun b_13 => ?_)
  · have hf := if_f b_13 hf
    refine lv_iconst (v := 0) hx hb dX4_oneIsEqual_32 (by decide) ?_
    exact w_zret hx hb hr hlocks (fun h => h (by decide)) hP hS (rt_inv hf) dX4_oneIsEqual_33
  · have hf := if_t b_13 hf
    refine lv_iconst (v := 1) hx hb dX4_oneIsEqual_28 (by decide) ?_
    refine lv_goto (tgt := 33) hx hb dX4_oneIsEqual_29 (by decide) ?_
    exact w_zret hx hb hr hlocks (fun h => h (by decide)) hP hS (rt_inv hf) dX4_oneIsEqual_33
set_option maxHeartbeats 4000000 in
set_option maxRecDepth 100000 in
theorem c_X4_asAnswerOf (l : Launch) (D : va_G) (y : y4) (ad : Nat → Nat) (aL aU : Nat) (hI : Inj ad) (n : Nat) (S : St) (a0 : Int32) (r : Int32) (S2 : St) (hf : f_X4_asAnswerOf n S a0 = some (r, S2)) : KI l D y ad aL aU yX4_asAnswerOf wsX4_asAnswerOf ({ frames := 1, cells := 0, slots := 0, locals := 20 }) [.int a0] S r S2 := by
  refine Met.ofW (cc := cX4_asAnswerOf) (maxL := 1) (ret := (some .int)) (by decide) rfl ?_
  intro p e s m args below meth c s₁ B hml hv
  obtain ⟨rfl, hP, hK, hZ⟩ := hv
  have hx := B.exec
  have hb := B.bytes
  have hr := B.returns
  have hts := atoms_spec (ws := wsX4_asAnswerOf) B.pre
  have hown : s.vm.findClass RX4 = some m.cls := findClass_of_methodNamed B.named
  have hlocks := B.notSynchronized
  have hS : va_S (AA ad) s.heap s.heap [] := va_S.rf
  have K15 := hts (.constant RX4 15 (-2000000001)) (by decide +kernel)
  have hl := lv_entry ([.int a0]) (n := 1) (Nat.le_of_ble_eq_true rfl)
  rw [lg_entry_eq]
  generalize (lg_sl ([.int a0]) ++ List.replicate (1 - (lg_sl ([.int a0])).length) Slot.unset).toArray = ls at hl ⊢
  have hl : lv_has ls 1 [(0, .int a0)] := hl
  unfold f_X4_asAnswerOf at hf
  refine lv_iload_n hx hb dX4_asAnswerOf_0 rfl (lv_at hl 0 rfl) ?_
  refine lv_if_lt (tgt := 27) hx hb dX4_asAnswerOf_1 (by decide) (fun b_1 => ?_) (fun b_1 => ?_)
  · have hf := if_t b_1 hf
    refine lv_ldc (v := (-2000000001)) hx hb hown K15 dX4_asAnswerOf_27 ?_
    exact w_iret hx hb hr hlocks hP hS (rt_inv hf) dX4_asAnswerOf_29
  · have hf := if_f b_1 hf
    refine lv_iload_n hx hb dX4_asAnswerOf_4 rfl (lv_at hl 0 rfl) ?_
    refine lv_bipush (v := (10)) hx hb dX4_asAnswerOf_5 (by decide) ?_
    refine lv_icmp_ge (tgt := 27) hx hb dX4_asAnswerOf_7 (by decide) (fun b_2 => ?_) (fun b_2 => ?_)
    · have hf := if_t b_2 hf
      refine lv_ldc (v := (-2000000001)) hx hb hown K15 dX4_asAnswerOf_27 ?_
      exact w_iret hx hb hr hlocks hP hS (rt_inv hf) dX4_asAnswerOf_29
    · have hf := if_f b_2 hf
      refine lv_bipush (v := (10)) hx hb dX4_asAnswerOf_10 (by decide) ?_
      refine va_getsN (v := .ref aL) hx hb hZ.1.1 hS hown (va_Nw.use rfl hZ.2.2.1) (fun _ h => h) dX4_asAnswerOf_12 ?_
      refine lv_iload_n hx hb dX4_asAnswerOf_15 rfl (lv_at hl 0 rfl) ?_
      obtain ⟨g_3, hf⟩ := gd_inv hf
      refine va_ti hx hb hZ.1.2 hS g_3 rfl dX4_asAnswerOf_16 ?_
      refine lv_imul hx hb dX4_asAnswerOf_17 ?_
      refine va_getsN (v := .ref aU) hx hb hZ.2.1.1 hS hown (va_Nw.use rfl hZ.2.2.2) (fun _ h => h) dX4_asAnswerOf_18 ?_
      refine lv_iload_n hx hb dX4_asAnswerOf_21 rfl (lv_at hl 0 rfl) ?_
      obtain ⟨g_4, hf⟩ := gd_inv hf
      refine va_ti hx hb hZ.2.1.2 hS g_4 rfl dX4_asAnswerOf_22 ?_
      refine lv_iadd hx hb dX4_asAnswerOf_23 ?_
      refine lv_goto (tgt := 29) hx hb dX4_asAnswerOf_24 (by decide) ?_
      exact w_iret hx hb hr hlocks hP hS (rt_inv hf) dX4_asAnswerOf_29
set_option maxHeartbeats 4000000 in
set_option maxRecDepth 100000 in
theorem c_X4_find (l : Launch) (D : va_G) (y : y4) (ad : Nat → Nat) (aL aU : Nat) (hI : Inj ad) (n : Nat) (S : St) (a1 : Int32) (r : Unit) (S2 : St) (hf : f_X4_find n S a1 = some (r, S2)) : KV l D y ad aL aU yX4_find wsX4_find ({ frames := 31, cells := 0, slots := 0, locals := 771 }) [.ref (ad 26), .int a1] S r S2 := by
  refine Met.ofW (cc := cX4_find) (maxL := 4) (ret := none) (by decide) rfl ?_
  intro p e s m args below meth c s₁ B hml hv
  obtain ⟨rfl, hP, hK, hZ⟩ := hv
  have hx := B.exec
  have hb := B.bytes
  have hr := B.returns
  have hts := atoms_spec (ws := wsX4_find) B.pre
  have hown : s.vm.findClass RX4 = some m.cls := findClass_of_methodNamed B.named
  have hlocks := B.notSynchronized
  have hS : va_S (AA ad) s.heap s.heap [] := va_S.rf
  have L9 := hts (.fieldLink RX4 9 "JoinedTheories$PairFinder" "tied" "[I") (by decide +kernel)
  have L16 := hts (.fieldLink RX4 16 "JoinedTheories$PairFinder" "first" "I") (by decide +kernel)
  have L20 := hts (.fieldLink RX4 20 "JoinedTheories$PairFinder" "second" "I") (by decide +kernel)
  have K15 := hts (.constant RX4 15 (-2000000001)) (by decide +kernel)
  have n4 : ∀ w ∈ wsX40, w ∈ wsX4_find := by decide +kernel
  have hl := lv_entry ([.ref (ad 26), .int a1]) (n := 4) (Nat.le_of_ble_eq_true rfl)
  rw [lg_entry_eq]
  generalize (lg_sl ([.ref (ad 26), .int a1]) ++ List.replicate (4 - (lg_sl ([.ref (ad 26), .int a1])).length) Slot.unset).toArray = ls at hl ⊢
  have hl : lv_has ls 4 [(0, .ref (ad 26)), (1, .int a1)] := hl
  have j115 : ∀ (x1 : Int32) (k40 : St → Int32 → Option (Unit × St)) (hk40 : ∀ (S : St) (x2 : Int32) (H : Heap) (locs : List Loc) (ls : Array Slot), k40 S x2 = some (r, S2) → PW D y ad S H → va_S (AA ad) s.heap H locs → lv_has ls 4 [(0, .ref (ad 26)), (1, .int x1), (2, .int x2)] → W p l e (headSpec wsX4_find ({ frames := 31, cells := 0, slots := 0, locals := 771 })).room s m ([.ref (ad 26), .int a1] : List Value).toArray below meth c H locs 0 0 (QV below r S2 D y ad ([.ref (ad 26), .int a1] : List Value).toArray s) (F0 m 40 ls [])), ∀ (S : St) (x2 : Int32) (H : Heap) (locs : List Loc) (ls : Array Slot), f_X4_find_115 n x1 k40 S x2 = some (r, S2) → PW D y ad S H → va_S (AA ad) s.heap H locs → lv_has ls 4 [(0, .ref (ad 26)), (1, .int x1), (2, .int x2)] → W p l e (headSpec wsX4_find ({ frames := 31, cells := 0, slots := 0, locals := 771 })).room s m ([.ref (ad 26), .int a1] : List Value).toArray below meth c H locs 0 0 (QV below r S2 D y ad ([.ref (ad 26), .int a1] : List Value).toArray s) (F0 m 115 ls []) := by
    intro x1 k40 hk40 S x2 H locs ls hf hP hS hl
    unfold f_X4_find_115 at hf
    obtain ⟨x2_1, ex2_1, hf⟩ := bd_inv hf
    refine lv_iinc (v := x2_1) (lv' := [(2, .int x2_1), (0, .ref (ad 26)), (1, .int x1)]) hx hb dX4_find_115 hl (k := 2) rfl (by rw [ex2_1]; rfl) (by decide) rfl (fun ls hl => ?_)
    refine lv_goto (tgt := 40) hx hb dX4_find_118 (by decide) ?_
    exact hk40 S x2_1 _ _ _ hf hP hS (lv_sub hl [1, 2, 0] rfl)
  have j109 : ∀ (x1 : Int32) (x2 : Int32) (k40 : St → Int32 → Option (Unit × St)) (hk40 : ∀ (S : St) (x2 : Int32) (H : Heap) (locs : List Loc) (ls : Array Slot), k40 S x2 = some (r, S2) → PW D y ad S H → va_S (AA ad) s.heap H locs → lv_has ls 4 [(0, .ref (ad 26)), (1, .int x1), (2, .int x2)] → W p l e (headSpec wsX4_find ({ frames := 31, cells := 0, slots := 0, locals := 771 })).room s m ([.ref (ad 26), .int a1] : List Value).toArray below meth c H locs 0 0 (QV below r S2 D y ad ([.ref (ad 26), .int a1] : List Value).toArray s) (F0 m 40 ls [])) (k59 : St → Int32 → Option (Unit × St)) (hk59 : ∀ (S : St) (x3 : Int32) (H : Heap) (locs : List Loc) (ls : Array Slot), k59 S x3 = some (r, S2) → PW D y ad S H → va_S (AA ad) s.heap H locs → lv_has ls 4 [(0, .ref (ad 26)), (1, .int x1), (2, .int x2), (3, .int x3)] → W p l e (headSpec wsX4_find ({ frames := 31, cells := 0, slots := 0, locals := 771 })).room s m ([.ref (ad 26), .int a1] : List Value).toArray below meth c H locs 0 0 (QV below r S2 D y ad ([.ref (ad 26), .int a1] : List Value).toArray s) (F0 m 59 ls [])), ∀ (S : St) (x3 : Int32) (H : Heap) (locs : List Loc) (ls : Array Slot), f_X4_find_109 n x1 x2 k40 k59 S x3 = some (r, S2) → PW D y ad S H → va_S (AA ad) s.heap H locs → lv_has ls 4 [(0, .ref (ad 26)), (1, .int x1), (2, .int x2), (3, .int x3)] → W p l e (headSpec wsX4_find ({ frames := 31, cells := 0, slots := 0, locals := 771 })).room s m ([.ref (ad 26), .int a1] : List Value).toArray below meth c H locs 0 0 (QV below r S2 D y ad ([.ref (ad 26), .int a1] : List Value).toArray s) (F0 m 109 ls []) := by
    intro x1 x2 k40 hk40 k59 hk59 S x3 H locs ls hf hP hS hl
    unfold f_X4_find_109 at hf
    obtain ⟨x3_2, ex3_2, hf⟩ := bd_inv hf
    refine lv_iinc (v := x3_2) (lv' := [(3, .int x3_2), (0, .ref (ad 26)), (1, .int x1), (2, .int x2)]) hx hb dX4_find_109 hl (k := 3) rfl (by rw [ex3_2]; rfl) (by decide) rfl (fun ls hl => ?_)
    refine lv_goto (tgt := 59) hx hb dX4_find_112 (by decide) ?_
    exact hk59 S x3_2 _ _ _ hf hP hS (lv_sub hl [1, 2, 3, 0] rfl)
  have b59 : ∀ (x1 : Int32) (x2 : Int32) (k40 : St → Int32 → Option (Unit × St)) (hk40 : ∀ (S : St) (x2 : Int32) (H : Heap) (locs : List Loc) (ls : Array Slot), k40 S x2 = some (r, S2) → PW D y ad S H → va_S (AA ad) s.heap H locs → lv_has ls 4 [(0, .ref (ad 26)), (1, .int x1), (2, .int x2)] → W p l e (headSpec wsX4_find ({ frames := 31, cells := 0, slots := 0, locals := 771 })).room s m ([.ref (ad 26), .int a1] : List Value).toArray below meth c H locs 0 0 (QV below r S2 D y ad ([.ref (ad 26), .int a1] : List Value).toArray s) (F0 m 40 ls [])) (k59 : St → Int32 → Option (Unit × St)) (hk59 : ∀ (S : St) (x3 : Int32) (H : Heap) (locs : List Loc) (ls : Array Slot), k59 S x3 = some (r, S2) → PW D y ad S H → va_S (AA ad) s.heap H locs → lv_has ls 4 [(0, .ref (ad 26)), (1, .int x1), (2, .int x2), (3, .int x3)] → W p l e (headSpec wsX4_find ({ frames := 31, cells := 0, slots := 0, locals := 771 })).room s m ([.ref (ad 26), .int a1] : List Value).toArray below meth c H locs 0 0 (QV below r S2 D y ad ([.ref (ad 26), .int a1] : List Value).toArray s) (F0 m 59 ls [])), ∀ (S : St) (x3 : Int32) (H : Heap) (locs : List Loc) (ls : Array Slot), f_X4_find_59 n x1 x2 k40 k59 S x3 = some (r, S2) → PW D y ad S H → va_S (AA ad) s.heap H locs → lv_has ls 4 [(0, .ref (ad 26)), (1, .int x1), (2, .int x2), (3, .int x3)] → W p l e (headSpec wsX4_find ({ frames := 31, cells := 0, slots := 0, locals := 771 })).room s m ([.ref (ad 26), .int a1] : List Value).toArray below meth c H locs 0 0 (QV below r S2 D y ad ([.ref (ad 26), .int a1] : List Value).toArray s) (F0 m 59 ls []) := by
    intro x1 x2 k40 hk40 k59 hk59 S x3 H locs ls hf hP hS hl
    unfold f_X4_find_59 at hf
    refine lv_iload_n hx hb dX4_find_59 rfl (lv_at hl 3 rfl) ?_
    refine lv_bipush (v := (10)) hx hb dX4_find_60 (by decide) ?_
    refine lv_icmp_ge (tgt := 115) hx hb dX4_find_62 (by decide) (fun b_3 => ?_) (fun b_3 => ?_)
    · have hf := if_t b_3 hf
      exact j115 x1 k40 hk40 S x2 _ _ _ hf hP hS (lv_sub hl [0, 1, 2] rfl)
    · have hf := if_f b_3 hf
      refine lv_aload_n hx hb dX4_find_65 rfl (lv_at hl 0 rfl) ?_
      refine w_gI (C := RX4) (T := TX4) hx hb hts n4 hown hK hP t_26 rfl 2 (by decide) L16 rfl dX4_find_66 ?_
      refine lv_ldc (v := (-2000000001)) hx hb hown K15 dX4_find_69 ?_
      refine lv_icmp_ne (tgt := 115) hx hb dX4_find_71 (by decide) (fun b_4 => ?_) (fun b_4 => ?_)
      · have hf := if_f b_4 hf
        exact j115 x1 k40 hk40 S x2 _ _ _ hf hP hS (lv_sub hl [0, 1, 2] rfl)
      · have hf := if_t b_4 hf
        refine lv_aload_n hx hb dX4_find_74 rfl (lv_at hl 0 rfl) ?_
        refine lv_iload_n hx hb dX4_find_75 rfl (lv_at hl 2 rfl) ?_
        refine lv_iload_n hx hb dX4_find_76 rfl (lv_at hl 3 rfl) ?_
        obtain ⟨r_5, S_6, hc_7, hf⟩ := bo_inv hf
        refine w_ci (va_runV (As := [.int x2, .int x3]) (rest := []) ⟨hx, hb, hml, hown, hts⟩ (c_X4_areTied l D y ad aL aU hI n S x2 x3 _ _ hc_7) (cwV 2 hts gX4_find_X4_areTied rfl rfl rfl (by decide +kernel) ⟨Nat.le_of_ble_eq_true rfl, Nat.le_of_ble_eq_true rfl⟩) (pwu_V t_26 rfl hP hK hZ hS) rfl rfl hl.1 rfl (lv_room (Nat.le_of_ble_eq_true rfl)) dX4_find_77 ⟨Nat.zero_le _, Nat.zero_le _⟩) hS (fun H locs hP hS => ?_)
        refine lv_if_eq (tgt := 109) hx hb dX4_find_80 (by decide) (fun b_8 => ?_) (fun b_8 => ?_)
        · have hf := if_t b_8 hf
          exact j109 x1 x2 k40 hk40 k59 hk59 S_6 x3 _ _ _ hf hP hS (lv_sub hl [0, 1, 2, 3] rfl)
        · have hf := if_f b_8 hf
          refine lv_aload_n hx hb dX4_find_83 rfl (lv_at hl 0 rfl) ?_
          refine lv_iload_n hx hb dX4_find_84 rfl (lv_at hl 2 rfl) ?_
          refine lv_iload_n hx hb dX4_find_85 rfl (lv_at hl 3 rfl) ?_
          refine lv_iload_n hx hb dX4_find_86 rfl (lv_at hl 1 rfl) ?_
          obtain ⟨r_9, S_10, hc_11, hf⟩ := bo_inv hf
          refine w_ci (va_runV (As := [.int x2, .int x3, .int x1]) (rest := []) ⟨hx, hb, hml, hown, hts⟩ (c_X4_oneIsEqual l D y ad aL aU hI n S_6 x2 x3 x1 _ _ hc_11) (cwV 3 hts gX4_find_X4_oneIsEqual rfl rfl rfl (by decide +kernel) ⟨Nat.le_of_ble_eq_true rfl, Nat.le_of_ble_eq_true rfl⟩) (pwu_V t_26 rfl hP hK hZ hS) rfl rfl hl.1 rfl (lv_room (Nat.le_of_ble_eq_true rfl)) dX4_find_87 ⟨Nat.zero_le _, Nat.zero_le _⟩) hS (fun H locs hP hS => ?_)
          refine lv_if_eq (tgt := 109) hx hb dX4_find_90 (by decide) (fun b_12 => ?_) (fun b_12 => ?_)
          · have hf := if_t b_12 hf
            exact j109 x1 x2 k40 hk40 k59 hk59 S_10 x3 _ _ _ hf hP hS (lv_sub hl [0, 1, 2, 3] rfl)
          · have hf := if_f b_12 hf
            refine lv_aload_n hx hb dX4_find_93 rfl (lv_at hl 0 rfl) ?_
            refine lv_iload_n hx hb dX4_find_94 rfl (lv_at hl 2 rfl) ?_
            obtain ⟨r_13, S_14, hc_15, hf⟩ := bo_inv hf
            refine w_ci (va_runS (As := [.int x2]) (rest := [.ref (ad 26)]) ⟨hx, hb, hml, hown, hts⟩ (c_X4_asAnswerOf l D y ad aL aU hI n S_10 x2 _ _ hc_15) (cwS 1 hts gX4_find_X4_asAnswerOf rfl rfl rfl (by decide +kernel) ⟨Nat.le_of_ble_eq_true rfl, Nat.le_of_ble_eq_true rfl⟩) (pwu_S hP hK hZ hS) rfl rfl hl.1 rfl (lv_room (Nat.le_of_ble_eq_true rfl)) dX4_find_95 ⟨Nat.zero_le _, Nat.zero_le _⟩) hS (fun H locs hP hS => ?_)
            obtain ⟨S_16, eS_16, hf⟩ := bd_inv hf
            refine w_pI (ty := .int) (C := RX4) (T := TX4) hx hb hts n4 tyX4 tyX4_ok nmX4 hown hK hI hP hS t_26 rfl 2 (by decide) L16 rfl rfl rfl ⟨rfl, rfl⟩ dX4_find_98 (fun H locs hP hS => ?_)
            rw [← eS_16] at hP
            refine lv_aload_n hx hb dX4_find_101 rfl (lv_at hl 0 rfl) ?_
            refine lv_iload_n hx hb dX4_find_102 rfl (lv_at hl 3 rfl) ?_
            obtain ⟨r_17, S_18, hc_19, hf⟩ := bo_inv hf
            refine w_ci (va_runS (As := [.int x3]) (rest := [.ref (ad 26)]) ⟨hx, hb, hml, hown, hts⟩ (c_X4_asAnswerOf l D y ad aL aU hI n S_16 x3 _ _ hc_19) (cwS 1 hts gX4_find_X4_asAnswerOf rfl rfl rfl (by decide +kernel) ⟨Nat.le_of_ble_eq_true rfl, Nat.le_of_ble_eq_true rfl⟩) (pwu_S hP hK hZ hS) rfl rfl hl.1 rfl (lv_room (Nat.le_of_ble_eq_true rfl)) dX4_find_103 ⟨Nat.zero_le _, Nat.zero_le _⟩) hS (fun H locs hP hS => ?_)
            obtain ⟨S_20, eS_20, hf⟩ := bd_inv hf
            refine w_pI (ty := .int) (C := RX4) (T := TX4) hx hb hts n4 tyX4 tyX4_ok nmX4 hown hK hI hP hS t_26 rfl 3 (by decide) L20 rfl rfl rfl ⟨rfl, rfl⟩ dX4_find_106 (fun H locs hP hS => ?_)
            rw [← eS_20] at hP
            exact j109 x1 x2 k40 hk40 k59 hk59 S_20 x3 _ _ _ hf hP hS (lv_sub hl [0, 1, 2, 3] rfl)
  have j59 : ∀ (x1 : Int32) (x2 : Int32) (k40 : St → Int32 → Option (Unit × St)) (hk40 : ∀ (S : St) (x2 : Int32) (H : Heap) (locs : List Loc) (ls : Array Slot), k40 S x2 = some (r, S2) → PW D y ad S H → va_S (AA ad) s.heap H locs → lv_has ls 4 [(0, .ref (ad 26)), (1, .int x1), (2, .int x2)] → W p l e (headSpec wsX4_find ({ frames := 31, cells := 0, slots := 0, locals := 771 })).room s m ([.ref (ad 26), .int a1] : List Value).toArray below meth c H locs 0 0 (QV below r S2 D y ad ([.ref (ad 26), .int a1] : List Value).toArray s) (F0 m 40 ls [])) (fu : Nat), ∀ (S : St) (x3 : Int32) (H : Heap) (locs : List Loc) (ls : Array Slot), fixF (fun _ _ => none) (f_X4_find_59 n x1 x2 k40) fu S x3 = some (r, S2) → PW D y ad S H → va_S (AA ad) s.heap H locs → lv_has ls 4 [(0, .ref (ad 26)), (1, .int x1), (2, .int x2), (3, .int x3)] → W p l e (headSpec wsX4_find ({ frames := 31, cells := 0, slots := 0, locals := 771 })).room s m ([.ref (ad 26), .int a1] : List Value).toArray below meth c H locs 0 0 (QV below r S2 D y ad ([.ref (ad 26), .int a1] : List Value).toArray s) (F0 m 59 ls []) := by
    intro x1 x2 k40 hk40 fu
    induction fu with
    | zero => intro S x3 H locs ls hf hP hS hl; cases hf
    | succ fu ih => exact b59 x1 x2 k40 hk40 (fixF (fun _ _ => none) (f_X4_find_59 n x1 x2 k40) fu) ih
  have b40 : ∀ (x1 : Int32) (k40 : St → Int32 → Option (Unit × St)) (hk40 : ∀ (S : St) (x2 : Int32) (H : Heap) (locs : List Loc) (ls : Array Slot), k40 S x2 = some (r, S2) → PW D y ad S H → va_S (AA ad) s.heap H locs → lv_has ls 4 [(0, .ref (ad 26)), (1, .int x1), (2, .int x2)] → W p l e (headSpec wsX4_find ({ frames := 31, cells := 0, slots := 0, locals := 771 })).room s m ([.ref (ad 26), .int a1] : List Value).toArray below meth c H locs 0 0 (QV below r S2 D y ad ([.ref (ad 26), .int a1] : List Value).toArray s) (F0 m 40 ls [])), ∀ (S : St) (x2 : Int32) (H : Heap) (locs : List Loc) (ls : Array Slot), f_X4_find_40 n x1 k40 S x2 = some (r, S2) → PW D y ad S H → va_S (AA ad) s.heap H locs → lv_has ls 4 [(0, .ref (ad 26)), (1, .int x1), (2, .int x2)] → W p l e (headSpec wsX4_find ({ frames := 31, cells := 0, slots := 0, locals := 771 })).room s m ([.ref (ad 26), .int a1] : List Value).toArray below meth c H locs 0 0 (QV below r S2 D y ad ([.ref (ad 26), .int a1] : List Value).toArray s) (F0 m 40 ls []) := by
    intro x1 k40 hk40 S x2 H locs ls hf hP hS hl
    unfold f_X4_find_40 at hf
    refine lv_iload_n hx hb dX4_find_40 rfl (lv_at hl 2 rfl) ?_
    refine lv_bipush (v := (10)) hx hb dX4_find_41 (by decide) ?_
    refine lv_icmp_ge (tgt := 121) hx hb dX4_find_43 (by decide) (fun b_21 => ?_) (fun b_21 => ?_)
    · have hf := if_t b_21 hf
      exact w_vret hx hb hr hlocks hP hS (rt_inv hf) dX4_find_121
    · have hf := if_f b_21 hf
      refine lv_aload_n hx hb dX4_find_46 rfl (lv_at hl 0 rfl) ?_
      refine w_gI (C := RX4) (T := TX4) hx hb hts n4 hown hK hP t_26 rfl 2 (by decide) L16 rfl dX4_find_47 ?_
      refine lv_ldc (v := (-2000000001)) hx hb hown K15 dX4_find_50 ?_
      refine lv_icmp_ne (tgt := 121) hx hb dX4_find_52 (by decide) (fun b_22 => ?_) (fun b_22 => ?_)
      · have hf := if_f b_22 hf
        exact w_vret hx hb hr hlocks hP hS (rt_inv hf) dX4_find_121
      · have hf := if_t b_22 hf
        refine lv_iload_n hx hb dX4_find_55 rfl (lv_at hl 2 rfl) ?_
        refine lv_iconst (v := 1) hx hb dX4_find_56 (by decide) ?_
        refine lv_iadd hx hb dX4_find_57 ?_
        obtain ⟨x3_23, ex3_23, hf⟩ := bd_inv hf
        refine w_topI ex3_23 ?_
        refine lv_istore_n (lv' := [(3, .int x3_23), (0, .ref (ad 26)), (1, .int x1), (2, .int x2)]) hx hb dX4_find_58 rfl hl (by decide) rfl (fun ls hl => ?_)
        exact j59 x1 x2 k40 hk40 n S x3_23 _ _ _ hf hP hS (lv_sub hl [1, 2, 3, 0] rfl)
  have j40 : ∀ (x1 : Int32) (fu : Nat), ∀ (S : St) (x2 : Int32) (H : Heap) (locs : List Loc) (ls : Array Slot), fixF (fun _ _ => none) (f_X4_find_40 n x1) fu S x2 = some (r, S2) → PW D y ad S H → va_S (AA ad) s.heap H locs → lv_has ls 4 [(0, .ref (ad 26)), (1, .int x1), (2, .int x2)] → W p l e (headSpec wsX4_find ({ frames := 31, cells := 0, slots := 0, locals := 771 })).room s m ([.ref (ad 26), .int a1] : List Value).toArray below meth c H locs 0 0 (QV below r S2 D y ad ([.ref (ad 26), .int a1] : List Value).toArray s) (F0 m 40 ls []) := by
    intro x1  fu
    induction fu with
    | zero => intro S x2 H locs ls hf hP hS hl; cases hf
    | succ fu ih => exact b40 x1  (fixF (fun _ _ => none) (f_X4_find_40 n x1) fu) ih
  have b14 : ∀ (x1 : Int32) (k14 : St → Int32 → Option (Unit × St)) (hk14 : ∀ (S : St) (x2 : Int32) (H : Heap) (locs : List Loc) (ls : Array Slot), k14 S x2 = some (r, S2) → PW D y ad S H → va_S (AA ad) s.heap H locs → lv_has ls 4 [(0, .ref (ad 26)), (1, .int x1), (2, .int x2)] → W p l e (headSpec wsX4_find ({ frames := 31, cells := 0, slots := 0, locals := 771 })).room s m ([.ref (ad 26), .int a1] : List Value).toArray below meth c H locs 0 0 (QV below r S2 D y ad ([.ref (ad 26), .int a1] : List Value).toArray s) (F0 m 14 ls [])), ∀ (S : St) (x2 : Int32) (H : Heap) (locs : List Loc) (ls : Array Slot), f_X4_find_14 n x1 k14 S x2 = some (r, S2) → PW D y ad S H → va_S (AA ad) s.heap H locs → lv_has ls 4 [(0, .ref (ad 26)), (1, .int x1), (2, .int x2)] → W p l e (headSpec wsX4_find ({ frames := 31, cells := 0, slots := 0, locals := 771 })).room s m ([.ref (ad 26), .int a1] : List Value).toArray below meth c H locs 0 0 (QV below r S2 D y ad ([.ref (ad 26), .int a1] : List Value).toArray s) (F0 m 14 ls []) := by
    intro x1 k14 hk14 S x2 H locs ls hf hP hS hl
    unfold f_X4_find_14 at hf
    refine lv_iload_n hx hb dX4_find_14 rfl (lv_at hl 2 rfl) ?_
    refine lv_bipush (v := (10)) hx hb dX4_find_15 (by decide) ?_
    refine lv_icmp_ge (tgt := 38) hx hb dX4_find_17 (by decide) (fun b_24 => ?_) (fun b_24 => ?_)
    · have hf := if_t b_24 hf
      refine lv_iconst (v := 0) hx hb dX4_find_38 (by decide) ?_
      obtain ⟨x2_25, ex2_25, hf⟩ := bd_inv hf
      refine w_topI ex2_25 ?_
      refine lv_istore_n (lv' := [(2, .int x2_25), (0, .ref (ad 26)), (1, .int x1)]) hx hb dX4_find_39 rfl hl (by decide) rfl (fun ls hl => ?_)
      exact j40 x1  n S x2_25 _ _ _ hf hP hS (lv_sub hl [1, 2, 0] rfl)
    · have hf := if_f b_24 hf
      refine lv_aload_n hx hb dX4_find_20 rfl (lv_at hl 0 rfl) ?_
      refine w_gR (z := 27) (C := RX4) (T := TX4) hx hb hts n4 hown hK hP t_26 rfl 1 (by decide) L9 rfl rfl dX4_find_21 ?_
      refine lv_iload_n hx hb dX4_find_24 rfl (lv_at hl 2 rfl) ?_
      refine lv_aload_n hx hb dX4_find_25 rfl (lv_at hl 0 rfl) ?_
      refine lv_iload_n hx hb dX4_find_26 rfl (lv_at hl 2 rfl) ?_
      refine lv_iload_n hx hb dX4_find_27 rfl (lv_at hl 1 rfl) ?_
      obtain ⟨r_26, S_27, hc_28, hf⟩ := bo_inv hf
      refine w_ci (va_runV (As := [.int x2, .int x1]) (rest := [.int x2, .ref (ad 27)]) ⟨hx, hb, hml, hown, hts⟩ (c_X4_pairsTiedWith l D y ad aL aU hI n S x2 x1 _ _ hc_28) (cwV 2 hts gX4_find_X4_pairsTiedWith rfl rfl rfl (by decide +kernel) ⟨Nat.le_of_ble_eq_true rfl, Nat.le_of_ble_eq_true rfl⟩) (pwu_V t_26 rfl hP hK hZ hS) rfl rfl hl.1 rfl (lv_room (Nat.le_of_ble_eq_true rfl)) dX4_find_28 ⟨Nat.zero_le _, Nat.zero_le _⟩) hS (fun H locs hP hS => ?_)
      obtain ⟨g_29, hf⟩ := gd_inv hf
      obtain ⟨S_30, eS_30, hf⟩ := bd_inv hf
      refine w_iast hx hb hK hI hP hS t_27 g_29 dX4_find_31 (fun H locs hP hS => ?_)
      rw [← eS_30] at hP
      obtain ⟨x2_31, ex2_31, hf⟩ := bd_inv hf
      refine lv_iinc (v := x2_31) (lv' := [(2, .int x2_31), (0, .ref (ad 26)), (1, .int x1)]) hx hb dX4_find_32 hl (k := 2) rfl (by rw [ex2_31]; rfl) (by decide) rfl (fun ls hl => ?_)
      refine lv_goto (tgt := 14) hx hb dX4_find_35 (by decide) ?_
      exact hk14 S_30 x2_31 _ _ _ hf hP hS (lv_sub hl [1, 2, 0] rfl)
  have j14 : ∀ (x1 : Int32) (fu : Nat), ∀ (S : St) (x2 : Int32) (H : Heap) (locs : List Loc) (ls : Array Slot), fixF (fun _ _ => none) (f_X4_find_14 n x1) fu S x2 = some (r, S2) → PW D y ad S H → va_S (AA ad) s.heap H locs → lv_has ls 4 [(0, .ref (ad 26)), (1, .int x1), (2, .int x2)] → W p l e (headSpec wsX4_find ({ frames := 31, cells := 0, slots := 0, locals := 771 })).room s m ([.ref (ad 26), .int a1] : List Value).toArray below meth c H locs 0 0 (QV below r S2 D y ad ([.ref (ad 26), .int a1] : List Value).toArray s) (F0 m 14 ls []) := by
    intro x1  fu
    induction fu with
    | zero => intro S x2 H locs ls hf hP hS hl; cases hf
    | succ fu ih => exact b14 x1  (fixF (fun _ _ => none) (f_X4_find_14 n x1) fu) ih
  unfold f_X4_find at hf
  refine lv_aload_n hx hb dX4_find_0 rfl (lv_at hl 0 rfl) ?_
  refine lv_ldc (v := (-2000000001)) hx hb hown K15 dX4_find_1 ?_
  obtain ⟨S_32, eS_32, hf⟩ := bd_inv hf
  refine w_pI (ty := .int) (C := RX4) (T := TX4) hx hb hts n4 tyX4 tyX4_ok nmX4 hown hK hI hP hS t_26 rfl 2 (by decide) L16 rfl rfl rfl ⟨rfl, rfl⟩ dX4_find_3 (fun H locs hP hS => ?_)
  rw [← eS_32] at hP
  refine lv_aload_n hx hb dX4_find_6 rfl (lv_at hl 0 rfl) ?_
  refine lv_ldc (v := (-2000000001)) hx hb hown K15 dX4_find_7 ?_
  obtain ⟨S_33, eS_33, hf⟩ := bd_inv hf
  refine w_pI (ty := .int) (C := RX4) (T := TX4) hx hb hts n4 tyX4 tyX4_ok nmX4 hown hK hI hP hS t_26 rfl 3 (by decide) L20 rfl rfl rfl ⟨rfl, rfl⟩ dX4_find_9 (fun H locs hP hS => ?_)
  rw [← eS_33] at hP
  refine lv_iconst (v := 0) hx hb dX4_find_12 (by decide) ?_
  obtain ⟨x2_34, ex2_34, hf⟩ := bd_inv hf
  refine w_topI ex2_34 ?_
  refine lv_istore_n (lv' := [(2, .int x2_34), (0, .ref (ad 26)), (1, .int a1)]) hx hb dX4_find_13 rfl hl (by decide) rfl (fun ls hl => ?_)
  exact j14 a1  n S_33 x2_34 _ _ _ hf hP hS (lv_sub hl [1, 2, 0] rfl)
set_option maxHeartbeats 4000000 in
set_option maxRecDepth 100000 in
theorem c_X5_write (l : Launch) (D : va_G) (y : y4) (ad : Nat → Nat) (aL aU : Nat) (hI : Inj ad) (n : Nat) (S : St) (a1 : Int32) (r : Int32) (S2 : St) (hf : f_X5_write n S a1 = some (r, S2)) : KI l D y ad aL aU yX5_write wsX5_write ({ frames := 1, cells := 0, slots := 0, locals := 20 }) [.ref (ad 2), .int a1] S r S2 := by
  refine Met.ofW (cc := cX5_write) (maxL := 2) (ret := (some .boolean)) (by decide) rfl ?_
  intro p e s m args below meth c s₁ B hml hv
  obtain ⟨rfl, hP, hK, hZ⟩ := hv
  have hx := B.exec
  have hb := B.bytes
  have hr := B.returns
  have hts := atoms_spec (ws := wsX5_write) B.pre
  have hown : s.vm.findClass RX5 = some m.cls := findClass_of_methodNamed B.named
  have hlocks := B.notSynchronized
  have hS : va_S (AA ad) s.heap s.heap [] := va_S.rf
  have L15 := hts (.fieldLink RX5 15 "JoinedTheories$Reader" "symbols" "[I") (by decide +kernel)
  have L28 := hts (.fieldLink RX5 28 "JoinedTheories$Reader" "symbolCount" "I") (by decide +kernel)
  have n5 : ∀ w ∈ wsX50, w ∈ wsX5_write := by decide +kernel
  have hl := lv_entry ([.ref (ad 2), .int a1]) (n := 2) (Nat.le_of_ble_eq_true rfl)
  rw [lg_entry_eq]
  generalize (lg_sl ([.ref (ad 2), .int a1]) ++ List.replicate (2 - (lg_sl ([.ref (ad 2), .int a1])).length) Slot.unset).toArray = ls at hl ⊢
  have hl : lv_has ls 2 [(0, .ref (ad 2)), (1, .int a1)] := hl
  unfold f_X5_write at hf
  refine lv_aload_n hx hb dX5_write_0 rfl (lv_at hl 0 rfl) ?_
  refine w_gI (C := RX5) (T := TX5) hx hb hts n5 hown hK hP t_2 rfl 4 (by decide) L28 rfl dX5_write_1 ?_
  refine lv_if_lt (tgt := 16) hx hb dX5_write_4 (by decide) (fun b_1 => ?_) (fun b_1 => ?_)
  · have hf := if_t b_1 hf
    refine lv_iconst (v := 0) hx hb dX5_write_16 (by decide) ?_
    exact w_zret hx hb hr hlocks (fun h => h (by decide)) hP hS (rt_inv hf) dX5_write_17
  · have hf := if_f b_1 hf
    refine lv_aload_n hx hb dX5_write_7 rfl (lv_at hl 0 rfl) ?_
    refine w_gI (C := RX5) (T := TX5) hx hb hts n5 hown hK hP t_2 rfl 4 (by decide) L28 rfl dX5_write_8 ?_
    refine lv_bipush (v := (40)) hx hb dX5_write_11 (by decide) ?_
    refine lv_icmp_lt (tgt := 18) hx hb dX5_write_13 (by decide) (fun b_2 => ?_) (fun b_2 => ?_)
    · have hf := if_t b_2 hf
      refine lv_aload_n hx hb dX5_write_18 rfl (lv_at hl 0 rfl) ?_
      refine w_gR (z := 4) (C := RX5) (T := TX5) hx hb hts n5 hown hK hP t_2 rfl 3 (by decide) L15 rfl rfl dX5_write_19 ?_
      refine lv_aload_n hx hb dX5_write_22 rfl (lv_at hl 0 rfl) ?_
      refine w_gI (C := RX5) (T := TX5) hx hb hts n5 hown hK hP t_2 rfl 4 (by decide) L28 rfl dX5_write_23 ?_
      refine lv_iload_n hx hb dX5_write_26 rfl (lv_at hl 1 rfl) ?_
      obtain ⟨g_3, hf⟩ := gd_inv hf
      obtain ⟨S_4, eS_4, hf⟩ := bd_inv hf
      refine w_iast hx hb hK hI hP hS t_4 g_3 dX5_write_27 (fun H locs hP hS => ?_)
      rw [← eS_4] at hP
      refine lv_aload_n hx hb dX5_write_28 rfl (lv_at hl 0 rfl) ?_
      refine lv_dup hx hb dX5_write_29 rfl ?_
      refine w_gI (C := RX5) (T := TX5) hx hb hts n5 hown hK hP t_2 rfl 4 (by decide) L28 rfl dX5_write_30 ?_
      refine lv_iconst (v := 1) hx hb dX5_write_33 (by decide) ?_
      refine lv_iadd hx hb dX5_write_34 ?_
      obtain ⟨S_5, eS_5, hf⟩ := bd_inv hf
      refine w_pI (ty := .int) (C := RX5) (T := TX5) hx hb hts n5 tyX5 tyX5_ok nmX5 hown hK hI hP hS t_2 rfl 4 (by decide) L28 rfl rfl rfl ⟨rfl, rfl⟩ dX5_write_35 (fun H locs hP hS => ?_)
      rw [← eS_5] at hP
      refine lv_iconst (v := 1) hx hb dX5_write_38 (by decide) ?_
      exact w_zret hx hb hr hlocks (fun h => h (by decide)) hP hS (rt_inv hf) dX5_write_39
    · have hf := if_f b_2 hf
      refine lv_iconst (v := 0) hx hb dX5_write_16 (by decide) ?_
      exact w_zret hx hb hr hlocks (fun h => h (by decide)) hP hS (rt_inv hf) dX5_write_17
set_option maxHeartbeats 4000000 in
set_option maxRecDepth 100000 in
theorem c_X5_beginsTerm (l : Launch) (D : va_G) (y : y4) (ad : Nat → Nat) (aL aU : Nat) (hI : Inj ad) (n : Nat) (S : St) (a1 : Int32) (r : Int32) (S2 : St) (hf : f_X5_beginsTerm n S a1 = some (r, S2)) : KI l D y ad aL aU yX5_beginsTerm wsX5_beginsTerm ({ frames := 2, cells := 0, slots := 0, locals := 41 }) [.ref (ad 2), .int a1] S r S2 := by
  refine Met.ofW (cc := cX5_beginsTerm) (maxL := 2) (ret := (some .boolean)) (by decide) rfl ?_
  intro p e s m args below meth c s₁ B hml hv
  obtain ⟨rfl, hP, hK, hZ⟩ := hv
  have hx := B.exec
  have hb := B.bytes
  have hr := B.returns
  have hts := atoms_spec (ws := wsX5_beginsTerm) B.pre
  have hown : s.vm.findClass RX5 = some m.cls := findClass_of_methodNamed B.named
  have hlocks := B.notSynchronized
  have hS : va_S (AA ad) s.heap s.heap [] := va_S.rf
  have L9 := hts (.fieldLink RX5 9 "JoinedTheories$Reader" "brackets" "[I") (by decide +kernel)
  have L21 := hts (.fieldLink RX5 21 "JoinedTheories$Reader" "state" "I") (by decide +kernel)
  have L25 := hts (.fieldLink RX5 25 "JoinedTheories$Reader" "depth" "I") (by decide +kernel)
  have n5 : ∀ w ∈ wsX50, w ∈ wsX5_beginsTerm := by decide +kernel
  have hl := lv_entry ([.ref (ad 2), .int a1]) (n := 2) (Nat.le_of_ble_eq_true rfl)
  rw [lg_entry_eq]
  generalize (lg_sl ([.ref (ad 2), .int a1]) ++ List.replicate (2 - (lg_sl ([.ref (ad 2), .int a1])).length) Slot.unset).toArray = ls at hl ⊢
  have hl : lv_has ls 2 [(0, .ref (ad 2)), (1, .int a1)] := hl
  have j75 : ∀ (S : St) (t1 : Int32) (t2 : Int32) (H : Heap) (locs : List Loc) (ls : Array Slot), f_X5_beginsTerm_75 n S t1 t2 = some (r, S2) → PW D y ad S H → va_S (AA ad) s.heap H locs → lv_has ls 2 [(0, .ref (ad 2))] → W p l e (headSpec wsX5_beginsTerm ({ frames := 2, cells := 0, slots := 0, locals := 41 })).room s m ([.ref (ad 2), .int a1] : List Value).toArray below meth c H locs 0 0 (QI below r S2 D y ad ([.ref (ad 2), .int a1] : List Value).toArray s) (F0 m 75 ls [.int t2, .int t1, .ref (ad 3)]) := by
    intro  S t1 t2 H locs ls hf hP hS hl
    unfold f_X5_beginsTerm_75 at hf
    obtain ⟨g_1, hf⟩ := gd_inv hf
    obtain ⟨S_2, eS_2, hf⟩ := bd_inv hf
    refine w_iast hx hb hK hI hP hS t_3 g_1 dX5_beginsTerm_75 (fun H locs hP hS => ?_)
    rw [← eS_2] at hP
    refine lv_aload_n hx hb dX5_beginsTerm_76 rfl (lv_at hl 0 rfl) ?_
    refine lv_dup hx hb dX5_beginsTerm_77 rfl ?_
    refine w_gI (C := RX5) (T := TX5) hx hb hts n5 hown hK hP t_2 rfl 2 (by decide) L25 rfl dX5_beginsTerm_78 ?_
    refine lv_iconst (v := 1) hx hb dX5_beginsTerm_81 (by decide) ?_
    refine lv_iadd hx hb dX5_beginsTerm_82 ?_
    obtain ⟨S_3, eS_3, hf⟩ := bd_inv hf
    refine w_pI (ty := .int) (C := RX5) (T := TX5) hx hb hts n5 tyX5 tyX5_ok nmX5 hown hK hI hP hS t_2 rfl 2 (by decide) L25 rfl rfl rfl ⟨rfl, rfl⟩ dX5_beginsTerm_83 (fun H locs hP hS => ?_)
    rw [← eS_3] at hP
    refine lv_aload_n hx hb dX5_beginsTerm_86 rfl (lv_at hl 0 rfl) ?_
    refine lv_iconst (v := 1) hx hb dX5_beginsTerm_87 (by decide) ?_
    obtain ⟨S_4, eS_4, hf⟩ := bd_inv hf
    refine w_pI (ty := .int) (C := RX5) (T := TX5) hx hb hts n5 tyX5 tyX5_ok nmX5 hown hK hI hP hS t_2 rfl 0 (by decide) L21 rfl rfl rfl ⟨rfl, rfl⟩ dX5_beginsTerm_88 (fun H locs hP hS => ?_)
    rw [← eS_4] at hP
    refine lv_iconst (v := 1) hx hb dX5_beginsTerm_91 (by decide) ?_
    exact w_zret hx hb hr hlocks (fun h => h (by decide)) hP hS (rt_inv hf) dX5_beginsTerm_92
  have j38 : ∀ (S : St) (x1 : Int32) (H : Heap) (locs : List Loc) (ls : Array Slot), f_X5_beginsTerm_38 n S x1 = some (r, S2) → PW D y ad S H → va_S (AA ad) s.heap H locs → lv_has ls 2 [(0, .ref (ad 2)), (1, .int x1)] → W p l e (headSpec wsX5_beginsTerm ({ frames := 2, cells := 0, slots := 0, locals := 41 })).room s m ([.ref (ad 2), .int a1] : List Value).toArray below meth c H locs 0 0 (QI below r S2 D y ad ([.ref (ad 2), .int a1] : List Value).toArray s) (F0 m 38 ls []) := by
    intro  S x1 H locs ls hf hP hS hl
    unfold f_X5_beginsTerm_38 at hf
    refine lv_aload_n hx hb dX5_beginsTerm_38 rfl (lv_at hl 0 rfl) ?_
    refine w_gI (C := RX5) (T := TX5) hx hb hts n5 hown hK hP t_2 rfl 2 (by decide) L25 rfl dX5_beginsTerm_39 ?_
    refine lv_if_lt (tgt := 54) hx hb dX5_beginsTerm_42 (by decide) (fun b_5 => ?_) (fun b_5 => ?_)
    · have hf := if_t b_5 hf
      refine lv_iconst (v := 0) hx hb dX5_beginsTerm_54 (by decide) ?_
      exact w_zret hx hb hr hlocks (fun h => h (by decide)) hP hS (rt_inv hf) dX5_beginsTerm_55
    · have hf := if_f b_5 hf
      refine lv_aload_n hx hb dX5_beginsTerm_45 rfl (lv_at hl 0 rfl) ?_
      refine w_gI (C := RX5) (T := TX5) hx hb hts n5 hown hK hP t_2 rfl 2 (by decide) L25 rfl dX5_beginsTerm_46 ?_
      refine lv_bipush (v := (40)) hx hb dX5_beginsTerm_49 (by decide) ?_
      refine lv_icmp_lt (tgt := 56) hx hb dX5_beginsTerm_51 (by decide) (fun b_6 => ?_) (fun b_6 => ?_)
      · have hf := if_t b_6 hf
        refine lv_aload_n hx hb dX5_beginsTerm_56 rfl (lv_at hl 0 rfl) ?_
        refine w_gR (z := 3) (C := RX5) (T := TX5) hx hb hts n5 hown hK hP t_2 rfl 1 (by decide) L9 rfl rfl dX5_beginsTerm_57 ?_
        refine lv_aload_n hx hb dX5_beginsTerm_60 rfl (lv_at hl 0 rfl) ?_
        refine w_gI (C := RX5) (T := TX5) hx hb hts n5 hown hK hP t_2 rfl 2 (by decide) L25 rfl dX5_beginsTerm_61 ?_
        refine lv_iload_n hx hb dX5_beginsTerm_64 rfl (lv_at hl 1 rfl) ?_
        refine lv_bipush (v := (102)) hx hb dX5_beginsTerm_65 (by decide) ?_
        refine lv_icmp_ne (tgt := 74) hx hb dX5_beginsTerm_67 (by decide) (fun b_7 => ?_) (fun b_7 => ?_)
        · have hf := if_f b_7 hf
          refine lv_iconst (v := 1) hx hb dX5_beginsTerm_74 (by decide) ?_
          exact j75   S ((S.1 2 2)) ((1 : Int32)) _ _ _ hf hP hS (lv_sub hl [0] rfl)
        · have hf := if_t b_7 hf
          refine lv_iconst (v := 0) hx hb dX5_beginsTerm_70 (by decide) ?_
          refine lv_goto (tgt := 75) hx hb dX5_beginsTerm_71 (by decide) ?_
          exact j75   S ((S.1 2 2)) ((0 : Int32)) _ _ _ hf hP hS (lv_sub hl [0] rfl)
      · have hf := if_f b_6 hf
        refine lv_iconst (v := 0) hx hb dX5_beginsTerm_54 (by decide) ?_
        exact w_zret hx hb hr hlocks (fun h => h (by decide)) hP hS (rt_inv hf) dX5_beginsTerm_55
  have j26 : ∀ (S : St) (x1 : Int32) (H : Heap) (locs : List Loc) (ls : Array Slot), f_X5_beginsTerm_26 n S x1 = some (r, S2) → PW D y ad S H → va_S (AA ad) s.heap H locs → lv_has ls 2 [(0, .ref (ad 2)), (1, .int x1)] → W p l e (headSpec wsX5_beginsTerm ({ frames := 2, cells := 0, slots := 0, locals := 41 })).room s m ([.ref (ad 2), .int a1] : List Value).toArray below meth c H locs 0 0 (QI below r S2 D y ad ([.ref (ad 2), .int a1] : List Value).toArray s) (F0 m 26 ls []) := by
    intro  S x1 H locs ls hf hP hS hl
    unfold f_X5_beginsTerm_26 at hf
    refine lv_iload_n hx hb dX5_beginsTerm_26 rfl (lv_at hl 1 rfl) ?_
    refine lv_bipush (v := (102)) hx hb dX5_beginsTerm_27 (by decide) ?_
    refine lv_icmp_eq (tgt := 38) hx hb dX5_beginsTerm_29 (by decide) (fun b_8 => ?_) (fun b_8 => ?_)
    · have hf := if_t b_8 hf
      exact j38   S x1 _ _ _ hf hP hS (lv_sub hl [0, 1] rfl)
    · have hf := if_f b_8 hf
      refine lv_iload_n hx hb dX5_beginsTerm_32 rfl (lv_at hl 1 rfl) ?_
      refine lv_bipush (v := (103)) hx hb dX5_beginsTerm_33 (by decide) ?_
      refine lv_icmp_ne (tgt := 54) hx hb dX5_beginsTerm_35 (by decide) (fun b_9 => ?_) (fun b_9 => ?_)
      · have hf := if_f b_9 hf
        refine lv_iconst (v := 0) hx hb dX5_beginsTerm_54 (by decide) ?_
        exact w_zret hx hb hr hlocks (fun h => h (by decide)) hP hS (rt_inv hf) dX5_beginsTerm_55
      · have hf := if_t b_9 hf
        exact j38   S x1 _ _ _ hf hP hS (lv_sub hl [0, 1] rfl)
  unfold f_X5_beginsTerm at hf
  refine lv_iload_n hx hb dX5_beginsTerm_0 rfl (lv_at hl 1 rfl) ?_
  refine lv_bipush (v := (97)) hx hb dX5_beginsTerm_1 (by decide) ?_
  refine lv_icmp_lt (tgt := 26) hx hb dX5_beginsTerm_3 (by decide) (fun b_10 => ?_) (fun b_10 => ?_)
  · have hf := if_t b_10 hf
    exact j26   S a1 _ _ _ hf hP hS (lv_sub hl [0, 1] rfl)
  · have hf := if_f b_10 hf
    refine lv_iload_n hx hb dX5_beginsTerm_6 rfl (lv_at hl 1 rfl) ?_
    refine lv_bipush (v := (101)) hx hb dX5_beginsTerm_7 (by decide) ?_
    refine lv_icmp_gt (tgt := 26) hx hb dX5_beginsTerm_9 (by decide) (fun b_11 => ?_) (fun b_11 => ?_)
    · have hf := if_t b_11 hf
      exact j26   S a1 _ _ _ hf hP hS (lv_sub hl [0, 1] rfl)
    · have hf := if_f b_11 hf
      refine lv_aload_n hx hb dX5_beginsTerm_12 rfl (lv_at hl 0 rfl) ?_
      refine lv_iconst (v := 2) hx hb dX5_beginsTerm_13 (by decide) ?_
      obtain ⟨S_12, eS_12, hf⟩ := bd_inv hf
      refine w_pI (ty := .int) (C := RX5) (T := TX5) hx hb hts n5 tyX5 tyX5_ok nmX5 hown hK hI hP hS t_2 rfl 0 (by decide) L21 rfl rfl rfl ⟨rfl, rfl⟩ dX5_beginsTerm_14 (fun H locs hP hS => ?_)
      rw [← eS_12] at hP
      refine lv_aload_n hx hb dX5_beginsTerm_17 rfl (lv_at hl 0 rfl) ?_
      refine lv_iload_n hx hb dX5_beginsTerm_18 rfl (lv_at hl 1 rfl) ?_
      refine lv_bipush (v := (97)) hx hb dX5_beginsTerm_19 (by decide) ?_
      refine lv_isub hx hb dX5_beginsTerm_21 ?_
      obtain ⟨r_13, S_14, hc_15, hf⟩ := bo_inv hf
      refine w_ci (va_runV (As := [.int (a1 - (97 : Int32))]) (rest := []) ⟨hx, hb, hml, hown, hts⟩ (c_X5_write l D y ad aL aU hI n S_12 ((a1 - (97 : Int32))) _ _ hc_15) (cwV 1 hts gX5_beginsTerm_X5_write rfl rfl rfl (by decide +kernel) ⟨Nat.le_of_ble_eq_true rfl, Nat.le_of_ble_eq_true rfl⟩) (pwu_V t_2 rfl hP hK hZ hS) rfl rfl hl.1 rfl (lv_room (Nat.le_of_ble_eq_true rfl)) dX5_beginsTerm_22 ⟨Nat.zero_le _, Nat.zero_le _⟩) hS (fun H locs hP hS => ?_)
      obtain ⟨g_16, hf⟩ := gd_inv hf
      exact w_zret hx hb hr hlocks g_16 hP hS (rt_inv hf) dX5_beginsTerm_25
set_option maxHeartbeats 4000000 in
set_option maxRecDepth 100000 in
theorem c_X5_goesOnInBrackets (l : Launch) (D : va_G) (y : y4) (ad : Nat → Nat) (aL aU : Nat) (hI : Inj ad) (n : Nat) (S : St) (a1 : Int32) (r : Int32) (S2 : St) (hf : f_X5_goesOnInBrackets n S a1 = some (r, S2)) : KI l D y ad aL aU yX5_goesOnInBrackets wsX5_goesOnInBrackets ({ frames := 2, cells := 0, slots := 0, locals := 41 }) [.ref (ad 2), .int a1] S r S2 := by
  refine Met.ofW (cc := cX5_goesOnInBrackets) (maxL := 3) (ret := (some .boolean)) (by decide) rfl ?_
  intro p e s m args below meth c s₁ B hml hv
  obtain ⟨rfl, hP, hK, hZ⟩ := hv
  have hx := B.exec
  have hb := B.bytes
  have hr := B.returns
  have hts := atoms_spec (ws := wsX5_goesOnInBrackets) B.pre
  have hown : s.vm.findClass RX5 = some m.cls := findClass_of_methodNamed B.named
  have hlocks := B.notSynchronized
  have hS : va_S (AA ad) s.heap s.heap [] := va_S.rf
  have L9 := hts (.fieldLink RX5 9 "JoinedTheories$Reader" "brackets" "[I") (by decide +kernel)
  have L21 := hts (.fieldLink RX5 21 "JoinedTheories$Reader" "state" "I") (by decide +kernel)
  have L25 := hts (.fieldLink RX5 25 "JoinedTheories$Reader" "depth" "I") (by decide +kernel)
  have n5 : ∀ w ∈ wsX50, w ∈ wsX5_goesOnInBrackets := by decide +kernel
  have hl := lv_entry ([.ref (ad 2), .int a1]) (n := 3) (Nat.le_of_ble_eq_true rfl)
  rw [lg_entry_eq]
  generalize (lg_sl ([.ref (ad 2), .int a1]) ++ List.replicate (3 - (lg_sl ([.ref (ad 2), .int a1])).length) Slot.unset).toArray = ls at hl ⊢
  have hl : lv_has ls 3 [(0, .ref (ad 2)), (1, .int a1)] := hl
  have j92 : ∀ (S : St) (t1 : Int32) (H : Heap) (locs : List Loc) (ls : Array Slot), f_X5_goesOnInBrackets_92 n S t1 = some (r, S2) → PW D y ad S H → va_S (AA ad) s.heap H locs → lv_has ls 3 [(0, .ref (ad 2))] → W p l e (headSpec wsX5_goesOnInBrackets ({ frames := 2, cells := 0, slots := 0, locals := 41 })).room s m ([.ref (ad 2), .int a1] : List Value).toArray below meth c H locs 0 0 (QI below r S2 D y ad ([.ref (ad 2), .int a1] : List Value).toArray s) (F0 m 92 ls [.int t1, .ref (ad 2)]) := by
    intro  S t1 H locs ls hf hP hS hl
    unfold f_X5_goesOnInBrackets_92 at hf
    obtain ⟨r_1, S_2, hc_3, hf⟩ := bo_inv hf
    refine w_ci (va_runV (As := [.int t1]) (rest := []) ⟨hx, hb, hml, hown, hts⟩ (c_X5_write l D y ad aL aU hI n S t1 _ _ hc_3) (cwV 1 hts gX5_goesOnInBrackets_X5_write rfl rfl rfl (by decide +kernel) ⟨Nat.le_of_ble_eq_true rfl, Nat.le_of_ble_eq_true rfl⟩) (pwu_V t_2 rfl hP hK hZ hS) rfl rfl hl.1 rfl (lv_room (Nat.le_of_ble_eq_true rfl)) dX5_goesOnInBrackets_92 ⟨Nat.zero_le _, Nat.zero_le _⟩) hS (fun H locs hP hS => ?_)
    refine lv_if_eq (tgt := 102) hx hb dX5_goesOnInBrackets_95 (by decide) (fun b_4 => ?_) (fun b_4 => ?_)
    · have hf := if_t b_4 hf
      refine lv_iconst (v := 0) hx hb dX5_goesOnInBrackets_102 (by decide) ?_
      exact w_zret hx hb hr hlocks (fun h => h (by decide)) hP hS (rt_inv hf) dX5_goesOnInBrackets_103
    · have hf := if_f b_4 hf
      refine lv_iconst (v := 1) hx hb dX5_goesOnInBrackets_98 (by decide) ?_
      refine lv_goto (tgt := 103) hx hb dX5_goesOnInBrackets_99 (by decide) ?_
      exact w_zret hx hb hr hlocks (fun h => h (by decide)) hP hS (rt_inv hf) dX5_goesOnInBrackets_103
  unfold f_X5_goesOnInBrackets at hf
  refine lv_aload_n hx hb dX5_goesOnInBrackets_0 rfl (lv_at hl 0 rfl) ?_
  refine w_gI (C := RX5) (T := TX5) hx hb hts n5 hown hK hP t_2 rfl 2 (by decide) L25 rfl dX5_goesOnInBrackets_1 ?_
  refine lv_iconst (v := 1) hx hb dX5_goesOnInBrackets_4 (by decide) ?_
  refine lv_icmp_lt (tgt := 17) hx hb dX5_goesOnInBrackets_5 (by decide) (fun b_5 => ?_) (fun b_5 => ?_)
  · have hf := if_t b_5 hf
    refine lv_iconst (v := 0) hx hb dX5_goesOnInBrackets_17 (by decide) ?_
    exact w_zret hx hb hr hlocks (fun h => h (by decide)) hP hS (rt_inv hf) dX5_goesOnInBrackets_18
  · have hf := if_f b_5 hf
    refine lv_aload_n hx hb dX5_goesOnInBrackets_8 rfl (lv_at hl 0 rfl) ?_
    refine w_gI (C := RX5) (T := TX5) hx hb hts n5 hown hK hP t_2 rfl 2 (by decide) L25 rfl dX5_goesOnInBrackets_9 ?_
    refine lv_bipush (v := (40)) hx hb dX5_goesOnInBrackets_12 (by decide) ?_
    refine lv_icmp_le (tgt := 19) hx hb dX5_goesOnInBrackets_14 (by decide) (fun b_6 => ?_) (fun b_6 => ?_)
    · have hf := if_t b_6 hf
      refine lv_aload_n hx hb dX5_goesOnInBrackets_19 rfl (lv_at hl 0 rfl) ?_
      refine w_gR (z := 3) (C := RX5) (T := TX5) hx hb hts n5 hown hK hP t_2 rfl 1 (by decide) L9 rfl rfl dX5_goesOnInBrackets_20 ?_
      refine lv_aload_n hx hb dX5_goesOnInBrackets_23 rfl (lv_at hl 0 rfl) ?_
      refine w_gI (C := RX5) (T := TX5) hx hb hts n5 hown hK hP t_2 rfl 2 (by decide) L25 rfl dX5_goesOnInBrackets_24 ?_
      refine lv_iconst (v := 1) hx hb dX5_goesOnInBrackets_27 (by decide) ?_
      refine lv_isub hx hb dX5_goesOnInBrackets_28 ?_
      obtain ⟨g_7, hf⟩ := gd_inv hf
      refine w_iald hx hb hK hP t_3 g_7 dX5_goesOnInBrackets_29 ?_
      obtain ⟨x2_8, ex2_8, hf⟩ := bd_inv hf
      refine w_topI ex2_8 ?_
      refine lv_istore_n (lv' := [(2, .int x2_8), (0, .ref (ad 2)), (1, .int a1)]) hx hb dX5_goesOnInBrackets_30 rfl hl (by decide) rfl (fun ls hl => ?_)
      refine lv_iload_n hx hb dX5_goesOnInBrackets_31 rfl (lv_at hl 0 rfl) ?_
      refine lv_iconst (v := 1) hx hb dX5_goesOnInBrackets_32 (by decide) ?_
      refine lv_icmp_ne (tgt := 65) hx hb dX5_goesOnInBrackets_33 (by decide) (fun b_9 => ?_) (fun b_9 => ?_)
      · have hf := if_f b_9 hf
        refine lv_aload_n hx hb dX5_goesOnInBrackets_65 rfl (lv_at hl 1 rfl) ?_
        refine lv_dup hx hb dX5_goesOnInBrackets_66 rfl ?_
        refine w_gI (C := RX5) (T := TX5) hx hb hts n5 hown hK hP t_2 rfl 2 (by decide) L25 rfl dX5_goesOnInBrackets_67 ?_
        refine lv_iconst (v := 1) hx hb dX5_goesOnInBrackets_70 (by decide) ?_
        refine lv_isub hx hb dX5_goesOnInBrackets_71 ?_
        obtain ⟨S_10, eS_10, hf⟩ := bd_inv hf
        refine w_pI (ty := .int) (C := RX5) (T := TX5) hx hb hts n5 tyX5 tyX5_ok nmX5 hown hK hI hP hS t_2 rfl 2 (by decide) L25 rfl rfl rfl ⟨rfl, rfl⟩ dX5_goesOnInBrackets_72 (fun H locs hP hS => ?_)
        rw [← eS_10] at hP
        refine lv_iload_n hx hb dX5_goesOnInBrackets_75 rfl (lv_at hl 2 rfl) ?_
        refine lv_bipush (v := (41)) hx hb dX5_goesOnInBrackets_76 (by decide) ?_
        refine lv_icmp_ne (tgt := 102) hx hb dX5_goesOnInBrackets_78 (by decide) (fun b_11 => ?_) (fun b_11 => ?_)
        · have hf := if_f b_11 hf
          refine lv_iconst (v := 0) hx hb dX5_goesOnInBrackets_102 (by decide) ?_
          exact w_zret hx hb hr hlocks (fun h => h (by decide)) hP hS (rt_inv hf) dX5_goesOnInBrackets_103
        · have hf := if_t b_11 hf
          refine lv_aload_n hx hb dX5_goesOnInBrackets_81 rfl (lv_at hl 1 rfl) ?_
          refine lv_iload_n hx hb dX5_goesOnInBrackets_82 rfl (lv_at hl 0 rfl) ?_
          refine lv_if_ne (tgt := 90) hx hb dX5_goesOnInBrackets_83 (by decide) (fun b_12 => ?_) (fun b_12 => ?_)
          · have hf := if_f b_12 hf
            refine lv_bipush (v := (6)) hx hb dX5_goesOnInBrackets_90 (by decide) ?_
            exact j92   S_10 ((6 : Int32)) _ _ _ hf hP hS (lv_sub hl [1] rfl)
          · have hf := if_t b_12 hf
            refine lv_iconst (v := 5) hx hb dX5_goesOnInBrackets_86 (by decide) ?_
            refine lv_goto (tgt := 92) hx hb dX5_goesOnInBrackets_87 (by decide) ?_
            exact j92   S_10 ((5 : Int32)) _ _ _ hf hP hS (lv_sub hl [1] rfl)
      · have hf := if_t b_9 hf
        refine lv_aload_n hx hb dX5_goesOnInBrackets_36 rfl (lv_at hl 1 rfl) ?_
        refine w_gR (z := 3) (C := RX5) (T := TX5) hx hb hts n5 hown hK hP t_2 rfl 1 (by decide) L9 rfl rfl dX5_goesOnInBrackets_37 ?_
        refine lv_aload_n hx hb dX5_goesOnInBrackets_40 rfl (lv_at hl 1 rfl) ?_
        refine w_gI (C := RX5) (T := TX5) hx hb hts n5 hown hK hP t_2 rfl 2 (by decide) L25 rfl dX5_goesOnInBrackets_41 ?_
        refine lv_iconst (v := 1) hx hb dX5_goesOnInBrackets_44 (by decide) ?_
        refine lv_isub hx hb dX5_goesOnInBrackets_45 ?_
        refine lv_iconst (v := 2) hx hb dX5_goesOnInBrackets_46 (by decide) ?_
        obtain ⟨g_13, hf⟩ := gd_inv hf
        obtain ⟨S_14, eS_14, hf⟩ := bd_inv hf
        refine w_iast hx hb hK hI hP hS t_3 g_13 dX5_goesOnInBrackets_47 (fun H locs hP hS => ?_)
        rw [← eS_14] at hP
        refine lv_aload_n hx hb dX5_goesOnInBrackets_48 rfl (lv_at hl 1 rfl) ?_
        refine lv_iconst (v := 0) hx hb dX5_goesOnInBrackets_49 (by decide) ?_
        obtain ⟨S_15, eS_15, hf⟩ := bd_inv hf
        refine w_pI (ty := .int) (C := RX5) (T := TX5) hx hb hts n5 tyX5 tyX5_ok nmX5 hown hK hI hP hS t_2 rfl 0 (by decide) L21 rfl rfl rfl ⟨rfl, rfl⟩ dX5_goesOnInBrackets_50 (fun H locs hP hS => ?_)
        rw [← eS_15] at hP
        refine lv_iload_n hx hb dX5_goesOnInBrackets_53 rfl (lv_at hl 2 rfl) ?_
        refine lv_bipush (v := (44)) hx hb dX5_goesOnInBrackets_54 (by decide) ?_
        refine lv_icmp_ne (tgt := 63) hx hb dX5_goesOnInBrackets_56 (by decide) (fun b_16 => ?_) (fun b_16 => ?_)
        · have hf := if_f b_16 hf
          refine lv_iconst (v := 0) hx hb dX5_goesOnInBrackets_63 (by decide) ?_
          exact w_zret hx hb hr hlocks (fun h => h (by decide)) hP hS (rt_inv hf) dX5_goesOnInBrackets_64
        · have hf := if_t b_16 hf
          refine lv_iconst (v := 1) hx hb dX5_goesOnInBrackets_59 (by decide) ?_
          refine lv_goto (tgt := 64) hx hb dX5_goesOnInBrackets_60 (by decide) ?_
          exact w_zret hx hb hr hlocks (fun h => h (by decide)) hP hS (rt_inv hf) dX5_goesOnInBrackets_64
    · have hf := if_f b_6 hf
      refine lv_iconst (v := 0) hx hb dX5_goesOnInBrackets_17 (by decide) ?_
      exact w_zret hx hb hr hlocks (fun h => h (by decide)) hP hS (rt_inv hf) dX5_goesOnInBrackets_18
set_option maxHeartbeats 4000000 in
set_option maxRecDepth 100000 in
theorem c_X5_kindOfSign (l : Launch) (D : va_G) (y : y4) (ad : Nat → Nat) (aL aU : Nat) (hI : Inj ad) (n : Nat) (S : St) (a0 : Int32) (r : Int32) (S2 : St) (hf : f_X5_kindOfSign n S a0 = some (r, S2)) : KI l D y ad aL aU yX5_kindOfSign wsX5_kindOfSign ({ frames := 1, cells := 0, slots := 0, locals := 20 }) [.int a0] S r S2 := by
  refine Met.ofW (cc := cX5_kindOfSign) (maxL := 1) (ret := (some .int)) (by decide) rfl ?_
  intro p e s m args below meth c s₁ B hml hv
  obtain ⟨rfl, hP, hK, hZ⟩ := hv
  have hx := B.exec
  have hb := B.bytes
  have hr := B.returns
  have hts := atoms_spec (ws := wsX5_kindOfSign) B.pre
  have hown : s.vm.findClass RX5 = some m.cls := findClass_of_methodNamed B.named
  have hlocks := B.notSynchronized
  have hS : va_S (AA ad) s.heap s.heap [] := va_S.rf
  have hl := lv_entry ([.int a0]) (n := 1) (Nat.le_of_ble_eq_true rfl)
  rw [lg_entry_eq]
  generalize (lg_sl ([.int a0]) ++ List.replicate (1 - (lg_sl ([.int a0])).length) Slot.unset).toArray = ls at hl ⊢
  have hl : lv_has ls 1 [(0, .int a0)] := hl
  unfold f_X5_kindOfSign at hf
  refine lv_iload_n hx hb dX5_kindOfSign_0 rfl (lv_at hl 0 rfl) ?_
  refine lv_bipush (v := (61)) hx hb dX5_kindOfSign_1 (by decide) ?_
  refine lv_icmp_ne (tgt := 8) hx hb dX5_kindOfSign_3 (by decide) (fun b_1 => ?_) (fun b_1 => ?_)
  · have hf := if_f b_1 hf
    refine lv_iload_n hx hb dX5_kindOfSign_8 rfl (lv_at hl 0 rfl) ?_
    refine lv_bipush (v := (35)) hx hb dX5_kindOfSign_9 (by decide) ?_
    refine lv_icmp_ne (tgt := 16) hx hb dX5_kindOfSign_11 (by decide) (fun b_2 => ?_) (fun b_2 => ?_)
    · have hf := if_f b_2 hf
      refine lv_iload_n hx hb dX5_kindOfSign_16 rfl (lv_at hl 0 rfl) ?_
      refine lv_bipush (v := (60)) hx hb dX5_kindOfSign_17 (by decide) ?_
      refine lv_icmp_ne (tgt := 26) hx hb dX5_kindOfSign_19 (by decide) (fun b_3 => ?_) (fun b_3 => ?_)
      · have hf := if_f b_3 hf
        refine lv_iconst (v := (-1)) hx hb dX5_kindOfSign_26 (by decide) ?_
        exact w_iret hx hb hr hlocks hP hS (rt_inv hf) dX5_kindOfSign_27
      · have hf := if_t b_3 hf
        refine lv_iconst (v := 2) hx hb dX5_kindOfSign_22 (by decide) ?_
        refine lv_goto (tgt := 27) hx hb dX5_kindOfSign_23 (by decide) ?_
        exact w_iret hx hb hr hlocks hP hS (rt_inv hf) dX5_kindOfSign_27
    · have hf := if_t b_2 hf
      refine lv_iconst (v := 1) hx hb dX5_kindOfSign_14 (by decide) ?_
      exact w_iret hx hb hr hlocks hP hS (rt_inv hf) dX5_kindOfSign_15
  · have hf := if_t b_1 hf
    refine lv_iconst (v := 0) hx hb dX5_kindOfSign_6 (by decide) ?_
    exact w_iret hx hb hr hlocks hP hS (rt_inv hf) dX5_kindOfSign_7
set_option maxHeartbeats 4000000 in
set_option maxRecDepth 100000 in
theorem c_X5_goesOnOutside (l : Launch) (D : va_G) (y : y4) (ad : Nat → Nat) (aL aU : Nat) (hI : Inj ad) (n : Nat) (S : St) (a1 : Int32) (r : Int32) (S2 : St) (hf : f_X5_goesOnOutside n S a1 = some (r, S2)) : KI l D y ad aL aU yX5_goesOnOutside wsX5_goesOnOutside ({ frames := 2, cells := 0, slots := 0, locals := 40 }) [.ref (ad 2), .int a1] S r S2 := by
  refine Met.ofW (cc := cX5_goesOnOutside) (maxL := 2) (ret := (some .boolean)) (by decide) rfl ?_
  intro p e s m args below meth c s₁ B hml hv
  obtain ⟨rfl, hP, hK, hZ⟩ := hv
  have hx := B.exec
  have hb := B.bytes
  have hr := B.returns
  have hts := atoms_spec (ws := wsX5_goesOnOutside) B.pre
  have hown : s.vm.findClass RX5 = some m.cls := findClass_of_methodNamed B.named
  have hlocks := B.notSynchronized
  have hS : va_S (AA ad) s.heap s.heap [] := va_S.rf
  have L21 := hts (.fieldLink RX5 21 "JoinedTheories$Reader" "state" "I") (by decide +kernel)
  have L31 := hts (.fieldLink RX5 31 "JoinedTheories$Reader" "kind" "I") (by decide +kernel)
  have L34 := hts (.fieldLink RX5 34 "JoinedTheories$Reader" "negative" "Z") (by decide +kernel)
  have n5 : ∀ w ∈ wsX50, w ∈ wsX5_goesOnOutside := by decide +kernel
  have hl := lv_entry ([.ref (ad 2), .int a1]) (n := 2) (Nat.le_of_ble_eq_true rfl)
  rw [lg_entry_eq]
  generalize (lg_sl ([.ref (ad 2), .int a1]) ++ List.replicate (2 - (lg_sl ([.ref (ad 2), .int a1])).length) Slot.unset).toArray = ls at hl ⊢
  have hl : lv_has ls 2 [(0, .ref (ad 2)), (1, .int a1)] := hl
  have j75 : ∀ (S : St) (H : Heap) (locs : List Loc) (ls : Array Slot), f_X5_goesOnOutside_75 n S = some (r, S2) → PW D y ad S H → va_S (AA ad) s.heap H locs → lv_has ls 2 [(0, .ref (ad 2))] → W p l e (headSpec wsX5_goesOnOutside ({ frames := 2, cells := 0, slots := 0, locals := 40 })).room s m ([.ref (ad 2), .int a1] : List Value).toArray below meth c H locs 0 0 (QI below r S2 D y ad ([.ref (ad 2), .int a1] : List Value).toArray s) (F0 m 75 ls []) := by
    intro  S H locs ls hf hP hS hl
    unfold f_X5_goesOnOutside_75 at hf
    refine lv_iconst (v := 1) hx hb dX5_goesOnOutside_75 (by decide) ?_
    refine lv_goto (tgt := 80) hx hb dX5_goesOnOutside_76 (by decide) ?_
    exact w_zret hx hb hr hlocks (fun h => h (by decide)) hP hS (rt_inv hf) dX5_goesOnOutside_80
  have j47 : ∀ (S : St) (x1 : Int32) (t1 : Int32) (H : Heap) (locs : List Loc) (ls : Array Slot), f_X5_goesOnOutside_47 n S x1 t1 = some (r, S2) → PW D y ad S H → va_S (AA ad) s.heap H locs → lv_has ls 2 [(0, .ref (ad 2)), (1, .int x1)] → W p l e (headSpec wsX5_goesOnOutside ({ frames := 2, cells := 0, slots := 0, locals := 40 })).room s m ([.ref (ad 2), .int a1] : List Value).toArray below meth c H locs 0 0 (QI below r S2 D y ad ([.ref (ad 2), .int a1] : List Value).toArray s) (F0 m 47 ls [.int t1, .ref (ad 2)]) := by
    intro  S x1 t1 H locs ls hf hP hS hl
    unfold f_X5_goesOnOutside_47 at hf
    obtain ⟨g_2, hf⟩ := gd_inv hf
    obtain ⟨S_1, eS_1, hf⟩ := bd_inv hf
    refine w_pI (ty := .boolean) (C := RX5) (T := TX5) hx hb hts n5 tyX5 tyX5_ok nmX5 hown hK hI hP hS t_2 rfl 6 (by decide) L34 rfl rfl rfl (zok g_2) dX5_goesOnOutside_47 (fun H locs hP hS => ?_)
    rw [← eS_1] at hP
    refine lv_aload_n hx hb dX5_goesOnOutside_50 rfl (lv_at hl 0 rfl) ?_
    refine lv_iconst (v := 3) hx hb dX5_goesOnOutside_51 (by decide) ?_
    obtain ⟨S_3, eS_3, hf⟩ := bd_inv hf
    refine w_pI (ty := .int) (C := RX5) (T := TX5) hx hb hts n5 tyX5 tyX5_ok nmX5 hown hK hI hP hS t_2 rfl 0 (by decide) L21 rfl rfl rfl ⟨rfl, rfl⟩ dX5_goesOnOutside_52 (fun H locs hP hS => ?_)
    rw [← eS_3] at hP
    refine lv_aload_n hx hb dX5_goesOnOutside_55 rfl (lv_at hl 0 rfl) ?_
    refine w_gI (C := RX5) (T := TX5) hx hb hts n5 hown hK hP t_2 rfl 5 (by decide) L31 rfl dX5_goesOnOutside_56 ?_
    refine lv_iconst (v := 2) hx hb dX5_goesOnOutside_59 (by decide) ?_
    refine lv_icmp_ne (tgt := 79) hx hb dX5_goesOnOutside_60 (by decide) (fun b_4 => ?_) (fun b_4 => ?_)
    · have hf := if_f b_4 hf
      refine lv_iconst (v := 0) hx hb dX5_goesOnOutside_79 (by decide) ?_
      exact w_zret hx hb hr hlocks (fun h => h (by decide)) hP hS (rt_inv hf) dX5_goesOnOutside_80
    · have hf := if_t b_4 hf
      refine lv_iload_n hx hb dX5_goesOnOutside_63 rfl (lv_at hl 1 rfl) ?_
      refine lv_bipush (v := (43)) hx hb dX5_goesOnOutside_64 (by decide) ?_
      refine lv_icmp_eq (tgt := 75) hx hb dX5_goesOnOutside_66 (by decide) (fun b_5 => ?_) (fun b_5 => ?_)
      · have hf := if_t b_5 hf
        exact j75   S_3  _ _ _ hf hP hS (lv_sub hl [0] rfl)
      · have hf := if_f b_5 hf
        refine lv_iload_n hx hb dX5_goesOnOutside_69 rfl (lv_at hl 1 rfl) ?_
        refine lv_bipush (v := (45)) hx hb dX5_goesOnOutside_70 (by decide) ?_
        refine lv_icmp_ne (tgt := 79) hx hb dX5_goesOnOutside_72 (by decide) (fun b_6 => ?_) (fun b_6 => ?_)
        · have hf := if_f b_6 hf
          refine lv_iconst (v := 0) hx hb dX5_goesOnOutside_79 (by decide) ?_
          exact w_zret hx hb hr hlocks (fun h => h (by decide)) hP hS (rt_inv hf) dX5_goesOnOutside_80
        · have hf := if_t b_6 hf
          exact j75   S_3  _ _ _ hf hP hS (lv_sub hl [0] rfl)
  unfold f_X5_goesOnOutside at hf
  refine lv_aload_n hx hb dX5_goesOnOutside_0 rfl (lv_at hl 0 rfl) ?_
  refine w_gI (C := RX5) (T := TX5) hx hb hts n5 hown hK hP t_2 rfl 5 (by decide) L31 rfl dX5_goesOnOutside_1 ?_
  refine lv_iconst (v := (-1)) hx hb dX5_goesOnOutside_4 (by decide) ?_
  refine lv_icmp_ne (tgt := 35) hx hb dX5_goesOnOutside_5 (by decide) (fun b_7 => ?_) (fun b_7 => ?_)
  · have hf := if_f b_7 hf
    refine lv_aload_n hx hb dX5_goesOnOutside_35 rfl (lv_at hl 0 rfl) ?_
    refine lv_iload_n hx hb dX5_goesOnOutside_36 rfl (lv_at hl 1 rfl) ?_
    refine lv_bipush (v := (45)) hx hb dX5_goesOnOutside_37 (by decide) ?_
    refine lv_icmp_ne (tgt := 46) hx hb dX5_goesOnOutside_39 (by decide) (fun b_8 => ?_) (fun b_8 => ?_)
    · have hf := if_f b_8 hf
      refine lv_iconst (v := 0) hx hb dX5_goesOnOutside_46 (by decide) ?_
      exact j47   S a1 ((0 : Int32)) _ _ _ hf hP hS (lv_sub hl [0, 1] rfl)
    · have hf := if_t b_8 hf
      refine lv_iconst (v := 1) hx hb dX5_goesOnOutside_42 (by decide) ?_
      refine lv_goto (tgt := 47) hx hb dX5_goesOnOutside_43 (by decide) ?_
      exact j47   S a1 ((1 : Int32)) _ _ _ hf hP hS (lv_sub hl [0, 1] rfl)
  · have hf := if_t b_7 hf
    refine lv_aload_n hx hb dX5_goesOnOutside_8 rfl (lv_at hl 0 rfl) ?_
    refine lv_iload_n hx hb dX5_goesOnOutside_9 rfl (lv_at hl 1 rfl) ?_
    obtain ⟨r_9, S_10, hc_11, hf⟩ := bo_inv hf
    refine w_ci (va_runS (As := [.int a1]) (rest := [.ref (ad 2)]) ⟨hx, hb, hml, hown, hts⟩ (c_X5_kindOfSign l D y ad aL aU hI n S a1 _ _ hc_11) (cwS 1 hts gX5_goesOnOutside_X5_kindOfSign rfl rfl rfl (by decide +kernel) ⟨Nat.le_of_ble_eq_true rfl, Nat.le_of_ble_eq_true rfl⟩) (pwu_S hP hK hZ hS) rfl rfl hl.1 rfl (lv_room (Nat.le_of_ble_eq_true rfl)) dX5_goesOnOutside_10 ⟨Nat.zero_le _, Nat.zero_le _⟩) hS (fun H locs hP hS => ?_)
    obtain ⟨S_12, eS_12, hf⟩ := bd_inv hf
    refine w_pI (ty := .int) (C := RX5) (T := TX5) hx hb hts n5 tyX5 tyX5_ok nmX5 hown hK hI hP hS t_2 rfl 5 (by decide) L31 rfl rfl rfl ⟨rfl, rfl⟩ dX5_goesOnOutside_13 (fun H locs hP hS => ?_)
    rw [← eS_12] at hP
    refine lv_aload_n hx hb dX5_goesOnOutside_16 rfl (lv_at hl 0 rfl) ?_
    refine lv_iconst (v := 0) hx hb dX5_goesOnOutside_17 (by decide) ?_
    obtain ⟨S_13, eS_13, hf⟩ := bd_inv hf
    refine w_pI (ty := .int) (C := RX5) (T := TX5) hx hb hts n5 tyX5 tyX5_ok nmX5 hown hK hI hP hS t_2 rfl 0 (by decide) L21 rfl rfl rfl ⟨rfl, rfl⟩ dX5_goesOnOutside_18 (fun H locs hP hS => ?_)
    rw [← eS_13] at hP
    refine lv_aload_n hx hb dX5_goesOnOutside_21 rfl (lv_at hl 0 rfl) ?_
    refine w_gI (C := RX5) (T := TX5) hx hb hts n5 hown hK hP t_2 rfl 5 (by decide) L31 rfl dX5_goesOnOutside_22 ?_
    refine lv_iconst (v := (-1)) hx hb dX5_goesOnOutside_25 (by decide) ?_
    refine lv_icmp_eq (tgt := 33) hx hb dX5_goesOnOutside_26 (by decide) (fun b_14 => ?_) (fun b_14 => ?_)
    · have hf := if_t b_14 hf
      refine lv_iconst (v := 0) hx hb dX5_goesOnOutside_33 (by decide) ?_
      exact w_zret hx hb hr hlocks (fun h => h (by decide)) hP hS (rt_inv hf) dX5_goesOnOutside_34
    · have hf := if_f b_14 hf
      refine lv_iconst (v := 1) hx hb dX5_goesOnOutside_29 (by decide) ?_
      refine lv_goto (tgt := 34) hx hb dX5_goesOnOutside_30 (by decide) ?_
      exact w_zret hx hb hr hlocks (fun h => h (by decide)) hP hS (rt_inv hf) dX5_goesOnOutside_34
set_option maxHeartbeats 4000000 in
set_option maxRecDepth 100000 in
theorem c_X5_goesOnInNumber (l : Launch) (D : va_G) (y : y4) (ad : Nat → Nat) (aL aU : Nat) (hI : Inj ad) (n : Nat) (S : St) (a1 : Int32) (r : Int32) (S2 : St) (hf : f_X5_goesOnInNumber n S a1 = some (r, S2)) : KI l D y ad aL aU yX5_goesOnInNumber wsX5_goesOnInNumber ({ frames := 1, cells := 0, slots := 0, locals := 20 }) [.ref (ad 2), .int a1] S r S2 := by
  refine Met.ofW (cc := cX5_goesOnInNumber) (maxL := 3) (ret := (some .boolean)) (by decide) rfl ?_
  intro p e s m args below meth c s₁ B hml hv
  obtain ⟨rfl, hP, hK, hZ⟩ := hv
  have hx := B.exec
  have hb := B.bytes
  have hr := B.returns
  have hts := atoms_spec (ws := wsX5_goesOnInNumber) B.pre
  have hown : s.vm.findClass RX5 = some m.cls := findClass_of_methodNamed B.named
  have hlocks := B.notSynchronized
  have hS : va_S (AA ad) s.heap s.heap [] := va_S.rf
  have L21 := hts (.fieldLink RX5 21 "JoinedTheories$Reader" "state" "I") (by decide +kernel)
  have L38 := hts (.fieldLink RX5 38 "JoinedTheories$Reader" "digits" "I") (by decide +kernel)
  have K68 := hts (.constant RX5 68 (999999)) (by decide +kernel)
  have n5 : ∀ w ∈ wsX50, w ∈ wsX5_goesOnInNumber := by decide +kernel
  have hl := lv_entry ([.ref (ad 2), .int a1]) (n := 3) (Nat.le_of_ble_eq_true rfl)
  rw [lg_entry_eq]
  generalize (lg_sl ([.ref (ad 2), .int a1]) ++ List.replicate (3 - (lg_sl ([.ref (ad 2), .int a1])).length) Slot.unset).toArray = ls at hl ⊢
  have hl : lv_has ls 3 [(0, .ref (ad 2)), (1, .int a1)] := hl
  have j15 : ∀ (S : St) (x1 : Int32) (t0 : Int32) (H : Heap) (locs : List Loc) (ls : Array Slot), f_X5_goesOnInNumber_15 n S x1 t0 = some (r, S2) → PW D y ad S H → va_S (AA ad) s.heap H locs → lv_has ls 3 [(0, .ref (ad 2)), (1, .int x1)] → W p l e (headSpec wsX5_goesOnInNumber ({ frames := 1, cells := 0, slots := 0, locals := 20 })).room s m ([.ref (ad 2), .int a1] : List Value).toArray below meth c H locs 0 0 (QI below r S2 D y ad ([.ref (ad 2), .int a1] : List Value).toArray s) (F0 m 15 ls [.int t0]) := by
    intro  S x1 t0 H locs ls hf hP hS hl
    unfold f_X5_goesOnInNumber_15 at hf
    obtain ⟨x2_1, ex2_1, hf⟩ := bd_inv hf
    refine w_topI ex2_1 ?_
    refine lv_istore_n (lv' := [(2, .int x2_1), (0, .ref (ad 2)), (1, .int x1)]) hx hb dX5_goesOnInNumber_15 rfl hl (by decide) rfl (fun ls hl => ?_)
    refine lv_iload_n hx hb dX5_goesOnInNumber_16 rfl (lv_at hl 2 rfl) ?_
    refine lv_iload_n hx hb dX5_goesOnInNumber_17 rfl (lv_at hl 0 rfl) ?_
    refine lv_icmp_lt (tgt := 27) hx hb dX5_goesOnInNumber_18 (by decide) (fun b_2 => ?_) (fun b_2 => ?_)
    · have hf := if_t b_2 hf
      refine lv_iconst (v := 0) hx hb dX5_goesOnInNumber_27 (by decide) ?_
      exact w_zret hx hb hr hlocks (fun h => h (by decide)) hP hS (rt_inv hf) dX5_goesOnInNumber_28
    · have hf := if_f b_2 hf
      refine lv_iload_n hx hb dX5_goesOnInNumber_21 rfl (lv_at hl 2 rfl) ?_
      refine lv_bipush (v := (57)) hx hb dX5_goesOnInNumber_22 (by decide) ?_
      refine lv_icmp_le (tgt := 29) hx hb dX5_goesOnInNumber_24 (by decide) (fun b_3 => ?_) (fun b_3 => ?_)
      · have hf := if_t b_3 hf
        refine lv_aload_n hx hb dX5_goesOnInNumber_29 rfl (lv_at hl 1 rfl) ?_
        refine lv_bipush (v := (10)) hx hb dX5_goesOnInNumber_30 (by decide) ?_
        refine lv_aload_n hx hb dX5_goesOnInNumber_32 rfl (lv_at hl 1 rfl) ?_
        refine w_gI (C := RX5) (T := TX5) hx hb hts n5 hown hK hP t_2 rfl 7 (by decide) L38 rfl dX5_goesOnInNumber_33 ?_
        refine lv_imul hx hb dX5_goesOnInNumber_36 ?_
        refine lv_iload_n hx hb dX5_goesOnInNumber_37 rfl (lv_at hl 2 rfl) ?_
        refine lv_bipush (v := (48)) hx hb dX5_goesOnInNumber_38 (by decide) ?_
        refine lv_isub hx hb dX5_goesOnInNumber_40 ?_
        refine lv_iadd hx hb dX5_goesOnInNumber_41 ?_
        obtain ⟨S_4, eS_4, hf⟩ := bd_inv hf
        refine w_pI (ty := .int) (C := RX5) (T := TX5) hx hb hts n5 tyX5 tyX5_ok nmX5 hown hK hI hP hS t_2 rfl 7 (by decide) L38 rfl rfl rfl ⟨rfl, rfl⟩ dX5_goesOnInNumber_42 (fun H locs hP hS => ?_)
        rw [← eS_4] at hP
        refine lv_aload_n hx hb dX5_goesOnInNumber_45 rfl (lv_at hl 1 rfl) ?_
        refine lv_iconst (v := 4) hx hb dX5_goesOnInNumber_46 (by decide) ?_
        obtain ⟨S_5, eS_5, hf⟩ := bd_inv hf
        refine w_pI (ty := .int) (C := RX5) (T := TX5) hx hb hts n5 tyX5 tyX5_ok nmX5 hown hK hI hP hS t_2 rfl 0 (by decide) L21 rfl rfl rfl ⟨rfl, rfl⟩ dX5_goesOnInNumber_47 (fun H locs hP hS => ?_)
        rw [← eS_5] at hP
        refine lv_aload_n hx hb dX5_goesOnInNumber_50 rfl (lv_at hl 1 rfl) ?_
        refine w_gI (C := RX5) (T := TX5) hx hb hts n5 hown hK hP t_2 rfl 7 (by decide) L38 rfl dX5_goesOnInNumber_51 ?_
        refine lv_ldc (v := (999999)) hx hb hown K68 dX5_goesOnInNumber_54 ?_
        refine lv_icmp_gt (tgt := 63) hx hb dX5_goesOnInNumber_56 (by decide) (fun b_6 => ?_) (fun b_6 => ?_)
        · have hf := if_t b_6 hf
          refine lv_iconst (v := 0) hx hb dX5_goesOnInNumber_63 (by decide) ?_
          exact w_zret hx hb hr hlocks (fun h => h (by decide)) hP hS (rt_inv hf) dX5_goesOnInNumber_64
        · have hf := if_f b_6 hf
          refine lv_iconst (v := 1) hx hb dX5_goesOnInNumber_59 (by decide) ?_
          refine lv_goto (tgt := 64) hx hb dX5_goesOnInNumber_60 (by decide) ?_
          exact w_zret hx hb hr hlocks (fun h => h (by decide)) hP hS (rt_inv hf) dX5_goesOnInNumber_64
      · have hf := if_f b_3 hf
        refine lv_iconst (v := 0) hx hb dX5_goesOnInNumber_27 (by decide) ?_
        exact w_zret hx hb hr hlocks (fun h => h (by decide)) hP hS (rt_inv hf) dX5_goesOnInNumber_28
  unfold f_X5_goesOnInNumber at hf
  refine lv_aload_n hx hb dX5_goesOnInNumber_0 rfl (lv_at hl 0 rfl) ?_
  refine w_gI (C := RX5) (T := TX5) hx hb hts n5 hown hK hP t_2 rfl 0 (by decide) L21 rfl dX5_goesOnInNumber_1 ?_
  refine lv_iconst (v := 3) hx hb dX5_goesOnInNumber_4 (by decide) ?_
  refine lv_icmp_ne (tgt := 13) hx hb dX5_goesOnInNumber_5 (by decide) (fun b_7 => ?_) (fun b_7 => ?_)
  · have hf := if_f b_7 hf
    refine lv_bipush (v := (48)) hx hb dX5_goesOnInNumber_13 (by decide) ?_
    exact j15   S a1 ((48 : Int32)) _ _ _ hf hP hS (lv_sub hl [0, 1] rfl)
  · have hf := if_t b_7 hf
    refine lv_bipush (v := (49)) hx hb dX5_goesOnInNumber_8 (by decide) ?_
    refine lv_goto (tgt := 15) hx hb dX5_goesOnInNumber_10 (by decide) ?_
    exact j15   S a1 ((49 : Int32)) _ _ _ hf hP hS (lv_sub hl [0, 1] rfl)
set_option maxHeartbeats 4000000 in
set_option maxRecDepth 100000 in
theorem c_X5_goesOnWith (l : Launch) (D : va_G) (y : y4) (ad : Nat → Nat) (aL aU : Nat) (hI : Inj ad) (n : Nat) (S : St) (a1 : Int32) (r : Int32) (S2 : St) (hf : f_X5_goesOnWith n S a1 = some (r, S2)) : KI l D y ad aL aU yX5_goesOnWith wsX5_goesOnWith ({ frames := 3, cells := 0, slots := 0, locals := 63 }) [.ref (ad 2), .int a1] S r S2 := by
  refine Met.ofW (cc := cX5_goesOnWith) (maxL := 2) (ret := (some .boolean)) (by decide) rfl ?_
  intro p e s m args below meth c s₁ B hml hv
  obtain ⟨rfl, hP, hK, hZ⟩ := hv
  have hx := B.exec
  have hb := B.bytes
  have hr := B.returns
  have hts := atoms_spec (ws := wsX5_goesOnWith) B.pre
  have hown : s.vm.findClass RX5 = some m.cls := findClass_of_methodNamed B.named
  have hlocks := B.notSynchronized
  have hS : va_S (AA ad) s.heap s.heap [] := va_S.rf
  have L21 := hts (.fieldLink RX5 21 "JoinedTheories$Reader" "state" "I") (by decide +kernel)
  have L25 := hts (.fieldLink RX5 25 "JoinedTheories$Reader" "depth" "I") (by decide +kernel)
  have n5 : ∀ w ∈ wsX50, w ∈ wsX5_goesOnWith := by decide +kernel
  have hl := lv_entry ([.ref (ad 2), .int a1]) (n := 2) (Nat.le_of_ble_eq_true rfl)
  rw [lg_entry_eq]
  generalize (lg_sl ([.ref (ad 2), .int a1]) ++ List.replicate (2 - (lg_sl ([.ref (ad 2), .int a1])).length) Slot.unset).toArray = ls at hl ⊢
  have hl : lv_has ls 2 [(0, .ref (ad 2)), (1, .int a1)] := hl
  unfold f_X5_goesOnWith at hf
  refine lv_aload_n hx hb dX5_goesOnWith_0 rfl (lv_at hl 0 rfl) ?_
  refine w_gI (C := RX5) (T := TX5) hx hb hts n5 hown hK hP t_2 rfl 0 (by decide) L21 rfl dX5_goesOnWith_1 ?_
  by_cases b_1 : (S.1 2 0) = (0 : Int32)
  · have hf := if_t b_1 hf
    refine lv_tableIn (tgt := 32) hx hb dX5_goesOnWith_4 (by rw [b_1]; decide) (by rw [b_1]; decide) (by rw [b_1]; rfl) (by decide) ?_
    refine lv_aload_n hx hb dX5_goesOnWith_32 rfl (lv_at hl 0 rfl) ?_
    refine lv_iload_n hx hb dX5_goesOnWith_33 rfl (lv_at hl 1 rfl) ?_
    obtain ⟨r_2, S_3, hc_4, hf⟩ := bo_inv hf
    refine w_ci (va_runV (As := [.int a1]) (rest := []) ⟨hx, hb, hml, hown, hts⟩ (c_X5_beginsTerm l D y ad aL aU hI n S a1 _ _ hc_4) (cwV 1 hts gX5_goesOnWith_X5_beginsTerm rfl rfl rfl (by decide +kernel) ⟨Nat.le_of_ble_eq_true rfl, Nat.le_of_ble_eq_true rfl⟩) (pwu_V t_2 rfl hP hK hZ hS) rfl rfl hl.1 rfl (lv_room (Nat.le_of_ble_eq_true rfl)) dX5_goesOnWith_34 ⟨Nat.zero_le _, Nat.zero_le _⟩) hS (fun H locs hP hS => ?_)
    obtain ⟨g_5, hf⟩ := gd_inv hf
    exact w_zret hx hb hr hlocks g_5 hP hS (rt_inv hf) dX5_goesOnWith_37
  · have hf := if_f b_1 hf
    by_cases b_6 : (S.1 2 0) = (1 : Int32)
    · have hf := if_t b_6 hf
      refine lv_tableIn (tgt := 38) hx hb dX5_goesOnWith_4 (by rw [b_6]; decide) (by rw [b_6]; decide) (by rw [b_6]; rfl) (by decide) ?_
      refine lv_aload_n hx hb dX5_goesOnWith_38 rfl (lv_at hl 0 rfl) ?_
      refine lv_iconst (v := 0) hx hb dX5_goesOnWith_39 (by decide) ?_
      obtain ⟨S_7, eS_7, hf⟩ := bd_inv hf
      refine w_pI (ty := .int) (C := RX5) (T := TX5) hx hb hts n5 tyX5 tyX5_ok nmX5 hown hK hI hP hS t_2 rfl 0 (by decide) L21 rfl rfl rfl ⟨rfl, rfl⟩ dX5_goesOnWith_40 (fun H locs hP hS => ?_)
      rw [← eS_7] at hP
      refine lv_iload_n hx hb dX5_goesOnWith_43 rfl (lv_at hl 1 rfl) ?_
      refine lv_bipush (v := (40)) hx hb dX5_goesOnWith_44 (by decide) ?_
      refine lv_icmp_ne (tgt := 53) hx hb dX5_goesOnWith_46 (by decide) (fun b_8 => ?_) (fun b_8 => ?_)
      · have hf := if_f b_8 hf
        refine lv_iconst (v := 0) hx hb dX5_goesOnWith_53 (by decide) ?_
        exact w_zret hx hb hr hlocks (fun h => h (by decide)) hP hS (rt_inv hf) dX5_goesOnWith_54
      · have hf := if_t b_8 hf
        refine lv_iconst (v := 1) hx hb dX5_goesOnWith_49 (by decide) ?_
        refine lv_goto (tgt := 54) hx hb dX5_goesOnWith_50 (by decide) ?_
        exact w_zret hx hb hr hlocks (fun h => h (by decide)) hP hS (rt_inv hf) dX5_goesOnWith_54
    · have hf := if_f b_6 hf
      by_cases b_9 : (S.1 2 0) = (2 : Int32)
      · have hf := if_t b_9 hf
        refine lv_tableIn (tgt := 55) hx hb dX5_goesOnWith_4 (by rw [b_9]; decide) (by rw [b_9]; decide) (by rw [b_9]; rfl) (by decide) ?_
        refine lv_aload_n hx hb dX5_goesOnWith_55 rfl (lv_at hl 0 rfl) ?_
        refine w_gI (C := RX5) (T := TX5) hx hb hts n5 hown hK hP t_2 rfl 2 (by decide) L25 rfl dX5_goesOnWith_56 ?_
        refine lv_if_le (tgt := 70) hx hb dX5_goesOnWith_59 (by decide) (fun b_10 => ?_) (fun b_10 => ?_)
        · have hf := if_t b_10 hf
          refine lv_aload_n hx hb dX5_goesOnWith_70 rfl (lv_at hl 0 rfl) ?_
          refine lv_iload_n hx hb dX5_goesOnWith_71 rfl (lv_at hl 1 rfl) ?_
          obtain ⟨r_11, S_12, hc_13, hf⟩ := bo_inv hf
          refine w_ci (va_runV (As := [.int a1]) (rest := []) ⟨hx, hb, hml, hown, hts⟩ (c_X5_goesOnOutside l D y ad aL aU hI n S a1 _ _ hc_13) (cwV 1 hts gX5_goesOnWith_X5_goesOnOutside rfl rfl rfl (by decide +kernel) ⟨Nat.le_of_ble_eq_true rfl, Nat.le_of_ble_eq_true rfl⟩) (pwu_V t_2 rfl hP hK hZ hS) rfl rfl hl.1 rfl (lv_room (Nat.le_of_ble_eq_true rfl)) dX5_goesOnWith_72 ⟨Nat.zero_le _, Nat.zero_le _⟩) hS (fun H locs hP hS => ?_)
          obtain ⟨g_14, hf⟩ := gd_inv hf
          exact w_zret hx hb hr hlocks g_14 hP hS (rt_inv hf) dX5_goesOnWith_75
        · have hf := if_f b_10 hf
          refine lv_aload_n hx hb dX5_goesOnWith_62 rfl (lv_at hl 0 rfl) ?_
          refine lv_iload_n hx hb dX5_goesOnWith_63 rfl (lv_at hl 1 rfl) ?_
          obtain ⟨r_15, S_16, hc_17, hf⟩ := bo_inv hf
          refine w_ci (va_runV (As := [.int a1]) (rest := []) ⟨hx, hb, hml, hown, hts⟩ (c_X5_goesOnInBrackets l D y ad aL aU hI n S a1 _ _ hc_17) (cwV 1 hts gX5_goesOnWith_X5_goesOnInBrackets rfl rfl rfl (by decide +kernel) ⟨Nat.le_of_ble_eq_true rfl, Nat.le_of_ble_eq_true rfl⟩) (pwu_V t_2 rfl hP hK hZ hS) rfl rfl hl.1 rfl (lv_room (Nat.le_of_ble_eq_true rfl)) dX5_goesOnWith_64 ⟨Nat.zero_le _, Nat.zero_le _⟩) hS (fun H locs hP hS => ?_)
          refine lv_goto (tgt := 75) hx hb dX5_goesOnWith_67 (by decide) ?_
          obtain ⟨g_18, hf⟩ := gd_inv hf
          exact w_zret hx hb hr hlocks g_18 hP hS (rt_inv hf) dX5_goesOnWith_75
      · have hf := if_f b_9 hf
        refine lv_tableOut (tgt := 76) hx hb dX5_goesOnWith_4 (by have i0 : ((S.1 2 0)).toInt ≠ (0 : Int) := ne_toInt b_1; have i1 : ((S.1 2 0)).toInt ≠ (1 : Int) := ne_toInt b_6; have i2 : ((S.1 2 0)).toInt ≠ (2 : Int) := ne_toInt b_9; omega) (by decide) ?_
        refine lv_aload_n hx hb dX5_goesOnWith_76 rfl (lv_at hl 0 rfl) ?_
        refine lv_iload_n hx hb dX5_goesOnWith_77 rfl (lv_at hl 1 rfl) ?_
        obtain ⟨r_19, S_20, hc_21, hf⟩ := bo_inv hf
        refine w_ci (va_runV (As := [.int a1]) (rest := []) ⟨hx, hb, hml, hown, hts⟩ (c_X5_goesOnInNumber l D y ad aL aU hI n S a1 _ _ hc_21) (cwV 1 hts gX5_goesOnWith_X5_goesOnInNumber rfl rfl rfl (by decide +kernel) ⟨Nat.le_of_ble_eq_true rfl, Nat.le_of_ble_eq_true rfl⟩) (pwu_V t_2 rfl hP hK hZ hS) rfl rfl hl.1 rfl (lv_room (Nat.le_of_ble_eq_true rfl)) dX5_goesOnWith_78 ⟨Nat.zero_le _, Nat.zero_le _⟩) hS (fun H locs hP hS => ?_)
        obtain ⟨g_22, hf⟩ := gd_inv hf
        exact w_zret hx hb hr hlocks g_22 hP hS (rt_inv hf) dX5_goesOnWith_81
