/-! THE LAW'S OPERATIONS, each walked: the class, then the reference, with the same answer (made by genwalk.py) -/
def LG (D : va_G) (y : y4) (ad : Nat → Nat) (aL aU : Nat) (s : State) : Prop := Inj ad ∧ va_K D vwCl (tysY y) s ∧ ZB s.heap.size aL aU s s.heap ∧ ∀ c, c < 122 → s.heap.size ≤ ad c
theorem law_pre {D : va_G} {y : y4} {ad : Nat → Nat} {aL aU : Nat} {S : St} {As : List Value} {s : State} {H : Heap} {locs : List Loc} {q ci : Nat} {ts : List Nat} {C : String} {T : u_T} {N : Nat} (hq : q < 122 ∧ lyT q = (0, ci, ts)) (hc : vwCl[ci]? = some (C, T, N)) (hP : PW D y ad S H) (hG : LG D y ad aL aU s) (hS : va_S (fun q : Nat => s.heap.size ≤ q) s.heap H locs) : PreV s H C (ad q) (va_Pc (.ref (ad q) :: As) (PWU D y ad aL aU S)) As :=
  ⟨pwu_blind, va_recv hG.2.1 hP hc (show (wl y ad S)[q]? = some (ad q, .inr (ci, lyO ad S q ts)) by rw [wl_get hq.1, lyE_obj hq.2]), fun U hU hW => ⟨rfl, by rw [hU]; exact hP, va_K.moved hW.alike hG.2.1, (ZB.go hW (fun a h1 h2 => by rw [hU]; exact hS.2.1 a h1 h2) hG.2.2.1).zz hG.2.2.2⟩⟩
theorem LG.big {D : va_G} {y : y4} {ad : Nat → Nat} {aL aU : Nat} {s : State} (h : LG D y ad aL aU s) {q : Nat} (hq : AA ad q) : s.heap.size ≤ q := by
  obtain ⟨c, hc, e⟩ := hq; rw [e]; exact h.2.2.2 c hc
section WC
variable {p : Program} {l : Launch} {e : Env} {R : Room} {s : State} {m : MethodId} {args : Array Value} {below : List Frame} {meth : Method} {c : Code} {H : Heap} {locs : List Loc} {Q : State → Prop}
variable {pc k1 k2 : Nat} {ls : Array Slot} {rest st0 : List Value} {D : va_G} {y : y4} {ad : Nat → Nat} {aL aU : Nat} {S2 : St} {a : Array Value}
theorem law_ci {r : Int32} (hG : LG D y ad aL aU s) (hr : va_Run p l e R s m args below meth c H locs k1 k2 0 0 (F0 m pc ls st0) rest (va_Qi (fun (r' : Int32) (u : St) => r' = r ∧ u = S2) (fun u t => PW D y ad u t.heap) (AA ad) a) (AA ad)) (hS : va_S (fun q : Nat => s.heap.size ≤ q) s.heap H locs)
    (kk : ∀ (H1 : Heap) (locs1 : List Loc), PW D y ad S2 H1 → va_S (fun q : Nat => s.heap.size ≤ q) s.heap H1 locs1 → W p l e R s m args below meth c H1 locs1 k1 k2 Q (F0 m (pc + 3) ls (.int r :: rest))) : W p l e R s m args below meth c H locs k1 k2 Q (F0 m pc ls st0) :=
  va_calli hr hS (fun _ _ h => hG.big h) (fun _ h => hG.big h) (fun r1 u t H1 locs1 ht _ hp hB _ _ hS1 => by obtain ⟨rfl, rfl⟩ := hp; exact kk H1 locs1 (by rw [← ht]; exact hB) hS1)
theorem law_cl {r : Int64} (hG : LG D y ad aL aU s) (hr : va_Run p l e R s m args below meth c H locs k1 k2 0 0 (F0 m pc ls st0) rest (va_Ql (fun (r' : Int64) (u : St) => r' = r ∧ u = S2) (fun u t => PW D y ad u t.heap) (AA ad) a) (AA ad)) (hS : va_S (fun q : Nat => s.heap.size ≤ q) s.heap H locs)
    (kk : ∀ (H1 : Heap) (locs1 : List Loc), PW D y ad S2 H1 → va_S (fun q : Nat => s.heap.size ≤ q) s.heap H1 locs1 → W p l e R s m args below meth c H1 locs1 k1 k2 Q (F0 m (pc + 3) ls (.long r :: rest))) : W p l e R s m args below meth c H locs k1 k2 Q (F0 m pc ls st0) :=
  va_calll hr hS (fun _ _ h => hG.big h) (fun _ h => hG.big h) (fun r1 u t H1 locs1 ht _ hp hB _ _ hS1 => by obtain ⟨rfl, rfl⟩ := hp; exact kk H1 locs1 (by rw [← ht]; exact hB) hS1)
end WC
set_option maxHeartbeats 4000000 in
set_option maxRecDepth 100000 in
theorem law_letter {p : Program} {l : Launch} {e : Env} {s : State} {m : MethodId} {below : List Frame} {meth : Method} {c : Code} {b L : Nat} {xs : Nat → Int32} {D : va_G} {y : y4} {ad : Nat → Nat} {aL aU : Nat} {S : St} {H : Heap} {locs : List Loc} {ls : Array Slot} {x : Int32} (C0 : lw_At p s m meth c b L xs) (hG : LG D y ad aL aU s) (hl : lv_has ls 4 [(0, .ref b), (1, .ref (ad 0)), (2, .ref (ad 28)), (3, .int x)]) (hP : PW D y ad S H) (hV : Inv S) (hS : va_S (fun q : Nat => s.heap.size ≤ q) s.heap H locs) (v1 : vp_in (x + 1) L) 
    (kk : ∀ (S : St) (H : Heap) (locs : List Loc), PW D y ad S H → Inv S → va_S (fun q : Nat => s.heap.size ≤ q) s.heap H locs → W p l e room_1 s m #[Value.ref b] below meth c H locs 122 11312 (lw_Z below #[Value.ref b] s) (F0 m 508 ls [])) : W p l e room_1 s m #[Value.ref b] below meth c H locs 122 11312 (lw_Z below #[Value.ref b] s) (F0 m 116 ls []) := by
  obtain ⟨hx, hb, hr, hml, hown, hts, hX, hbl, hlocks, hgv⟩ := C0
  have hown : s.vm.findClass RL = some m.cls := hown
  have hbA : ¬ (fun q : Nat => s.heap.size ≤ q) b := Nat.not_le.mpr hbl
  obtain ⟨r, S1, S2, h1, h2, hV2⟩ := op_letter hV ((xs (x + 1).toNatClampNeg))
  refine lv_aload_n hx hb dL_law_116 rfl (lv_at hl 1 rfl) ?_
  refine lv_aload_n hx hb dL_law_117 rfl (lv_at hl 0 rfl) ?_
  refine lv_iload_n hx hb dL_law_118 rfl (lv_at hl 3 rfl) ?_
  refine lv_iconst (v := 1) hx hb dL_law_119 (by decide) ?_
  refine lv_iadd hx hb dL_law_120 ?_
  refine va_sld hx hb hX hbl hbA hS v1 dL_law_121 ?_
  refine law_ci hG (va_runV (As := [.int (xs (x + 1).toNatClampNeg)]) (rest := []) ⟨hx, hb, hml, hown, hts⟩ (c_X8_letter l D y ad aL aU hG.1 NB S _ r S1 h1) (cwV 1 hts gv_X8_letter rfl rfl rfl (by decide +kernel) ⟨(Nat.le_of_ble_eq_true rfl), (Nat.le_of_ble_eq_true rfl)⟩) (law_pre t_0 rfl hP hG hS) rfl rfl hl.1 rfl (lv_room (Nat.le_of_ble_eq_true rfl)) dL_law_122 ⟨(Nat.le_of_ble_eq_true rfl), (Nat.le_of_ble_eq_true rfl)⟩) hS (fun H locs hP hS => ?_)
  refine lv_aload_n hx hb dL_law_125 rfl (lv_at hl 2 rfl) ?_
  refine lv_aload_n hx hb dL_law_126 rfl (lv_at hl 0 rfl) ?_
  refine lv_iload_n hx hb dL_law_127 rfl (lv_at hl 3 rfl) ?_
  refine lv_iconst (v := 1) hx hb dL_law_128 (by decide) ?_
  refine lv_iadd hx hb dL_law_129 ?_
  refine va_sld hx hb hX hbl hbA hS v1 dL_law_130 ?_
  refine law_ci hG (va_runV (As := [.int (xs (x + 1).toNatClampNeg)]) (rest := [.int r]) ⟨hx, hb, hml, hown, hts⟩ (c_X9_letter l D y ad aL aU hG.1 NB S1 _ r S2 h2) (cwV 1 hts gv_X9_letter rfl rfl rfl (by decide +kernel) ⟨(Nat.le_of_ble_eq_true rfl), (Nat.le_of_ble_eq_true rfl)⟩) (law_pre t_28 rfl hP hG hS) rfl rfl hl.1 rfl (lv_room (Nat.le_of_ble_eq_true rfl)) dL_law_131 ⟨(Nat.le_of_ble_eq_true rfl), (Nat.le_of_ble_eq_true rfl)⟩) hS (fun H locs hP hS => ?_)
  exact lv_icmp_eq (tgt := 508) hx hb dL_law_134 (by decide) (fun _ => kk S2 _ _ hP hV2 hS) (fun c => absurd rfl c)
set_option maxHeartbeats 4000000 in
set_option maxRecDepth 100000 in
theorem law_blank {p : Program} {l : Launch} {e : Env} {s : State} {m : MethodId} {below : List Frame} {meth : Method} {c : Code} {b L : Nat} {xs : Nat → Int32} {D : va_G} {y : y4} {ad : Nat → Nat} {aL aU : Nat} {S : St} {H : Heap} {locs : List Loc} {ls : Array Slot} {x : Int32} (C0 : lw_At p s m meth c b L xs) (hG : LG D y ad aL aU s) (hl : lv_has ls 4 [(0, .ref b), (1, .ref (ad 0)), (2, .ref (ad 28)), (3, .int x)]) (hP : PW D y ad S H) (hV : Inv S) (hS : va_S (fun q : Nat => s.heap.size ≤ q) s.heap H locs) 
    (kk : ∀ (S : St) (H : Heap) (locs : List Loc), PW D y ad S H → Inv S → va_S (fun q : Nat => s.heap.size ≤ q) s.heap H locs → W p l e room_1 s m #[Value.ref b] below meth c H locs 122 11312 (lw_Z below #[Value.ref b] s) (F0 m 508 ls [])) : W p l e room_1 s m #[Value.ref b] below meth c H locs 122 11312 (lw_Z below #[Value.ref b] s) (F0 m 139 ls []) := by
  obtain ⟨hx, hb, hr, hml, hown, hts, hX, hbl, hlocks, hgv⟩ := C0
  have hown : s.vm.findClass RL = some m.cls := hown
  have hbA : ¬ (fun q : Nat => s.heap.size ≤ q) b := Nat.not_le.mpr hbl
  obtain ⟨r, S1, S2, h1, h2, hV2⟩ := op_blank hV 
  refine lv_aload_n hx hb dL_law_139 rfl (lv_at hl 1 rfl) ?_
  refine law_ci hG (va_runV (As := []) (rest := []) ⟨hx, hb, hml, hown, hts⟩ (c_X8_blank l D y ad aL aU hG.1 NB S  r S1 h1) (cwV 0 hts gv_X8_blank rfl rfl rfl (by decide +kernel) ⟨(Nat.le_of_ble_eq_true rfl), (Nat.le_of_ble_eq_true rfl)⟩) (law_pre t_0 rfl hP hG hS) rfl rfl hl.1 rfl (lv_room (Nat.le_of_ble_eq_true rfl)) dL_law_140 ⟨(Nat.le_of_ble_eq_true rfl), (Nat.le_of_ble_eq_true rfl)⟩) hS (fun H locs hP hS => ?_)
  refine lv_aload_n hx hb dL_law_143 rfl (lv_at hl 2 rfl) ?_
  refine law_ci hG (va_runV (As := []) (rest := [.int r]) ⟨hx, hb, hml, hown, hts⟩ (c_X9_blank l D y ad aL aU hG.1 NB S1  r S2 h2) (cwV 0 hts gv_X9_blank rfl rfl rfl (by decide +kernel) ⟨(Nat.le_of_ble_eq_true rfl), (Nat.le_of_ble_eq_true rfl)⟩) (law_pre t_28 rfl hP hG hS) rfl rfl hl.1 rfl (lv_room (Nat.le_of_ble_eq_true rfl)) dL_law_144 ⟨(Nat.le_of_ble_eq_true rfl), (Nat.le_of_ble_eq_true rfl)⟩) hS (fun H locs hP hS => ?_)
  exact lv_icmp_eq (tgt := 508) hx hb dL_law_147 (by decide) (fun _ => kk S2 _ _ hP hV2 hS) (fun c => absurd rfl c)
set_option maxHeartbeats 4000000 in
set_option maxRecDepth 100000 in
theorem law_fault {p : Program} {l : Launch} {e : Env} {s : State} {m : MethodId} {below : List Frame} {meth : Method} {c : Code} {b L : Nat} {xs : Nat → Int32} {D : va_G} {y : y4} {ad : Nat → Nat} {aL aU : Nat} {S : St} {H : Heap} {locs : List Loc} {ls : Array Slot} {x : Int32} (C0 : lw_At p s m meth c b L xs) (hG : LG D y ad aL aU s) (hl : lv_has ls 4 [(0, .ref b), (1, .ref (ad 0)), (2, .ref (ad 28)), (3, .int x)]) (hP : PW D y ad S H) (hV : Inv S) (hS : va_S (fun q : Nat => s.heap.size ≤ q) s.heap H locs) 
    (kk : ∀ (S : St) (H : Heap) (locs : List Loc), PW D y ad S H → Inv S → va_S (fun q : Nat => s.heap.size ≤ q) s.heap H locs → W p l e room_1 s m #[Value.ref b] below meth c H locs 122 11312 (lw_Z below #[Value.ref b] s) (F0 m 508 ls [])) : W p l e room_1 s m #[Value.ref b] below meth c H locs 122 11312 (lw_Z below #[Value.ref b] s) (F0 m 152 ls []) := by
  obtain ⟨hx, hb, hr, hml, hown, hts, hX, hbl, hlocks, hgv⟩ := C0
  have hown : s.vm.findClass RL = some m.cls := hown
  have hbA : ¬ (fun q : Nat => s.heap.size ≤ q) b := Nat.not_le.mpr hbl
  obtain ⟨r, S1, S2, h1, h2, hV2⟩ := op_fault (Nat.le_trans (by decide) (NB110 (Nat.le_refl NB))) hV 
  refine lv_aload_n hx hb dL_law_152 rfl (lv_at hl 1 rfl) ?_
  refine law_ci hG (va_runV (As := []) (rest := []) ⟨hx, hb, hml, hown, hts⟩ (c_X8_fault l D y ad aL aU hG.1 NB S  r S1 h1) (cwV 0 hts gv_X8_fault rfl rfl rfl (by decide +kernel) ⟨(Nat.le_of_ble_eq_true rfl), (Nat.le_of_ble_eq_true rfl)⟩) (law_pre t_0 rfl hP hG hS) rfl rfl hl.1 rfl (lv_room (Nat.le_of_ble_eq_true rfl)) dL_law_153 ⟨(Nat.le_of_ble_eq_true rfl), (Nat.le_of_ble_eq_true rfl)⟩) hS (fun H locs hP hS => ?_)
  refine lv_aload_n hx hb dL_law_156 rfl (lv_at hl 2 rfl) ?_
  refine law_ci hG (va_runV (As := []) (rest := [.int r]) ⟨hx, hb, hml, hown, hts⟩ (c_X9_fault l D y ad aL aU hG.1 NB S1  r S2 h2) (cwV 0 hts gv_X9_fault rfl rfl rfl (by decide +kernel) ⟨(Nat.le_of_ble_eq_true rfl), (Nat.le_of_ble_eq_true rfl)⟩) (law_pre t_28 rfl hP hG hS) rfl rfl hl.1 rfl (lv_room (Nat.le_of_ble_eq_true rfl)) dL_law_157 ⟨(Nat.le_of_ble_eq_true rfl), (Nat.le_of_ble_eq_true rfl)⟩) hS (fun H locs hP hS => ?_)
  exact lv_icmp_eq (tgt := 508) hx hb dL_law_160 (by decide) (fun _ => kk S2 _ _ hP hV2 hS) (fun c => absurd rfl c)
set_option maxHeartbeats 4000000 in
set_option maxRecDepth 100000 in
theorem law_add {p : Program} {l : Launch} {e : Env} {s : State} {m : MethodId} {below : List Frame} {meth : Method} {c : Code} {b L : Nat} {xs : Nat → Int32} {D : va_G} {y : y4} {ad : Nat → Nat} {aL aU : Nat} {S : St} {H : Heap} {locs : List Loc} {ls : Array Slot} {x : Int32} (C0 : lw_At p s m meth c b L xs) (hG : LG D y ad aL aU s) (hl : lv_has ls 4 [(0, .ref b), (1, .ref (ad 0)), (2, .ref (ad 28)), (3, .int x)]) (hP : PW D y ad S H) (hV : Inv S) (hS : va_S (fun q : Nat => s.heap.size ≤ q) s.heap H locs) 
    (kk : ∀ (S : St) (H : Heap) (locs : List Loc), PW D y ad S H → Inv S → va_S (fun q : Nat => s.heap.size ≤ q) s.heap H locs → W p l e room_1 s m #[Value.ref b] below meth c H locs 122 11312 (lw_Z below #[Value.ref b] s) (F0 m 508 ls [])) : W p l e room_1 s m #[Value.ref b] below meth c H locs 122 11312 (lw_Z below #[Value.ref b] s) (F0 m 165 ls []) := by
  obtain ⟨hx, hb, hr, hml, hown, hts, hX, hbl, hlocks, hgv⟩ := C0
  have hown : s.vm.findClass RL = some m.cls := hown
  have hbA : ¬ (fun q : Nat => s.heap.size ≤ q) b := Nat.not_le.mpr hbl
  obtain ⟨r, S1, S2, h1, h2, hV2⟩ := op_add (NB110 (Nat.le_refl NB)) hV 
  refine lv_aload_n hx hb dL_law_165 rfl (lv_at hl 1 rfl) ?_
  refine law_ci hG (va_runV (As := []) (rest := []) ⟨hx, hb, hml, hown, hts⟩ (c_X8_add l D y ad aL aU hG.1 NB S  r S1 h1) (cwV 0 hts gv_X8_add rfl rfl rfl (by decide +kernel) ⟨(Nat.le_of_ble_eq_true rfl), (Nat.le_of_ble_eq_true rfl)⟩) (law_pre t_0 rfl hP hG hS) rfl rfl hl.1 rfl (lv_room (Nat.le_of_ble_eq_true rfl)) dL_law_166 ⟨(Nat.le_of_ble_eq_true rfl), (Nat.le_of_ble_eq_true rfl)⟩) hS (fun H locs hP hS => ?_)
  refine lv_aload_n hx hb dL_law_169 rfl (lv_at hl 2 rfl) ?_
  refine law_ci hG (va_runV (As := []) (rest := [.int r]) ⟨hx, hb, hml, hown, hts⟩ (c_X9_add l D y ad aL aU hG.1 NB S1  r S2 h2) (cwV 0 hts gv_X9_add rfl rfl rfl (by decide +kernel) ⟨(Nat.le_of_ble_eq_true rfl), (Nat.le_of_ble_eq_true rfl)⟩) (law_pre t_28 rfl hP hG hS) rfl rfl hl.1 rfl (lv_room (Nat.le_of_ble_eq_true rfl)) dL_law_170 ⟨(Nat.le_of_ble_eq_true rfl), (Nat.le_of_ble_eq_true rfl)⟩) hS (fun H locs hP hS => ?_)
  exact lv_icmp_eq (tgt := 508) hx hb dL_law_173 (by decide) (fun _ => kk S2 _ _ hP hV2 hS) (fun c => absurd rfl c)
set_option maxHeartbeats 4000000 in
set_option maxRecDepth 100000 in
theorem law_drop {p : Program} {l : Launch} {e : Env} {s : State} {m : MethodId} {below : List Frame} {meth : Method} {c : Code} {b L : Nat} {xs : Nat → Int32} {D : va_G} {y : y4} {ad : Nat → Nat} {aL aU : Nat} {S : St} {H : Heap} {locs : List Loc} {ls : Array Slot} {x : Int32} (C0 : lw_At p s m meth c b L xs) (hG : LG D y ad aL aU s) (hl : lv_has ls 4 [(0, .ref b), (1, .ref (ad 0)), (2, .ref (ad 28)), (3, .int x)]) (hP : PW D y ad S H) (hV : Inv S) (hS : va_S (fun q : Nat => s.heap.size ≤ q) s.heap H locs) (v1 : vp_in (x + 1) L) 
    (kk : ∀ (S : St) (H : Heap) (locs : List Loc), PW D y ad S H → Inv S → va_S (fun q : Nat => s.heap.size ≤ q) s.heap H locs → W p l e room_1 s m #[Value.ref b] below meth c H locs 122 11312 (lw_Z below #[Value.ref b] s) (F0 m 508 ls [])) : W p l e room_1 s m #[Value.ref b] below meth c H locs 122 11312 (lw_Z below #[Value.ref b] s) (F0 m 178 ls []) := by
  obtain ⟨hx, hb, hr, hml, hown, hts, hX, hbl, hlocks, hgv⟩ := C0
  have hown : s.vm.findClass RL = some m.cls := hown
  have hbA : ¬ (fun q : Nat => s.heap.size ≤ q) b := Nat.not_le.mpr hbl
  obtain ⟨r, S1, S2, h1, h2, hV2⟩ := op_drop (NB110 (Nat.le_refl NB)) hV ((xs (x + 1).toNatClampNeg))
  refine lv_aload_n hx hb dL_law_178 rfl (lv_at hl 1 rfl) ?_
  refine lv_aload_n hx hb dL_law_179 rfl (lv_at hl 0 rfl) ?_
  refine lv_iload_n hx hb dL_law_180 rfl (lv_at hl 3 rfl) ?_
  refine lv_iconst (v := 1) hx hb dL_law_181 (by decide) ?_
  refine lv_iadd hx hb dL_law_182 ?_
  refine va_sld hx hb hX hbl hbA hS v1 dL_law_183 ?_
  refine law_ci hG (va_runV (As := [.int (xs (x + 1).toNatClampNeg)]) (rest := []) ⟨hx, hb, hml, hown, hts⟩ (c_X8_drop l D y ad aL aU hG.1 NB S _ r S1 h1) (cwV 1 hts gv_X8_drop rfl rfl rfl (by decide +kernel) ⟨(Nat.le_of_ble_eq_true rfl), (Nat.le_of_ble_eq_true rfl)⟩) (law_pre t_0 rfl hP hG hS) rfl rfl hl.1 rfl (lv_room (Nat.le_of_ble_eq_true rfl)) dL_law_184 ⟨(Nat.le_of_ble_eq_true rfl), (Nat.le_of_ble_eq_true rfl)⟩) hS (fun H locs hP hS => ?_)
  refine lv_aload_n hx hb dL_law_187 rfl (lv_at hl 2 rfl) ?_
  refine lv_aload_n hx hb dL_law_188 rfl (lv_at hl 0 rfl) ?_
  refine lv_iload_n hx hb dL_law_189 rfl (lv_at hl 3 rfl) ?_
  refine lv_iconst (v := 1) hx hb dL_law_190 (by decide) ?_
  refine lv_iadd hx hb dL_law_191 ?_
  refine va_sld hx hb hX hbl hbA hS v1 dL_law_192 ?_
  refine law_ci hG (va_runV (As := [.int (xs (x + 1).toNatClampNeg)]) (rest := [.int r]) ⟨hx, hb, hml, hown, hts⟩ (c_X9_drop l D y ad aL aU hG.1 NB S1 _ r S2 h2) (cwV 1 hts gv_X9_drop rfl rfl rfl (by decide +kernel) ⟨(Nat.le_of_ble_eq_true rfl), (Nat.le_of_ble_eq_true rfl)⟩) (law_pre t_28 rfl hP hG hS) rfl rfl hl.1 rfl (lv_room (Nat.le_of_ble_eq_true rfl)) dL_law_193 ⟨(Nat.le_of_ble_eq_true rfl), (Nat.le_of_ble_eq_true rfl)⟩) hS (fun H locs hP hS => ?_)
  exact lv_icmp_eq (tgt := 508) hx hb dL_law_196 (by decide) (fun _ => kk S2 _ _ hP hV2 hS) (fun c => absurd rfl c)
set_option maxHeartbeats 4000000 in
set_option maxRecDepth 100000 in
theorem law_scale {p : Program} {l : Launch} {e : Env} {s : State} {m : MethodId} {below : List Frame} {meth : Method} {c : Code} {b L : Nat} {xs : Nat → Int32} {D : va_G} {y : y4} {ad : Nat → Nat} {aL aU : Nat} {S : St} {H : Heap} {locs : List Loc} {ls : Array Slot} {x : Int32} (C0 : lw_At p s m meth c b L xs) (hG : LG D y ad aL aU s) (hl : lv_has ls 4 [(0, .ref b), (1, .ref (ad 0)), (2, .ref (ad 28)), (3, .int x)]) (hP : PW D y ad S H) (hV : Inv S) (hS : va_S (fun q : Nat => s.heap.size ≤ q) s.heap H locs) (v1 : vp_in (x + 1) L) 
    (kk : ∀ (S : St) (H : Heap) (locs : List Loc), PW D y ad S H → Inv S → va_S (fun q : Nat => s.heap.size ≤ q) s.heap H locs → W p l e room_1 s m #[Value.ref b] below meth c H locs 122 11312 (lw_Z below #[Value.ref b] s) (F0 m 508 ls [])) : W p l e room_1 s m #[Value.ref b] below meth c H locs 122 11312 (lw_Z below #[Value.ref b] s) (F0 m 201 ls []) := by
  obtain ⟨hx, hb, hr, hml, hown, hts, hX, hbl, hlocks, hgv⟩ := C0
  have hown : s.vm.findClass RL = some m.cls := hown
  have hbA : ¬ (fun q : Nat => s.heap.size ≤ q) b := Nat.not_le.mpr hbl
  obtain ⟨r, S1, S2, h1, h2, hV2⟩ := op_scale (Nat.le_trans (by decide) (NB110 (Nat.le_refl NB))) hV ((xs (x + 1).toNatClampNeg))
  refine lv_aload_n hx hb dL_law_201 rfl (lv_at hl 1 rfl) ?_
  refine lv_aload_n hx hb dL_law_202 rfl (lv_at hl 0 rfl) ?_
  refine lv_iload_n hx hb dL_law_203 rfl (lv_at hl 3 rfl) ?_
  refine lv_iconst (v := 1) hx hb dL_law_204 (by decide) ?_
  refine lv_iadd hx hb dL_law_205 ?_
  refine va_sld hx hb hX hbl hbA hS v1 dL_law_206 ?_
  refine law_ci hG (va_runV (As := [.int (xs (x + 1).toNatClampNeg)]) (rest := []) ⟨hx, hb, hml, hown, hts⟩ (c_X8_scale l D y ad aL aU hG.1 NB S _ r S1 h1) (cwV 1 hts gv_X8_scale rfl rfl rfl (by decide +kernel) ⟨(Nat.le_of_ble_eq_true rfl), (Nat.le_of_ble_eq_true rfl)⟩) (law_pre t_0 rfl hP hG hS) rfl rfl hl.1 rfl (lv_room (Nat.le_of_ble_eq_true rfl)) dL_law_207 ⟨(Nat.le_of_ble_eq_true rfl), (Nat.le_of_ble_eq_true rfl)⟩) hS (fun H locs hP hS => ?_)
  refine lv_aload_n hx hb dL_law_210 rfl (lv_at hl 2 rfl) ?_
  refine lv_aload_n hx hb dL_law_211 rfl (lv_at hl 0 rfl) ?_
  refine lv_iload_n hx hb dL_law_212 rfl (lv_at hl 3 rfl) ?_
  refine lv_iconst (v := 1) hx hb dL_law_213 (by decide) ?_
  refine lv_iadd hx hb dL_law_214 ?_
  refine va_sld hx hb hX hbl hbA hS v1 dL_law_215 ?_
  refine law_ci hG (va_runV (As := [.int (xs (x + 1).toNatClampNeg)]) (rest := [.int r]) ⟨hx, hb, hml, hown, hts⟩ (c_X9_scale l D y ad aL aU hG.1 NB S1 _ r S2 h2) (cwV 1 hts gv_X9_scale rfl rfl rfl (by decide +kernel) ⟨(Nat.le_of_ble_eq_true rfl), (Nat.le_of_ble_eq_true rfl)⟩) (law_pre t_28 rfl hP hG hS) rfl rfl hl.1 rfl (lv_room (Nat.le_of_ble_eq_true rfl)) dL_law_216 ⟨(Nat.le_of_ble_eq_true rfl), (Nat.le_of_ble_eq_true rfl)⟩) hS (fun H locs hP hS => ?_)
  exact lv_icmp_eq (tgt := 508) hx hb dL_law_219 (by decide) (fun _ => kk S2 _ _ hP hV2 hS) (fun c => absurd rfl c)
set_option maxHeartbeats 4000000 in
set_option maxRecDepth 100000 in
theorem law_literal {p : Program} {l : Launch} {e : Env} {s : State} {m : MethodId} {below : List Frame} {meth : Method} {c : Code} {b L : Nat} {xs : Nat → Int32} {D : va_G} {y : y4} {ad : Nat → Nat} {aL aU : Nat} {S : St} {H : Heap} {locs : List Loc} {ls : Array Slot} {x : Int32} (C0 : lw_At p s m meth c b L xs) (hG : LG D y ad aL aU s) (hl : lv_has ls 4 [(0, .ref b), (1, .ref (ad 0)), (2, .ref (ad 28)), (3, .int x)]) (hP : PW D y ad S H) (hV : Inv S) (hS : va_S (fun q : Nat => s.heap.size ≤ q) s.heap H locs) (v1 : vp_in (x + 1) L) (v2 : vp_in (x + 2) L) 
    (kk : ∀ (S : St) (H : Heap) (locs : List Loc), PW D y ad S H → Inv S → va_S (fun q : Nat => s.heap.size ≤ q) s.heap H locs → W p l e room_1 s m #[Value.ref b] below meth c H locs 122 11312 (lw_Z below #[Value.ref b] s) (F0 m 508 ls [])) : W p l e room_1 s m #[Value.ref b] below meth c H locs 122 11312 (lw_Z below #[Value.ref b] s) (F0 m 224 ls []) := by
  obtain ⟨hx, hb, hr, hml, hown, hts, hX, hbl, hlocks, hgv⟩ := C0
  have hown : s.vm.findClass RL = some m.cls := hown
  have hbA : ¬ (fun q : Nat => s.heap.size ≤ q) b := Nat.not_le.mpr hbl
  obtain ⟨r, S1, S2, h1, h2, hV2⟩ := op_literal hV ((xs (x + 1).toNatClampNeg)) ((xs (x + 2).toNatClampNeg))
  refine lv_aload_n hx hb dL_law_224 rfl (lv_at hl 1 rfl) ?_
  refine lv_aload_n hx hb dL_law_225 rfl (lv_at hl 0 rfl) ?_
  refine lv_iload_n hx hb dL_law_226 rfl (lv_at hl 3 rfl) ?_
  refine lv_iconst (v := 1) hx hb dL_law_227 (by decide) ?_
  refine lv_iadd hx hb dL_law_228 ?_
  refine va_sld hx hb hX hbl hbA hS v1 dL_law_229 ?_
  refine lv_aload_n hx hb dL_law_230 rfl (lv_at hl 0 rfl) ?_
  refine lv_iload_n hx hb dL_law_231 rfl (lv_at hl 3 rfl) ?_
  refine lv_iconst (v := 2) hx hb dL_law_232 (by decide) ?_
  refine lv_iadd hx hb dL_law_233 ?_
  refine va_sld hx hb hX hbl hbA hS v2 dL_law_234 ?_
  refine law_ci hG (va_runV (As := [.int (xs (x + 1).toNatClampNeg), .int (xs (x + 2).toNatClampNeg)]) (rest := []) ⟨hx, hb, hml, hown, hts⟩ (c_X8_literal l D y ad aL aU hG.1 NB S _ _ r S1 h1) (cwV 2 hts gv_X8_literal rfl rfl rfl (by decide +kernel) ⟨(Nat.le_of_ble_eq_true rfl), (Nat.le_of_ble_eq_true rfl)⟩) (law_pre t_0 rfl hP hG hS) rfl rfl hl.1 rfl (lv_room (Nat.le_of_ble_eq_true rfl)) dL_law_235 ⟨(Nat.le_of_ble_eq_true rfl), (Nat.le_of_ble_eq_true rfl)⟩) hS (fun H locs hP hS => ?_)
  refine lv_aload_n hx hb dL_law_238 rfl (lv_at hl 2 rfl) ?_
  refine lv_aload_n hx hb dL_law_239 rfl (lv_at hl 0 rfl) ?_
  refine lv_iload_n hx hb dL_law_240 rfl (lv_at hl 3 rfl) ?_
  refine lv_iconst (v := 1) hx hb dL_law_241 (by decide) ?_
  refine lv_iadd hx hb dL_law_242 ?_
  refine va_sld hx hb hX hbl hbA hS v1 dL_law_243 ?_
  refine lv_aload_n hx hb dL_law_244 rfl (lv_at hl 0 rfl) ?_
  refine lv_iload_n hx hb dL_law_245 rfl (lv_at hl 3 rfl) ?_
  refine lv_iconst (v := 2) hx hb dL_law_246 (by decide) ?_
  refine lv_iadd hx hb dL_law_247 ?_
  refine va_sld hx hb hX hbl hbA hS v2 dL_law_248 ?_
  refine law_ci hG (va_runV (As := [.int (xs (x + 1).toNatClampNeg), .int (xs (x + 2).toNatClampNeg)]) (rest := [.int r]) ⟨hx, hb, hml, hown, hts⟩ (c_X9_literal l D y ad aL aU hG.1 NB S1 _ _ r S2 h2) (cwV 2 hts gv_X9_literal rfl rfl rfl (by decide +kernel) ⟨(Nat.le_of_ble_eq_true rfl), (Nat.le_of_ble_eq_true rfl)⟩) (law_pre t_28 rfl hP hG hS) rfl rfl hl.1 rfl (lv_room (Nat.le_of_ble_eq_true rfl)) dL_law_249 ⟨(Nat.le_of_ble_eq_true rfl), (Nat.le_of_ble_eq_true rfl)⟩) hS (fun H locs hP hS => ?_)
  exact lv_icmp_eq (tgt := 508) hx hb dL_law_252 (by decide) (fun _ => kk S2 _ _ hP hV2 hS) (fun c => absurd rfl c)
set_option maxHeartbeats 4000000 in
set_option maxRecDepth 100000 in
theorem law_term {p : Program} {l : Launch} {e : Env} {s : State} {m : MethodId} {below : List Frame} {meth : Method} {c : Code} {b L : Nat} {xs : Nat → Int32} {D : va_G} {y : y4} {ad : Nat → Nat} {aL aU : Nat} {S : St} {H : Heap} {locs : List Loc} {ls : Array Slot} {x : Int32} (C0 : lw_At p s m meth c b L xs) (hG : LG D y ad aL aU s) (hl : lv_has ls 4 [(0, .ref b), (1, .ref (ad 0)), (2, .ref (ad 28)), (3, .int x)]) (hP : PW D y ad S H) (hV : Inv S) (hS : va_S (fun q : Nat => s.heap.size ≤ q) s.heap H locs) (v1 : vp_in (x + 1) L) (v2 : vp_in (x + 2) L) 
    (kk : ∀ (S : St) (H : Heap) (locs : List Loc), PW D y ad S H → Inv S → va_S (fun q : Nat => s.heap.size ≤ q) s.heap H locs → W p l e room_1 s m #[Value.ref b] below meth c H locs 122 11312 (lw_Z below #[Value.ref b] s) (F0 m 508 ls [])) : W p l e room_1 s m #[Value.ref b] below meth c H locs 122 11312 (lw_Z below #[Value.ref b] s) (F0 m 257 ls []) := by
  obtain ⟨hx, hb, hr, hml, hown, hts, hX, hbl, hlocks, hgv⟩ := C0
  have hown : s.vm.findClass RL = some m.cls := hown
  have hbA : ¬ (fun q : Nat => s.heap.size ≤ q) b := Nat.not_le.mpr hbl
  obtain ⟨r, S1, S2, h1, h2, hV2⟩ := op_term (NB110 (Nat.le_refl NB)) hV ((xs (x + 1).toNatClampNeg)) ((xs (x + 2).toNatClampNeg))
  refine lv_aload_n hx hb dL_law_257 rfl (lv_at hl 1 rfl) ?_
  refine lv_aload_n hx hb dL_law_258 rfl (lv_at hl 0 rfl) ?_
  refine lv_iload_n hx hb dL_law_259 rfl (lv_at hl 3 rfl) ?_
  refine lv_iconst (v := 1) hx hb dL_law_260 (by decide) ?_
  refine lv_iadd hx hb dL_law_261 ?_
  refine va_sld hx hb hX hbl hbA hS v1 dL_law_262 ?_
  refine lv_aload_n hx hb dL_law_263 rfl (lv_at hl 0 rfl) ?_
  refine lv_iload_n hx hb dL_law_264 rfl (lv_at hl 3 rfl) ?_
  refine lv_iconst (v := 2) hx hb dL_law_265 (by decide) ?_
  refine lv_iadd hx hb dL_law_266 ?_
  refine va_sld hx hb hX hbl hbA hS v2 dL_law_267 ?_
  refine law_ci hG (va_runV (As := [.int (xs (x + 1).toNatClampNeg), .int (xs (x + 2).toNatClampNeg)]) (rest := []) ⟨hx, hb, hml, hown, hts⟩ (c_X8_term l D y ad aL aU hG.1 NB S _ _ r S1 h1) (cwV 2 hts gv_X8_term rfl rfl rfl (by decide +kernel) ⟨(Nat.le_of_ble_eq_true rfl), (Nat.le_of_ble_eq_true rfl)⟩) (law_pre t_0 rfl hP hG hS) rfl rfl hl.1 rfl (lv_room (Nat.le_of_ble_eq_true rfl)) dL_law_268 ⟨(Nat.le_of_ble_eq_true rfl), (Nat.le_of_ble_eq_true rfl)⟩) hS (fun H locs hP hS => ?_)
  refine lv_aload_n hx hb dL_law_271 rfl (lv_at hl 2 rfl) ?_
  refine lv_aload_n hx hb dL_law_272 rfl (lv_at hl 0 rfl) ?_
  refine lv_iload_n hx hb dL_law_273 rfl (lv_at hl 3 rfl) ?_
  refine lv_iconst (v := 1) hx hb dL_law_274 (by decide) ?_
  refine lv_iadd hx hb dL_law_275 ?_
  refine va_sld hx hb hX hbl hbA hS v1 dL_law_276 ?_
  refine lv_aload_n hx hb dL_law_277 rfl (lv_at hl 0 rfl) ?_
  refine lv_iload_n hx hb dL_law_278 rfl (lv_at hl 3 rfl) ?_
  refine lv_iconst (v := 2) hx hb dL_law_279 (by decide) ?_
  refine lv_iadd hx hb dL_law_280 ?_
  refine va_sld hx hb hX hbl hbA hS v2 dL_law_281 ?_
  refine law_ci hG (va_runV (As := [.int (xs (x + 1).toNatClampNeg), .int (xs (x + 2).toNatClampNeg)]) (rest := [.int r]) ⟨hx, hb, hml, hown, hts⟩ (c_X9_term l D y ad aL aU hG.1 NB S1 _ _ r S2 h2) (cwV 2 hts gv_X9_term rfl rfl rfl (by decide +kernel) ⟨(Nat.le_of_ble_eq_true rfl), (Nat.le_of_ble_eq_true rfl)⟩) (law_pre t_28 rfl hP hG hS) rfl rfl hl.1 rfl (lv_room (Nat.le_of_ble_eq_true rfl)) dL_law_282 ⟨(Nat.le_of_ble_eq_true rfl), (Nat.le_of_ble_eq_true rfl)⟩) hS (fun H locs hP hS => ?_)
  exact lv_icmp_eq (tgt := 508) hx hb dL_law_285 (by decide) (fun _ => kk S2 _ _ hP hV2 hS) (fun c => absurd rfl c)
set_option maxHeartbeats 4000000 in
set_option maxRecDepth 100000 in
theorem law_exchange {p : Program} {l : Launch} {e : Env} {s : State} {m : MethodId} {below : List Frame} {meth : Method} {c : Code} {b L : Nat} {xs : Nat → Int32} {D : va_G} {y : y4} {ad : Nat → Nat} {aL aU : Nat} {S : St} {H : Heap} {locs : List Loc} {ls : Array Slot} {x : Int32} (C0 : lw_At p s m meth c b L xs) (hG : LG D y ad aL aU s) (hl : lv_has ls 4 [(0, .ref b), (1, .ref (ad 0)), (2, .ref (ad 28)), (3, .int x)]) (hP : PW D y ad S H) (hV : Inv S) (hS : va_S (fun q : Nat => s.heap.size ≤ q) s.heap H locs) (v1 : vp_in (x + 1) L) 
    (kk : ∀ (S : St) (H : Heap) (locs : List Loc), PW D y ad S H → Inv S → va_S (fun q : Nat => s.heap.size ≤ q) s.heap H locs → W p l e room_1 s m #[Value.ref b] below meth c H locs 122 11312 (lw_Z below #[Value.ref b] s) (F0 m 508 ls [])) : W p l e room_1 s m #[Value.ref b] below meth c H locs 122 11312 (lw_Z below #[Value.ref b] s) (F0 m 290 ls []) := by
  obtain ⟨hx, hb, hr, hml, hown, hts, hX, hbl, hlocks, hgv⟩ := C0
  have hown : s.vm.findClass RL = some m.cls := hown
  have hbA : ¬ (fun q : Nat => s.heap.size ≤ q) b := Nat.not_le.mpr hbl
  obtain ⟨r, S1, S2, h1, h2, hV2⟩ := op_exchange (NB110 (Nat.le_refl NB)) hV ((xs (x + 1).toNatClampNeg))
  refine lv_aload_n hx hb dL_law_290 rfl (lv_at hl 1 rfl) ?_
  refine lv_aload_n hx hb dL_law_291 rfl (lv_at hl 0 rfl) ?_
  refine lv_iload_n hx hb dL_law_292 rfl (lv_at hl 3 rfl) ?_
  refine lv_iconst (v := 1) hx hb dL_law_293 (by decide) ?_
  refine lv_iadd hx hb dL_law_294 ?_
  refine va_sld hx hb hX hbl hbA hS v1 dL_law_295 ?_
  refine law_ci hG (va_runV (As := [.int (xs (x + 1).toNatClampNeg)]) (rest := []) ⟨hx, hb, hml, hown, hts⟩ (c_X8_exchange l D y ad aL aU hG.1 NB S _ r S1 h1) (cwV 1 hts gv_X8_exchange rfl rfl rfl (by decide +kernel) ⟨(Nat.le_of_ble_eq_true rfl), (Nat.le_of_ble_eq_true rfl)⟩) (law_pre t_0 rfl hP hG hS) rfl rfl hl.1 rfl (lv_room (Nat.le_of_ble_eq_true rfl)) dL_law_296 ⟨(Nat.le_of_ble_eq_true rfl), (Nat.le_of_ble_eq_true rfl)⟩) hS (fun H locs hP hS => ?_)
  refine lv_aload_n hx hb dL_law_299 rfl (lv_at hl 2 rfl) ?_
  refine lv_aload_n hx hb dL_law_300 rfl (lv_at hl 0 rfl) ?_
  refine lv_iload_n hx hb dL_law_301 rfl (lv_at hl 3 rfl) ?_
  refine lv_iconst (v := 1) hx hb dL_law_302 (by decide) ?_
  refine lv_iadd hx hb dL_law_303 ?_
  refine va_sld hx hb hX hbl hbA hS v1 dL_law_304 ?_
  refine law_ci hG (va_runV (As := [.int (xs (x + 1).toNatClampNeg)]) (rest := [.int r]) ⟨hx, hb, hml, hown, hts⟩ (c_X9_exchange l D y ad aL aU hG.1 NB S1 _ r S2 h2) (cwV 1 hts gv_X9_exchange rfl rfl rfl (by decide +kernel) ⟨(Nat.le_of_ble_eq_true rfl), (Nat.le_of_ble_eq_true rfl)⟩) (law_pre t_28 rfl hP hG hS) rfl rfl hl.1 rfl (lv_room (Nat.le_of_ble_eq_true rfl)) dL_law_305 ⟨(Nat.le_of_ble_eq_true rfl), (Nat.le_of_ble_eq_true rfl)⟩) hS (fun H locs hP hS => ?_)
  exact lv_icmp_eq (tgt := 508) hx hb dL_law_308 (by decide) (fun _ => kk S2 _ _ hP hV2 hS) (fun c => absurd rfl c)
set_option maxHeartbeats 4000000 in
set_option maxRecDepth 100000 in
theorem law_far {p : Program} {l : Launch} {e : Env} {s : State} {m : MethodId} {below : List Frame} {meth : Method} {c : Code} {b L : Nat} {xs : Nat → Int32} {D : va_G} {y : y4} {ad : Nat → Nat} {aL aU : Nat} {S : St} {H : Heap} {locs : List Loc} {ls : Array Slot} {x : Int32} (C0 : lw_At p s m meth c b L xs) (hG : LG D y ad aL aU s) (hl : lv_has ls 4 [(0, .ref b), (1, .ref (ad 0)), (2, .ref (ad 28)), (3, .int x)]) (hP : PW D y ad S H) (hV : Inv S) (hS : va_S (fun q : Nat => s.heap.size ≤ q) s.heap H locs) (v1 : vp_in (x + 1) L) (v2 : vp_in (x + 2) L) 
    (kk : ∀ (S : St) (H : Heap) (locs : List Loc), PW D y ad S H → Inv S → va_S (fun q : Nat => s.heap.size ≤ q) s.heap H locs → W p l e room_1 s m #[Value.ref b] below meth c H locs 122 11312 (lw_Z below #[Value.ref b] s) (F0 m 508 ls [])) : W p l e room_1 s m #[Value.ref b] below meth c H locs 122 11312 (lw_Z below #[Value.ref b] s) (F0 m 313 ls []) := by
  obtain ⟨hx, hb, hr, hml, hown, hts, hX, hbl, hlocks, hgv⟩ := C0
  have hown : s.vm.findClass RL = some m.cls := hown
  have hbA : ¬ (fun q : Nat => s.heap.size ≤ q) b := Nat.not_le.mpr hbl
  obtain ⟨r, S1, S2, h1, h2, hV2⟩ := op_far (NB110 (Nat.le_refl NB)) hV ((xs (x + 1).toNatClampNeg)) ((xs (x + 2).toNatClampNeg))
  refine lv_aload_n hx hb dL_law_313 rfl (lv_at hl 1 rfl) ?_
  refine lv_aload_n hx hb dL_law_314 rfl (lv_at hl 0 rfl) ?_
  refine lv_iload_n hx hb dL_law_315 rfl (lv_at hl 3 rfl) ?_
  refine lv_iconst (v := 1) hx hb dL_law_316 (by decide) ?_
  refine lv_iadd hx hb dL_law_317 ?_
  refine va_sld hx hb hX hbl hbA hS v1 dL_law_318 ?_
  refine lv_aload_n hx hb dL_law_319 rfl (lv_at hl 0 rfl) ?_
  refine lv_iload_n hx hb dL_law_320 rfl (lv_at hl 3 rfl) ?_
  refine lv_iconst (v := 2) hx hb dL_law_321 (by decide) ?_
  refine lv_iadd hx hb dL_law_322 ?_
  refine va_sld hx hb hX hbl hbA hS v2 dL_law_323 ?_
  refine law_ci hG (va_runV (As := [.int (xs (x + 1).toNatClampNeg), .int (xs (x + 2).toNatClampNeg)]) (rest := []) ⟨hx, hb, hml, hown, hts⟩ (c_X8_far l D y ad aL aU hG.1 NB S _ _ r S1 h1) (cwV 2 hts gv_X8_far rfl rfl rfl (by decide +kernel) ⟨(Nat.le_of_ble_eq_true rfl), (Nat.le_of_ble_eq_true rfl)⟩) (law_pre t_0 rfl hP hG hS) rfl rfl hl.1 rfl (lv_room (Nat.le_of_ble_eq_true rfl)) dL_law_324 ⟨(Nat.le_of_ble_eq_true rfl), (Nat.le_of_ble_eq_true rfl)⟩) hS (fun H locs hP hS => ?_)
  refine lv_aload_n hx hb dL_law_327 rfl (lv_at hl 2 rfl) ?_
  refine lv_aload_n hx hb dL_law_328 rfl (lv_at hl 0 rfl) ?_
  refine lv_iload_n hx hb dL_law_329 rfl (lv_at hl 3 rfl) ?_
  refine lv_iconst (v := 1) hx hb dL_law_330 (by decide) ?_
  refine lv_iadd hx hb dL_law_331 ?_
  refine va_sld hx hb hX hbl hbA hS v1 dL_law_332 ?_
  refine lv_aload_n hx hb dL_law_333 rfl (lv_at hl 0 rfl) ?_
  refine lv_iload_n hx hb dL_law_334 rfl (lv_at hl 3 rfl) ?_
  refine lv_iconst (v := 2) hx hb dL_law_335 (by decide) ?_
  refine lv_iadd hx hb dL_law_336 ?_
  refine va_sld hx hb hX hbl hbA hS v2 dL_law_337 ?_
  refine law_ci hG (va_runV (As := [.int (xs (x + 1).toNatClampNeg), .int (xs (x + 2).toNatClampNeg)]) (rest := [.int r]) ⟨hx, hb, hml, hown, hts⟩ (c_X9_far l D y ad aL aU hG.1 NB S1 _ _ r S2 h2) (cwV 2 hts gv_X9_far rfl rfl rfl (by decide +kernel) ⟨(Nat.le_of_ble_eq_true rfl), (Nat.le_of_ble_eq_true rfl)⟩) (law_pre t_28 rfl hP hG hS) rfl rfl hl.1 rfl (lv_room (Nat.le_of_ble_eq_true rfl)) dL_law_338 ⟨(Nat.le_of_ble_eq_true rfl), (Nat.le_of_ble_eq_true rfl)⟩) hS (fun H locs hP hS => ?_)
  exact lv_icmp_eq (tgt := 508) hx hb dL_law_341 (by decide) (fun _ => kk S2 _ _ hP hV2 hS) (fun c => absurd rfl c)
set_option maxHeartbeats 4000000 in
set_option maxRecDepth 100000 in
theorem law_holds {p : Program} {l : Launch} {e : Env} {s : State} {m : MethodId} {below : List Frame} {meth : Method} {c : Code} {b L : Nat} {xs : Nat → Int32} {D : va_G} {y : y4} {ad : Nat → Nat} {aL aU : Nat} {S : St} {H : Heap} {locs : List Loc} {ls : Array Slot} {x : Int32} (C0 : lw_At p s m meth c b L xs) (hG : LG D y ad aL aU s) (hl : lv_has ls 4 [(0, .ref b), (1, .ref (ad 0)), (2, .ref (ad 28)), (3, .int x)]) (hP : PW D y ad S H) (hV : Inv S) (hS : va_S (fun q : Nat => s.heap.size ≤ q) s.heap H locs) 
    (kk : ∀ (S : St) (H : Heap) (locs : List Loc), PW D y ad S H → Inv S → va_S (fun q : Nat => s.heap.size ≤ q) s.heap H locs → W p l e room_1 s m #[Value.ref b] below meth c H locs 122 11312 (lw_Z below #[Value.ref b] s) (F0 m 508 ls [])) : W p l e room_1 s m #[Value.ref b] below meth c H locs 122 11312 (lw_Z below #[Value.ref b] s) (F0 m 346 ls []) := by
  obtain ⟨hx, hb, hr, hml, hown, hts, hX, hbl, hlocks, hgv⟩ := C0
  have hown : s.vm.findClass RL = some m.cls := hown
  have hbA : ¬ (fun q : Nat => s.heap.size ≤ q) b := Nat.not_le.mpr hbl
  obtain ⟨r, S1, S2, h1, h2, hV2⟩ := op_holds (Nat.le_refl NB) hV 
  refine lv_aload_n hx hb dL_law_346 rfl (lv_at hl 1 rfl) ?_
  refine law_ci hG (va_runV (As := []) (rest := []) ⟨hx, hb, hml, hown, hts⟩ (c_X8_holds l D y ad aL aU hG.1 NB S  r S1 h1) (cwV 0 hts gv_X8_holds rfl rfl rfl (by decide +kernel) ⟨(Nat.le_of_ble_eq_true rfl), (Nat.le_of_ble_eq_true rfl)⟩) (law_pre t_0 rfl hP hG hS) rfl rfl hl.1 rfl (lv_room (Nat.le_of_ble_eq_true rfl)) dL_law_347 ⟨(Nat.le_of_ble_eq_true rfl), (Nat.le_of_ble_eq_true rfl)⟩) hS (fun H locs hP hS => ?_)
  refine lv_aload_n hx hb dL_law_350 rfl (lv_at hl 2 rfl) ?_
  refine law_ci hG (va_runV (As := []) (rest := [.int r]) ⟨hx, hb, hml, hown, hts⟩ (c_X9_holds l D y ad aL aU hG.1 NB S1  r S2 h2) (cwV 0 hts gv_X9_holds rfl rfl rfl (by decide +kernel) ⟨(Nat.le_of_ble_eq_true rfl), (Nat.le_of_ble_eq_true rfl)⟩) (law_pre t_28 rfl hP hG hS) rfl rfl hl.1 rfl (lv_room (Nat.le_of_ble_eq_true rfl)) dL_law_351 ⟨(Nat.le_of_ble_eq_true rfl), (Nat.le_of_ble_eq_true rfl)⟩) hS (fun H locs hP hS => ?_)
  exact lv_icmp_eq (tgt := 508) hx hb dL_law_354 (by decide) (fun _ => kk S2 _ _ hP hV2 hS) (fun c => absurd rfl c)
set_option maxHeartbeats 4000000 in
set_option maxRecDepth 100000 in
theorem law_apart {p : Program} {l : Launch} {e : Env} {s : State} {m : MethodId} {below : List Frame} {meth : Method} {c : Code} {b L : Nat} {xs : Nat → Int32} {D : va_G} {y : y4} {ad : Nat → Nat} {aL aU : Nat} {S : St} {H : Heap} {locs : List Loc} {ls : Array Slot} {x : Int32} (C0 : lw_At p s m meth c b L xs) (hG : LG D y ad aL aU s) (hl : lv_has ls 4 [(0, .ref b), (1, .ref (ad 0)), (2, .ref (ad 28)), (3, .int x)]) (hP : PW D y ad S H) (hV : Inv S) (hS : va_S (fun q : Nat => s.heap.size ≤ q) s.heap H locs) (v1 : vp_in (x + 1) L) (v2 : vp_in (x + 2) L) 
    (kk : ∀ (S : St) (H : Heap) (locs : List Loc), PW D y ad S H → Inv S → va_S (fun q : Nat => s.heap.size ≤ q) s.heap H locs → W p l e room_1 s m #[Value.ref b] below meth c H locs 122 11312 (lw_Z below #[Value.ref b] s) (F0 m 508 ls [])) : W p l e room_1 s m #[Value.ref b] below meth c H locs 122 11312 (lw_Z below #[Value.ref b] s) (F0 m 359 ls []) := by
  obtain ⟨hx, hb, hr, hml, hown, hts, hX, hbl, hlocks, hgv⟩ := C0
  have hown : s.vm.findClass RL = some m.cls := hown
  have hbA : ¬ (fun q : Nat => s.heap.size ≤ q) b := Nat.not_le.mpr hbl
  obtain ⟨r, S1, S2, h1, h2, hV2⟩ := op_apart (Nat.le_refl NB) hV ((xs (x + 1).toNatClampNeg)) ((xs (x + 2).toNatClampNeg))
  refine lv_aload_n hx hb dL_law_359 rfl (lv_at hl 1 rfl) ?_
  refine lv_aload_n hx hb dL_law_360 rfl (lv_at hl 0 rfl) ?_
  refine lv_iload_n hx hb dL_law_361 rfl (lv_at hl 3 rfl) ?_
  refine lv_iconst (v := 1) hx hb dL_law_362 (by decide) ?_
  refine lv_iadd hx hb dL_law_363 ?_
  refine va_sld hx hb hX hbl hbA hS v1 dL_law_364 ?_
  refine lv_aload_n hx hb dL_law_365 rfl (lv_at hl 0 rfl) ?_
  refine lv_iload_n hx hb dL_law_366 rfl (lv_at hl 3 rfl) ?_
  refine lv_iconst (v := 2) hx hb dL_law_367 (by decide) ?_
  refine lv_iadd hx hb dL_law_368 ?_
  refine va_sld hx hb hX hbl hbA hS v2 dL_law_369 ?_
  refine law_ci hG (va_runV (As := [.int (xs (x + 1).toNatClampNeg), .int (xs (x + 2).toNatClampNeg)]) (rest := []) ⟨hx, hb, hml, hown, hts⟩ (c_X8_apart l D y ad aL aU hG.1 NB S _ _ r S1 h1) (cwV 2 hts gv_X8_apart rfl rfl rfl (by decide +kernel) ⟨(Nat.le_of_ble_eq_true rfl), (Nat.le_of_ble_eq_true rfl)⟩) (law_pre t_0 rfl hP hG hS) rfl rfl hl.1 rfl (lv_room (Nat.le_of_ble_eq_true rfl)) dL_law_370 ⟨(Nat.le_of_ble_eq_true rfl), (Nat.le_of_ble_eq_true rfl)⟩) hS (fun H locs hP hS => ?_)
  refine lv_aload_n hx hb dL_law_373 rfl (lv_at hl 2 rfl) ?_
  refine lv_aload_n hx hb dL_law_374 rfl (lv_at hl 0 rfl) ?_
  refine lv_iload_n hx hb dL_law_375 rfl (lv_at hl 3 rfl) ?_
  refine lv_iconst (v := 1) hx hb dL_law_376 (by decide) ?_
  refine lv_iadd hx hb dL_law_377 ?_
  refine va_sld hx hb hX hbl hbA hS v1 dL_law_378 ?_
  refine lv_aload_n hx hb dL_law_379 rfl (lv_at hl 0 rfl) ?_
  refine lv_iload_n hx hb dL_law_380 rfl (lv_at hl 3 rfl) ?_
  refine lv_iconst (v := 2) hx hb dL_law_381 (by decide) ?_
  refine lv_iadd hx hb dL_law_382 ?_
  refine va_sld hx hb hX hbl hbA hS v2 dL_law_383 ?_
  refine law_ci hG (va_runV (As := [.int (xs (x + 1).toNatClampNeg), .int (xs (x + 2).toNatClampNeg)]) (rest := [.int r]) ⟨hx, hb, hml, hown, hts⟩ (c_X9_apart l D y ad aL aU hG.1 NB S1 _ _ r S2 h2) (cwV 2 hts gv_X9_apart rfl rfl rfl (by decide +kernel) ⟨(Nat.le_of_ble_eq_true rfl), (Nat.le_of_ble_eq_true rfl)⟩) (law_pre t_28 rfl hP hG hS) rfl rfl hl.1 rfl (lv_room (Nat.le_of_ble_eq_true rfl)) dL_law_384 ⟨(Nat.le_of_ble_eq_true rfl), (Nat.le_of_ble_eq_true rfl)⟩) hS (fun H locs hP hS => ?_)
  exact lv_icmp_eq (tgt := 508) hx hb dL_law_387 (by decide) (fun _ => kk S2 _ _ hP hV2 hS) (fun c => absurd rfl c)
set_option maxHeartbeats 4000000 in
set_option maxRecDepth 100000 in
theorem law_implied {p : Program} {l : Launch} {e : Env} {s : State} {m : MethodId} {below : List Frame} {meth : Method} {c : Code} {b L : Nat} {xs : Nat → Int32} {D : va_G} {y : y4} {ad : Nat → Nat} {aL aU : Nat} {S : St} {H : Heap} {locs : List Loc} {ls : Array Slot} {x : Int32} (C0 : lw_At p s m meth c b L xs) (hG : LG D y ad aL aU s) (hl : lv_has ls 4 [(0, .ref b), (1, .ref (ad 0)), (2, .ref (ad 28)), (3, .int x)]) (hP : PW D y ad S H) (hV : Inv S) (hS : va_S (fun q : Nat => s.heap.size ≤ q) s.heap H locs) (v1 : vp_in (x + 1) L) (v2 : vp_in (x + 2) L) (v3 : vp_in (x + 3) L) 
    (kk : ∀ (S : St) (H : Heap) (locs : List Loc), PW D y ad S H → Inv S → va_S (fun q : Nat => s.heap.size ≤ q) s.heap H locs → W p l e room_1 s m #[Value.ref b] below meth c H locs 122 11312 (lw_Z below #[Value.ref b] s) (F0 m 508 ls [])) : W p l e room_1 s m #[Value.ref b] below meth c H locs 122 11312 (lw_Z below #[Value.ref b] s) (F0 m 392 ls []) := by
  obtain ⟨hx, hb, hr, hml, hown, hts, hX, hbl, hlocks, hgv⟩ := C0
  have hown : s.vm.findClass RL = some m.cls := hown
  have hbA : ¬ (fun q : Nat => s.heap.size ≤ q) b := Nat.not_le.mpr hbl
  obtain ⟨r, S1, S2, h1, h2, hV2⟩ := op_implied (Nat.le_refl NB) hV ((xs (x + 1).toNatClampNeg)) ((xs (x + 2).toNatClampNeg)) ((xs (x + 3).toNatClampNeg))
  refine lv_aload_n hx hb dL_law_392 rfl (lv_at hl 1 rfl) ?_
  refine lv_aload_n hx hb dL_law_393 rfl (lv_at hl 0 rfl) ?_
  refine lv_iload_n hx hb dL_law_394 rfl (lv_at hl 3 rfl) ?_
  refine lv_iconst (v := 1) hx hb dL_law_395 (by decide) ?_
  refine lv_iadd hx hb dL_law_396 ?_
  refine va_sld hx hb hX hbl hbA hS v1 dL_law_397 ?_
  refine lv_aload_n hx hb dL_law_398 rfl (lv_at hl 0 rfl) ?_
  refine lv_iload_n hx hb dL_law_399 rfl (lv_at hl 3 rfl) ?_
  refine lv_iconst (v := 2) hx hb dL_law_400 (by decide) ?_
  refine lv_iadd hx hb dL_law_401 ?_
  refine va_sld hx hb hX hbl hbA hS v2 dL_law_402 ?_
  refine lv_aload_n hx hb dL_law_403 rfl (lv_at hl 0 rfl) ?_
  refine lv_iload_n hx hb dL_law_404 rfl (lv_at hl 3 rfl) ?_
  refine lv_iconst (v := 3) hx hb dL_law_405 (by decide) ?_
  refine lv_iadd hx hb dL_law_406 ?_
  refine va_sld hx hb hX hbl hbA hS v3 dL_law_407 ?_
  refine law_ci hG (va_runV (As := [.int (xs (x + 1).toNatClampNeg), .int (xs (x + 2).toNatClampNeg), .int (xs (x + 3).toNatClampNeg)]) (rest := []) ⟨hx, hb, hml, hown, hts⟩ (c_X8_implied l D y ad aL aU hG.1 NB S _ _ _ r S1 h1) (cwV 3 hts gv_X8_implied rfl rfl rfl (by decide +kernel) ⟨(Nat.le_of_ble_eq_true rfl), (Nat.le_of_ble_eq_true rfl)⟩) (law_pre t_0 rfl hP hG hS) rfl rfl hl.1 rfl (lv_room (Nat.le_of_ble_eq_true rfl)) dL_law_408 ⟨(Nat.le_of_ble_eq_true rfl), (Nat.le_of_ble_eq_true rfl)⟩) hS (fun H locs hP hS => ?_)
  refine lv_aload_n hx hb dL_law_411 rfl (lv_at hl 2 rfl) ?_
  refine lv_aload_n hx hb dL_law_412 rfl (lv_at hl 0 rfl) ?_
  refine lv_iload_n hx hb dL_law_413 rfl (lv_at hl 3 rfl) ?_
  refine lv_iconst (v := 1) hx hb dL_law_414 (by decide) ?_
  refine lv_iadd hx hb dL_law_415 ?_
  refine va_sld hx hb hX hbl hbA hS v1 dL_law_416 ?_
  refine lv_aload_n hx hb dL_law_417 rfl (lv_at hl 0 rfl) ?_
  refine lv_iload_n hx hb dL_law_418 rfl (lv_at hl 3 rfl) ?_
  refine lv_iconst (v := 2) hx hb dL_law_419 (by decide) ?_
  refine lv_iadd hx hb dL_law_420 ?_
  refine va_sld hx hb hX hbl hbA hS v2 dL_law_421 ?_
  refine lv_aload_n hx hb dL_law_422 rfl (lv_at hl 0 rfl) ?_
  refine lv_iload_n hx hb dL_law_423 rfl (lv_at hl 3 rfl) ?_
  refine lv_iconst (v := 3) hx hb dL_law_424 (by decide) ?_
  refine lv_iadd hx hb dL_law_425 ?_
  refine va_sld hx hb hX hbl hbA hS v3 dL_law_426 ?_
  refine law_ci hG (va_runV (As := [.int (xs (x + 1).toNatClampNeg), .int (xs (x + 2).toNatClampNeg), .int (xs (x + 3).toNatClampNeg)]) (rest := [.int r]) ⟨hx, hb, hml, hown, hts⟩ (c_X9_implied l D y ad aL aU hG.1 NB S1 _ _ _ r S2 h2) (cwV 3 hts gv_X9_implied rfl rfl rfl (by decide +kernel) ⟨(Nat.le_of_ble_eq_true rfl), (Nat.le_of_ble_eq_true rfl)⟩) (law_pre t_28 rfl hP hG hS) rfl rfl hl.1 rfl (lv_room (Nat.le_of_ble_eq_true rfl)) dL_law_427 ⟨(Nat.le_of_ble_eq_true rfl), (Nat.le_of_ble_eq_true rfl)⟩) hS (fun H locs hP hS => ?_)
  exact lv_icmp_eq (tgt := 508) hx hb dL_law_430 (by decide) (fun _ => kk S2 _ _ hP hV2 hS) (fun c => absurd rfl c)
set_option maxHeartbeats 4000000 in
set_option maxRecDepth 100000 in
theorem law_why {p : Program} {l : Launch} {e : Env} {s : State} {m : MethodId} {below : List Frame} {meth : Method} {c : Code} {b L : Nat} {xs : Nat → Int32} {D : va_G} {y : y4} {ad : Nat → Nat} {aL aU : Nat} {S : St} {H : Heap} {locs : List Loc} {ls : Array Slot} {x : Int32} (C0 : lw_At p s m meth c b L xs) (hG : LG D y ad aL aU s) (hl : lv_has ls 4 [(0, .ref b), (1, .ref (ad 0)), (2, .ref (ad 28)), (3, .int x)]) (hP : PW D y ad S H) (hV : Inv S) (hS : va_S (fun q : Nat => s.heap.size ≤ q) s.heap H locs) 
    (kk : ∀ (S : St) (H : Heap) (locs : List Loc), PW D y ad S H → Inv S → va_S (fun q : Nat => s.heap.size ≤ q) s.heap H locs → W p l e room_1 s m #[Value.ref b] below meth c H locs 122 11312 (lw_Z below #[Value.ref b] s) (F0 m 508 ls [])) : W p l e room_1 s m #[Value.ref b] below meth c H locs 122 11312 (lw_Z below #[Value.ref b] s) (F0 m 435 ls []) := by
  obtain ⟨hx, hb, hr, hml, hown, hts, hX, hbl, hlocks, hgv⟩ := C0
  have hown : s.vm.findClass RL = some m.cls := hown
  have hbA : ¬ (fun q : Nat => s.heap.size ≤ q) b := Nat.not_le.mpr hbl
  obtain ⟨r, S1, S2, h1, h2, hV2⟩ := op_why (Nat.le_refl NB) hV 
  refine lv_aload_n hx hb dL_law_435 rfl (lv_at hl 1 rfl) ?_
  refine law_ci hG (va_runV (As := []) (rest := []) ⟨hx, hb, hml, hown, hts⟩ (c_X8_why l D y ad aL aU hG.1 NB S  r S1 h1) (cwV 0 hts gv_X8_why rfl rfl rfl (by decide +kernel) ⟨(Nat.le_of_ble_eq_true rfl), (Nat.le_of_ble_eq_true rfl)⟩) (law_pre t_0 rfl hP hG hS) rfl rfl hl.1 rfl (lv_room (Nat.le_of_ble_eq_true rfl)) dL_law_436 ⟨(Nat.le_of_ble_eq_true rfl), (Nat.le_of_ble_eq_true rfl)⟩) hS (fun H locs hP hS => ?_)
  refine lv_aload_n hx hb dL_law_439 rfl (lv_at hl 2 rfl) ?_
  refine law_ci hG (va_runV (As := []) (rest := [.int r]) ⟨hx, hb, hml, hown, hts⟩ (c_X9_why l D y ad aL aU hG.1 NB S1  r S2 h2) (cwV 0 hts gv_X9_why rfl rfl rfl (by decide +kernel) ⟨(Nat.le_of_ble_eq_true rfl), (Nat.le_of_ble_eq_true rfl)⟩) (law_pre t_28 rfl hP hG hS) rfl rfl hl.1 rfl (lv_room (Nat.le_of_ble_eq_true rfl)) dL_law_440 ⟨(Nat.le_of_ble_eq_true rfl), (Nat.le_of_ble_eq_true rfl)⟩) hS (fun H locs hP hS => ?_)
  exact lv_icmp_eq (tgt := 508) hx hb dL_law_443 (by decide) (fun _ => kk S2 _ _ hP hV2 hS) (fun c => absurd rfl c)
set_option maxHeartbeats 4000000 in
set_option maxRecDepth 100000 in
theorem law_either {p : Program} {l : Launch} {e : Env} {s : State} {m : MethodId} {below : List Frame} {meth : Method} {c : Code} {b L : Nat} {xs : Nat → Int32} {D : va_G} {y : y4} {ad : Nat → Nat} {aL aU : Nat} {S : St} {H : Heap} {locs : List Loc} {ls : Array Slot} {x : Int32} (C0 : lw_At p s m meth c b L xs) (hG : LG D y ad aL aU s) (hl : lv_has ls 4 [(0, .ref b), (1, .ref (ad 0)), (2, .ref (ad 28)), (3, .int x)]) (hP : PW D y ad S H) (hV : Inv S) (hS : va_S (fun q : Nat => s.heap.size ≤ q) s.heap H locs) (v1 : vp_in (x + 1) L) 
    (kk : ∀ (S : St) (H : Heap) (locs : List Loc), PW D y ad S H → Inv S → va_S (fun q : Nat => s.heap.size ≤ q) s.heap H locs → W p l e room_1 s m #[Value.ref b] below meth c H locs 122 11312 (lw_Z below #[Value.ref b] s) (F0 m 508 ls [])) : W p l e room_1 s m #[Value.ref b] below meth c H locs 122 11312 (lw_Z below #[Value.ref b] s) (F0 m 448 ls []) := by
  obtain ⟨hx, hb, hr, hml, hown, hts, hX, hbl, hlocks, hgv⟩ := C0
  have hown : s.vm.findClass RL = some m.cls := hown
  have hbA : ¬ (fun q : Nat => s.heap.size ≤ q) b := Nat.not_le.mpr hbl
  obtain ⟨r, S1, S2, h1, h2, hV2⟩ := op_either (Nat.le_refl NB) hV ((xs (x + 1).toNatClampNeg))
  refine lv_aload_n hx hb dL_law_448 rfl (lv_at hl 1 rfl) ?_
  refine lv_aload_n hx hb dL_law_449 rfl (lv_at hl 0 rfl) ?_
  refine lv_iload_n hx hb dL_law_450 rfl (lv_at hl 3 rfl) ?_
  refine lv_iconst (v := 1) hx hb dL_law_451 (by decide) ?_
  refine lv_iadd hx hb dL_law_452 ?_
  refine va_sld hx hb hX hbl hbA hS v1 dL_law_453 ?_
  refine law_ci hG (va_runV (As := [.int (xs (x + 1).toNatClampNeg)]) (rest := []) ⟨hx, hb, hml, hown, hts⟩ (c_X8_either l D y ad aL aU hG.1 NB S _ r S1 h1) (cwV 1 hts gv_X8_either rfl rfl rfl (by decide +kernel) ⟨(Nat.le_of_ble_eq_true rfl), (Nat.le_of_ble_eq_true rfl)⟩) (law_pre t_0 rfl hP hG hS) rfl rfl hl.1 rfl (lv_room (Nat.le_of_ble_eq_true rfl)) dL_law_454 ⟨(Nat.le_of_ble_eq_true rfl), (Nat.le_of_ble_eq_true rfl)⟩) hS (fun H locs hP hS => ?_)
  refine lv_aload_n hx hb dL_law_457 rfl (lv_at hl 2 rfl) ?_
  refine lv_aload_n hx hb dL_law_458 rfl (lv_at hl 0 rfl) ?_
  refine lv_iload_n hx hb dL_law_459 rfl (lv_at hl 3 rfl) ?_
  refine lv_iconst (v := 1) hx hb dL_law_460 (by decide) ?_
  refine lv_iadd hx hb dL_law_461 ?_
  refine va_sld hx hb hX hbl hbA hS v1 dL_law_462 ?_
  refine law_ci hG (va_runV (As := [.int (xs (x + 1).toNatClampNeg)]) (rest := [.int r]) ⟨hx, hb, hml, hown, hts⟩ (c_X9_either l D y ad aL aU hG.1 NB S1 _ r S2 h2) (cwV 1 hts gv_X9_either rfl rfl rfl (by decide +kernel) ⟨(Nat.le_of_ble_eq_true rfl), (Nat.le_of_ble_eq_true rfl)⟩) (law_pre t_28 rfl hP hG hS) rfl rfl hl.1 rfl (lv_room (Nat.le_of_ble_eq_true rfl)) dL_law_463 ⟨(Nat.le_of_ble_eq_true rfl), (Nat.le_of_ble_eq_true rfl)⟩) hS (fun H locs hP hS => ?_)
  exact lv_icmp_eq (tgt := 508) hx hb dL_law_466 (by decide) (fun _ => kk S2 _ _ hP hV2 hS) (fun c => absurd rfl c)
set_option maxHeartbeats 4000000 in
set_option maxRecDepth 100000 in
theorem law_count {p : Program} {l : Launch} {e : Env} {s : State} {m : MethodId} {below : List Frame} {meth : Method} {c : Code} {b L : Nat} {xs : Nat → Int32} {D : va_G} {y : y4} {ad : Nat → Nat} {aL aU : Nat} {S : St} {H : Heap} {locs : List Loc} {ls : Array Slot} {x : Int32} (C0 : lw_At p s m meth c b L xs) (hG : LG D y ad aL aU s) (hl : lv_has ls 4 [(0, .ref b), (1, .ref (ad 0)), (2, .ref (ad 28)), (3, .int x)]) (hP : PW D y ad S H) (hV : Inv S) (hS : va_S (fun q : Nat => s.heap.size ≤ q) s.heap H locs) (v1 : vp_in (x + 1) L) 
    (kk : ∀ (S : St) (H : Heap) (locs : List Loc), PW D y ad S H → Inv S → va_S (fun q : Nat => s.heap.size ≤ q) s.heap H locs → W p l e room_1 s m #[Value.ref b] below meth c H locs 122 11312 (lw_Z below #[Value.ref b] s) (F0 m 508 ls [])) : W p l e room_1 s m #[Value.ref b] below meth c H locs 122 11312 (lw_Z below #[Value.ref b] s) (F0 m 471 ls []) := by
  obtain ⟨hx, hb, hr, hml, hown, hts, hX, hbl, hlocks, hgv⟩ := C0
  have hown : s.vm.findClass RL = some m.cls := hown
  have hbA : ¬ (fun q : Nat => s.heap.size ≤ q) b := Nat.not_le.mpr hbl
  obtain ⟨r, S1, S2, h1, h2, hV2⟩ := op_count hV ((xs (x + 1).toNatClampNeg))
  refine lv_aload_n hx hb dL_law_471 rfl (lv_at hl 1 rfl) ?_
  refine lv_aload_n hx hb dL_law_472 rfl (lv_at hl 0 rfl) ?_
  refine lv_iload_n hx hb dL_law_473 rfl (lv_at hl 3 rfl) ?_
  refine lv_iconst (v := 1) hx hb dL_law_474 (by decide) ?_
  refine lv_iadd hx hb dL_law_475 ?_
  refine va_sld hx hb hX hbl hbA hS v1 dL_law_476 ?_
  refine law_ci hG (va_runV (As := [.int (xs (x + 1).toNatClampNeg)]) (rest := []) ⟨hx, hb, hml, hown, hts⟩ (c_X8_count l D y ad aL aU hG.1 NB S _ r S1 h1) (cwV 1 hts gv_X8_count rfl rfl rfl (by decide +kernel) ⟨(Nat.le_of_ble_eq_true rfl), (Nat.le_of_ble_eq_true rfl)⟩) (law_pre t_0 rfl hP hG hS) rfl rfl hl.1 rfl (lv_room (Nat.le_of_ble_eq_true rfl)) dL_law_477 ⟨(Nat.le_of_ble_eq_true rfl), (Nat.le_of_ble_eq_true rfl)⟩) hS (fun H locs hP hS => ?_)
  refine lv_aload_n hx hb dL_law_480 rfl (lv_at hl 2 rfl) ?_
  refine lv_aload_n hx hb dL_law_481 rfl (lv_at hl 0 rfl) ?_
  refine lv_iload_n hx hb dL_law_482 rfl (lv_at hl 3 rfl) ?_
  refine lv_iconst (v := 1) hx hb dL_law_483 (by decide) ?_
  refine lv_iadd hx hb dL_law_484 ?_
  refine va_sld hx hb hX hbl hbA hS v1 dL_law_485 ?_
  refine law_ci hG (va_runV (As := [.int (xs (x + 1).toNatClampNeg)]) (rest := [.int r]) ⟨hx, hb, hml, hown, hts⟩ (c_X9_count l D y ad aL aU hG.1 NB S1 _ r S2 h2) (cwV 1 hts gv_X9_count rfl rfl rfl (by decide +kernel) ⟨(Nat.le_of_ble_eq_true rfl), (Nat.le_of_ble_eq_true rfl)⟩) (law_pre t_28 rfl hP hG hS) rfl rfl hl.1 rfl (lv_room (Nat.le_of_ble_eq_true rfl)) dL_law_486 ⟨(Nat.le_of_ble_eq_true rfl), (Nat.le_of_ble_eq_true rfl)⟩) hS (fun H locs hP hS => ?_)
  exact lv_icmp_eq (tgt := 508) hx hb dL_law_489 (by decide) (fun _ => kk S2 _ _ hP hV2 hS) (fun c => absurd rfl c)
set_option maxHeartbeats 4000000 in
set_option maxRecDepth 100000 in
theorem law_digest {p : Program} {l : Launch} {e : Env} {s : State} {m : MethodId} {below : List Frame} {meth : Method} {c : Code} {b L : Nat} {xs : Nat → Int32} {D : va_G} {y : y4} {ad : Nat → Nat} {aL aU : Nat} {S : St} {H : Heap} {locs : List Loc} {ls : Array Slot} {x : Int32} (C0 : lw_At p s m meth c b L xs) (hG : LG D y ad aL aU s) (hl : lv_has ls 4 [(0, .ref b), (1, .ref (ad 0)), (2, .ref (ad 28)), (3, .int x)]) (hP : PW D y ad S H) (hV : Inv S) (hS : va_S (fun q : Nat => s.heap.size ≤ q) s.heap H locs) 
    (kk : ∀ (S : St) (H : Heap) (locs : List Loc), PW D y ad S H → Inv S → va_S (fun q : Nat => s.heap.size ≤ q) s.heap H locs → W p l e room_1 s m #[Value.ref b] below meth c H locs 122 11312 (lw_Z below #[Value.ref b] s) (F0 m 508 ls [])) : W p l e room_1 s m #[Value.ref b] below meth c H locs 122 11312 (lw_Z below #[Value.ref b] s) (F0 m 494 ls []) := by
  obtain ⟨hx, hb, hr, hml, hown, hts, hX, hbl, hlocks, hgv⟩ := C0
  have hown : s.vm.findClass RL = some m.cls := hown
  have hbA : ¬ (fun q : Nat => s.heap.size ≤ q) b := Nat.not_le.mpr hbl
  obtain ⟨r, S1, S2, h1, h2, hV2⟩ := op_digest (Nat.le_refl NB) hV 
  refine lv_aload_n hx hb dL_law_494 rfl (lv_at hl 1 rfl) ?_
  refine law_cl hG (va_runV (As := []) (rest := []) ⟨hx, hb, hml, hown, hts⟩ (c_X8_digest l D y ad aL aU hG.1 NB S  r S1 h1) (cwV 0 hts gv_X8_digest rfl rfl rfl (by decide +kernel) ⟨(Nat.le_of_ble_eq_true rfl), (Nat.le_of_ble_eq_true rfl)⟩) (law_pre t_0 rfl hP hG hS) rfl rfl hl.1 rfl (lv_room (Nat.le_of_ble_eq_true rfl)) dL_law_495 ⟨(Nat.le_of_ble_eq_true rfl), (Nat.le_of_ble_eq_true rfl)⟩) hS (fun H locs hP hS => ?_)
  refine lv_aload_n hx hb dL_law_498 rfl (lv_at hl 2 rfl) ?_
  refine law_cl hG (va_runV (As := []) (rest := [.long r]) ⟨hx, hb, hml, hown, hts⟩ (c_X9_digest l D y ad aL aU hG.1 NB S1  r S2 h2) (cwV 0 hts gv_X9_digest rfl rfl rfl (by decide +kernel) ⟨(Nat.le_of_ble_eq_true rfl), (Nat.le_of_ble_eq_true rfl)⟩) (law_pre t_28 rfl hP hG hS) rfl rfl hl.1 rfl (lv_room (Nat.le_of_ble_eq_true rfl)) dL_law_499 ⟨(Nat.le_of_ble_eq_true rfl), (Nat.le_of_ble_eq_true rfl)⟩) hS (fun H locs hP hS => ?_)
  refine W.lcmp hx hb dL_law_502 ?_
  exact lv_if_eq (tgt := 508) hx hb dL_law_503 (by decide) (fun _ => kk S2 _ _ hP hV2 hS) (fun c => absurd (c_eq.mpr rfl) c)
