/-! CONSTRUCTORS, the small ones (made by gencons.py) -/
set_option maxHeartbeats 4000000 in
set_option maxRecDepth 100000 in
theorem c_X0_init (l : Launch) (D : va_G) (y : y4) (h0 sz : Nat) : KN (α := Unit) l D y yX0_init wsX0_init ({ frames := 1, cells := 0, slots := 0, locals := 12 }) [.ref h0] h0 sz (.inr (0, [.int 0, .int 0, .int 0, .int 0, .int 0, .int 0, .int 0])) (fun _ => True) (fun u => .inr (0, [.int 0, .int 0, .int 0, .int 0, .int 0, .int 0, .int 0])) (fun u => []) 0 0 := by
  refine Met.ofW (cc := cX0_init) (maxL := 1) (ret := none) (by decide) rfl ?_
  intro p e s m args below meth c s₁ B hml hv
  obtain ⟨rfl, hsz, hP, hK, hN⟩ := hv
  have hx := B.exec
  have hb := B.bytes
  have hr := B.returns
  have hts := atoms_spec (ws := wsX0_init) B.pre
  have hown : s.vm.findClass RX0 = some m.cls := findClass_of_methodNamed B.named
  have hlocks := B.notSynchronized
  have hin : meth.name = "<init>" := (name_of_methodNamed B.named B.method).1
  subst hsz
  have hD : va_D (NA h0 s.heap.size) [(h0, .inr (0, [.int 0, .int 0, .int 0, .int 0, .int 0, .int 0, .int 0]))] := D1 (Or.inl rfl)
  generalize hAe : NA h0 s.heap.size = A at hD ⊢
  have hA : ∀ q : Nat, s.heap.size ≤ q → A q := fun q h => by rw [← hAe]; exact Or.inr h
  have hS : va_S A s.heap s.heap [] := va_S.rf
  have hl := lv_entry ([.ref h0]) (n := 1) (Nat.le_of_ble_eq_true rfl)
  rw [lg_entry_eq]
  generalize (lg_sl ([.ref h0]) ++ List.replicate (1 - (lg_sl ([.ref h0])).length) Slot.unset).toArray = ls at hl ⊢
  have hl : lv_has ls 1 [(0, .ref h0)] := hl
  refine lv_aload_n hx hb dX0_init_0 rfl (lv_at hl 0 rfl) ?_
  refine W.objInit hx hb hown (hts (.methodLink RX0 3 objectInit) (by decide +kernel)) (hts (.instanceMethod objectInit) (by decide +kernel)) (hts (.code objectInit ⟨#[0xb1]⟩ 1 none) (by decide +kernel)) rfl (by rw [hml]; exact hl.1) rfl dX0_init_1 (Nat.le_of_ble_eq_true rfl) (Nat.le_of_ble_eq_true rfl) ?_
  refine W.eq (g2 := F0 m 4 ls []) rfl ?_
  refine W.widen (k := 0) (n := 0) (Nat.le_of_ble_eq_true rfl) (Nat.le_of_ble_eq_true rfl) ?_
  exact W.vret hx hb hr (fun t ht hW => ⟨⟨(), rfl, trivial, by dsimp only; rw [ht]; exact ⟨hP, hD⟩⟩, hS.F ht⟩) hS.2.2 dX0_init_4
set_option maxHeartbeats 4000000 in
set_option maxRecDepth 100000 in
theorem c_X1_init (l : Launch) (D : va_G) (y : y4) (h0 sz : Nat) : KN (α := Nat) l D y yX1_init wsX1_init ({ frames := 1, cells := 1, slots := 100, locals := 12 }) [.ref h0] h0 sz (.inr (1, [.null])) (fun _ => True) (fun u => .inr (1, [.ref u])) (fun u => [(u, .inl (y.2.1, 100, .inr (.inl (fun _ => 0))))]) 1 100 := by
  refine Met.ofW (cc := cX1_init) (maxL := 1) (ret := none) (by decide) rfl ?_
  intro p e s m args below meth c s₁ B hml hv
  obtain ⟨rfl, hsz, hP, hK, hN⟩ := hv
  have hx := B.exec
  have hb := B.bytes
  have hr := B.returns
  have hts := atoms_spec (ws := wsX1_init) B.pre
  have hown : s.vm.findClass RX1 = some m.cls := findClass_of_methodNamed B.named
  have hlocks := B.notSynchronized
  have hin : meth.name = "<init>" := (name_of_methodNamed B.named B.method).1
  subst hsz
  have hD : va_D (NA h0 s.heap.size) [(h0, .inr (1, [.null]))] := D1 (Or.inl rfl)
  generalize hAe : NA h0 s.heap.size = A at hD ⊢
  have hA : ∀ q : Nat, s.heap.size ≤ q → A q := fun q h => by rw [← hAe]; exact Or.inr h
  have hS : va_S A s.heap s.heap [] := va_S.rf
  have hl := lv_entry ([.ref h0]) (n := 1) (Nat.le_of_ble_eq_true rfl)
  rw [lg_entry_eq]
  generalize (lg_sl ([.ref h0]) ++ List.replicate (1 - (lg_sl ([.ref h0])).length) Slot.unset).toArray = ls at hl ⊢
  have hl : lv_has ls 1 [(0, .ref h0)] := hl
  refine lv_aload_n hx hb dX1_init_0 rfl (lv_at hl 0 rfl) ?_
  refine W.objInit hx hb hown (hts (.methodLink RX1 3 objectInit) (by decide +kernel)) (hts (.instanceMethod objectInit) (by decide +kernel)) (hts (.code objectInit ⟨#[0xb1]⟩ 1 none) (by decide +kernel)) rfl (by rw [hml]; exact hl.1) rfl dX1_init_1 (Nat.le_of_ble_eq_true rfl) (Nat.le_of_ble_eq_true rfl) ?_
  refine W.eq (g2 := F0 m 4 ls []) rfl ?_
  refine lv_aload_n hx hb dX1_init_4 rfl (lv_at hl 0 rfl) ?_
  refine lv_bipush (v := (100)) hx hb dX1_init_5 (by decide) ?_
  refine k_newJ (N := 100) hx hb (hts (.arrayClass .long) (by decide +kernel)) hK hP hD hS hA (by decide) (by decide) (Nat.le_of_ble_eq_true rfl) (Nat.le_of_ble_eq_true rfl) (Nat.le_of_ble_eq_true rfl) dX1_init_7 (fun q_1 H hP hD hS => ?_)
  have hP : va_P D vwCl ([(h0, .inr (1, [.null])), (q_1, .inl (y.2.1, 100, .inr (.inl (fun _ => 0))))]) H := hP
  have hD : va_D A ([(h0, .inr (1, [.null])), (q_1, .inl (y.2.1, 100, .inr (.inl (fun _ => 0))))]) := hD
  refine va_putF (tys := tysY y) (ci := 1) (v := .ref q_1) (ty := (.array .long)) (C := RX1) (T := TX1) (N := 1) hx hb hts (by decide +kernel) tyX1 tyX1_ok nmX1 hown hK hP hD hS 0 rfl rfl 0 (by decide) (hts (.fieldLink RX1 9 "JoinedTheories$Distances" "cells" "[J") (by decide +kernel)) (fun _ h9 => h9) rfl hin rfl (by decide +kernel) rfl rfl (Nat.le_of_ble_eq_true rfl) dX1_init_9 (fun H locs hP hD hS => ?_)
  have hP : va_P D vwCl ([(h0, .inr (1, [.ref q_1])), (q_1, .inl (y.2.1, 100, .inr (.inl (fun _ => 0))))]) H := hP
  have hD : va_D A ([(h0, .inr (1, [.ref q_1])), (q_1, .inl (y.2.1, 100, .inr (.inl (fun _ => 0))))]) := hD
  refine W.widen (k := 1) (n := 100) (Nat.le_of_ble_eq_true rfl) (Nat.le_of_ble_eq_true rfl) ?_
  exact W.vret hx hb hr (fun t ht hW => ⟨⟨q_1, rfl, trivial, by dsimp only; rw [ht]; exact ⟨hP, hD⟩⟩, hS.F ht⟩) hS.2.2 dX1_init_12
set_option maxHeartbeats 4000000 in
set_option maxRecDepth 100000 in
theorem c_X5_init (l : Launch) (D : va_G) (y : y4) (h0 sz : Nat) : KN (α := Nat × Nat × Nat) l D y yX5_init wsX5_init ({ frames := 1, cells := 3, slots := 120, locals := 12 }) [.ref h0] h0 sz (.inr (5, [.int 0, .null, .int 0, .null, .int 0, .int 0, .int 0, .int 0, .null, .int 0])) (fun _ => True) (fun u => .inr (5, [.int 0, .ref u.1, .int 0, .ref u.2.1, .int 0, .int 0, .int 0, .int 0, .ref u.2.2, .int 0])) (fun u => [(u.1, .inl (y.1, 40, .inl (fun _ => 0))), (u.2.1, .inl (y.1, 40, .inl (fun _ => 0))), (u.2.2, .inl (y.1, 40, .inl (fun _ => 0)))]) 3 120 := by
  refine Met.ofW (cc := cX5_init) (maxL := 1) (ret := none) (by decide) rfl ?_
  intro p e s m args below meth c s₁ B hml hv
  obtain ⟨rfl, hsz, hP, hK, hN⟩ := hv
  have hx := B.exec
  have hb := B.bytes
  have hr := B.returns
  have hts := atoms_spec (ws := wsX5_init) B.pre
  have hown : s.vm.findClass RX5 = some m.cls := findClass_of_methodNamed B.named
  have hlocks := B.notSynchronized
  have hin : meth.name = "<init>" := (name_of_methodNamed B.named B.method).1
  subst hsz
  have hD : va_D (NA h0 s.heap.size) [(h0, .inr (5, [.int 0, .null, .int 0, .null, .int 0, .int 0, .int 0, .int 0, .null, .int 0]))] := D1 (Or.inl rfl)
  generalize hAe : NA h0 s.heap.size = A at hD ⊢
  have hA : ∀ q : Nat, s.heap.size ≤ q → A q := fun q h => by rw [← hAe]; exact Or.inr h
  have hS : va_S A s.heap s.heap [] := va_S.rf
  have hl := lv_entry ([.ref h0]) (n := 1) (Nat.le_of_ble_eq_true rfl)
  rw [lg_entry_eq]
  generalize (lg_sl ([.ref h0]) ++ List.replicate (1 - (lg_sl ([.ref h0])).length) Slot.unset).toArray = ls at hl ⊢
  have hl : lv_has ls 1 [(0, .ref h0)] := hl
  refine lv_aload_n hx hb dX5_init_0 rfl (lv_at hl 0 rfl) ?_
  refine W.objInit hx hb hown (hts (.methodLink RX5 3 objectInit) (by decide +kernel)) (hts (.instanceMethod objectInit) (by decide +kernel)) (hts (.code objectInit ⟨#[0xb1]⟩ 1 none) (by decide +kernel)) rfl (by rw [hml]; exact hl.1) rfl dX5_init_1 (Nat.le_of_ble_eq_true rfl) (Nat.le_of_ble_eq_true rfl) ?_
  refine W.eq (g2 := F0 m 4 ls []) rfl ?_
  refine lv_aload_n hx hb dX5_init_4 rfl (lv_at hl 0 rfl) ?_
  refine lv_bipush (v := (40)) hx hb dX5_init_5 (by decide) ?_
  refine k_newI (N := 40) hx hb (hts (.arrayClass .int) (by decide +kernel)) hK hP hD hS hA (by decide) (by decide) (Nat.le_of_ble_eq_true rfl) (Nat.le_of_ble_eq_true rfl) (Nat.le_of_ble_eq_true rfl) dX5_init_7 (fun q_1 H hP hD hS => ?_)
  have hP : va_P D vwCl ([(h0, .inr (5, [.int 0, .null, .int 0, .null, .int 0, .int 0, .int 0, .int 0, .null, .int 0])), (q_1, .inl (y.1, 40, .inl (fun _ => 0)))]) H := hP
  have hD : va_D A ([(h0, .inr (5, [.int 0, .null, .int 0, .null, .int 0, .int 0, .int 0, .int 0, .null, .int 0])), (q_1, .inl (y.1, 40, .inl (fun _ => 0)))]) := hD
  refine va_putF (tys := tysY y) (ci := 5) (v := .ref q_1) (ty := (.array .int)) (C := RX5) (T := TX5) (N := 10) hx hb hts (by decide +kernel) tyX5 tyX5_ok nmX5 hown hK hP hD hS 0 rfl rfl 1 (by decide) (hts (.fieldLink RX5 9 "JoinedTheories$Reader" "brackets" "[I") (by decide +kernel)) (fun _ h9 => h9) rfl hin rfl (by decide +kernel) rfl rfl (Nat.le_of_ble_eq_true rfl) dX5_init_9 (fun H locs hP hD hS => ?_)
  have hP : va_P D vwCl ([(h0, .inr (5, [.int 0, .ref q_1, .int 0, .null, .int 0, .int 0, .int 0, .int 0, .null, .int 0])), (q_1, .inl (y.1, 40, .inl (fun _ => 0)))]) H := hP
  have hD : va_D A ([(h0, .inr (5, [.int 0, .ref q_1, .int 0, .null, .int 0, .int 0, .int 0, .int 0, .null, .int 0])), (q_1, .inl (y.1, 40, .inl (fun _ => 0)))]) := hD
  refine lv_aload_n hx hb dX5_init_12 rfl (lv_at hl 0 rfl) ?_
  refine lv_bipush (v := (40)) hx hb dX5_init_13 (by decide) ?_
  refine k_newI (N := 40) hx hb (hts (.arrayClass .int) (by decide +kernel)) hK hP hD hS hA (by decide) (by decide) (Nat.le_of_ble_eq_true rfl) (Nat.le_of_ble_eq_true rfl) (Nat.le_of_ble_eq_true rfl) dX5_init_15 (fun q_2 H hP hD hS => ?_)
  have hP : va_P D vwCl ([(h0, .inr (5, [.int 0, .ref q_1, .int 0, .null, .int 0, .int 0, .int 0, .int 0, .null, .int 0])), (q_1, .inl (y.1, 40, .inl (fun _ => 0))), (q_2, .inl (y.1, 40, .inl (fun _ => 0)))]) H := hP
  have hD : va_D A ([(h0, .inr (5, [.int 0, .ref q_1, .int 0, .null, .int 0, .int 0, .int 0, .int 0, .null, .int 0])), (q_1, .inl (y.1, 40, .inl (fun _ => 0))), (q_2, .inl (y.1, 40, .inl (fun _ => 0)))]) := hD
  refine va_putF (tys := tysY y) (ci := 5) (v := .ref q_2) (ty := (.array .int)) (C := RX5) (T := TX5) (N := 10) hx hb hts (by decide +kernel) tyX5 tyX5_ok nmX5 hown hK hP hD hS 0 rfl rfl 3 (by decide) (hts (.fieldLink RX5 15 "JoinedTheories$Reader" "symbols" "[I") (by decide +kernel)) (fun _ h9 => h9) rfl hin rfl (by decide +kernel) rfl rfl (Nat.le_of_ble_eq_true rfl) dX5_init_17 (fun H locs hP hD hS => ?_)
  have hP : va_P D vwCl ([(h0, .inr (5, [.int 0, .ref q_1, .int 0, .ref q_2, .int 0, .int 0, .int 0, .int 0, .null, .int 0])), (q_1, .inl (y.1, 40, .inl (fun _ => 0))), (q_2, .inl (y.1, 40, .inl (fun _ => 0)))]) H := hP
  have hD : va_D A ([(h0, .inr (5, [.int 0, .ref q_1, .int 0, .ref q_2, .int 0, .int 0, .int 0, .int 0, .null, .int 0])), (q_1, .inl (y.1, 40, .inl (fun _ => 0))), (q_2, .inl (y.1, 40, .inl (fun _ => 0)))]) := hD
  refine lv_aload_n hx hb dX5_init_20 rfl (lv_at hl 0 rfl) ?_
  refine lv_bipush (v := (40)) hx hb dX5_init_21 (by decide) ?_
  refine k_newI (N := 40) hx hb (hts (.arrayClass .int) (by decide +kernel)) hK hP hD hS hA (by decide) (by decide) (Nat.le_of_ble_eq_true rfl) (Nat.le_of_ble_eq_true rfl) (Nat.le_of_ble_eq_true rfl) dX5_init_23 (fun q_3 H hP hD hS => ?_)
  have hP : va_P D vwCl ([(h0, .inr (5, [.int 0, .ref q_1, .int 0, .ref q_2, .int 0, .int 0, .int 0, .int 0, .null, .int 0])), (q_1, .inl (y.1, 40, .inl (fun _ => 0))), (q_2, .inl (y.1, 40, .inl (fun _ => 0))), (q_3, .inl (y.1, 40, .inl (fun _ => 0)))]) H := hP
  have hD : va_D A ([(h0, .inr (5, [.int 0, .ref q_1, .int 0, .ref q_2, .int 0, .int 0, .int 0, .int 0, .null, .int 0])), (q_1, .inl (y.1, 40, .inl (fun _ => 0))), (q_2, .inl (y.1, 40, .inl (fun _ => 0))), (q_3, .inl (y.1, 40, .inl (fun _ => 0)))]) := hD
  refine va_putF (tys := tysY y) (ci := 5) (v := .ref q_3) (ty := (.array .int)) (C := RX5) (T := TX5) (N := 10) hx hb hts (by decide +kernel) tyX5 tyX5_ok nmX5 hown hK hP hD hS 0 rfl rfl 8 (by decide) (hts (.fieldLink RX5 18 "JoinedTheories$Reader" "built" "[I") (by decide +kernel)) (fun _ h9 => h9) rfl hin rfl (by decide +kernel) rfl rfl (Nat.le_of_ble_eq_true rfl) dX5_init_25 (fun H locs hP hD hS => ?_)
  have hP : va_P D vwCl ([(h0, .inr (5, [.int 0, .ref q_1, .int 0, .ref q_2, .int 0, .int 0, .int 0, .int 0, .ref q_3, .int 0])), (q_1, .inl (y.1, 40, .inl (fun _ => 0))), (q_2, .inl (y.1, 40, .inl (fun _ => 0))), (q_3, .inl (y.1, 40, .inl (fun _ => 0)))]) H := hP
  have hD : va_D A ([(h0, .inr (5, [.int 0, .ref q_1, .int 0, .ref q_2, .int 0, .int 0, .int 0, .int 0, .ref q_3, .int 0])), (q_1, .inl (y.1, 40, .inl (fun _ => 0))), (q_2, .inl (y.1, 40, .inl (fun _ => 0))), (q_3, .inl (y.1, 40, .inl (fun _ => 0)))]) := hD
  refine W.widen (k := 3) (n := 120) (Nat.le_of_ble_eq_true rfl) (Nat.le_of_ble_eq_true rfl) ?_
  exact W.vret hx hb hr (fun t ht hW => ⟨⟨(q_1, q_2, q_3), rfl, trivial, by dsimp only; rw [ht]; exact ⟨hP, hD⟩⟩, hS.F ht⟩) hS.2.2 dX5_init_28
set_option maxHeartbeats 4000000 in
set_option maxRecDepth 100000 in
theorem c_X3_init (l : Launch) (D : va_G) (y : y4) (h0 sz : Nat) : KN (α := Nat × Nat × Nat × Nat) l D y yX3_init wsX3_init ({ frames := 1, cells := 4, slots := 40, locals := 12 }) [.ref h0] h0 sz (.inr (3, [.null, .null, .null, .null, .int 0])) (fun _ => True) (fun u => .inr (3, [.ref u.1, .ref u.2.1, .ref u.2.2.1, .ref u.2.2.2, .int 0])) (fun u => [(u.1, .inl (y.1, 10, .inl (fun _ => 0))), (u.2.1, .inl (y.1, 10, .inl (fun _ => 0))), (u.2.2.1, .inl (y.1, 10, .inl (fun _ => 0))), (u.2.2.2, .inl (y.1, 10, .inl (fun _ => 0)))]) 4 40 := by
  refine Met.ofW (cc := cX3_init) (maxL := 1) (ret := none) (by decide) rfl ?_
  intro p e s m args below meth c s₁ B hml hv
  obtain ⟨rfl, hsz, hP, hK, hN⟩ := hv
  have hx := B.exec
  have hb := B.bytes
  have hr := B.returns
  have hts := atoms_spec (ws := wsX3_init) B.pre
  have hown : s.vm.findClass RX3 = some m.cls := findClass_of_methodNamed B.named
  have hlocks := B.notSynchronized
  have hin : meth.name = "<init>" := (name_of_methodNamed B.named B.method).1
  subst hsz
  have hD : va_D (NA h0 s.heap.size) [(h0, .inr (3, [.null, .null, .null, .null, .int 0]))] := D1 (Or.inl rfl)
  generalize hAe : NA h0 s.heap.size = A at hD ⊢
  have hA : ∀ q : Nat, s.heap.size ≤ q → A q := fun q h => by rw [← hAe]; exact Or.inr h
  have hS : va_S A s.heap s.heap [] := va_S.rf
  have hl := lv_entry ([.ref h0]) (n := 1) (Nat.le_of_ble_eq_true rfl)
  rw [lg_entry_eq]
  generalize (lg_sl ([.ref h0]) ++ List.replicate (1 - (lg_sl ([.ref h0])).length) Slot.unset).toArray = ls at hl ⊢
  have hl : lv_has ls 1 [(0, .ref h0)] := hl
  refine lv_aload_n hx hb dX3_init_0 rfl (lv_at hl 0 rfl) ?_
  refine W.objInit hx hb hown (hts (.methodLink RX3 3 objectInit) (by decide +kernel)) (hts (.instanceMethod objectInit) (by decide +kernel)) (hts (.code objectInit ⟨#[0xb1]⟩ 1 none) (by decide +kernel)) rfl (by rw [hml]; exact hl.1) rfl dX3_init_1 (Nat.le_of_ble_eq_true rfl) (Nat.le_of_ble_eq_true rfl) ?_
  refine W.eq (g2 := F0 m 4 ls []) rfl ?_
  refine lv_aload_n hx hb dX3_init_4 rfl (lv_at hl 0 rfl) ?_
  refine lv_bipush (v := (10)) hx hb dX3_init_5 (by decide) ?_
  refine k_newI (N := 10) hx hb (hts (.arrayClass .int) (by decide +kernel)) hK hP hD hS hA (by decide) (by decide) (Nat.le_of_ble_eq_true rfl) (Nat.le_of_ble_eq_true rfl) (Nat.le_of_ble_eq_true rfl) dX3_init_7 (fun q_1 H hP hD hS => ?_)
  have hP : va_P D vwCl ([(h0, .inr (3, [.null, .null, .null, .null, .int 0])), (q_1, .inl (y.1, 10, .inl (fun _ => 0)))]) H := hP
  have hD : va_D A ([(h0, .inr (3, [.null, .null, .null, .null, .int 0])), (q_1, .inl (y.1, 10, .inl (fun _ => 0)))]) := hD
  refine va_putF (tys := tysY y) (ci := 3) (v := .ref q_1) (ty := (.array .int)) (C := RX3) (T := TX3) (N := 5) hx hb hts (by decide +kernel) tyX3 tyX3_ok nmX3 hown hK hP hD hS 0 rfl rfl 0 (by decide) (hts (.fieldLink RX3 9 "JoinedTheories$Literals" "kinds" "[I") (by decide +kernel)) (fun _ h9 => h9) rfl hin rfl (by decide +kernel) rfl rfl (Nat.le_of_ble_eq_true rfl) dX3_init_9 (fun H locs hP hD hS => ?_)
  have hP : va_P D vwCl ([(h0, .inr (3, [.ref q_1, .null, .null, .null, .int 0])), (q_1, .inl (y.1, 10, .inl (fun _ => 0)))]) H := hP
  have hD : va_D A ([(h0, .inr (3, [.ref q_1, .null, .null, .null, .int 0])), (q_1, .inl (y.1, 10, .inl (fun _ => 0)))]) := hD
  refine lv_aload_n hx hb dX3_init_12 rfl (lv_at hl 0 rfl) ?_
  refine lv_bipush (v := (10)) hx hb dX3_init_13 (by decide) ?_
  refine k_newI (N := 10) hx hb (hts (.arrayClass .int) (by decide +kernel)) hK hP hD hS hA (by decide) (by decide) (Nat.le_of_ble_eq_true rfl) (Nat.le_of_ble_eq_true rfl) (Nat.le_of_ble_eq_true rfl) dX3_init_15 (fun q_2 H hP hD hS => ?_)
  have hP : va_P D vwCl ([(h0, .inr (3, [.ref q_1, .null, .null, .null, .int 0])), (q_1, .inl (y.1, 10, .inl (fun _ => 0))), (q_2, .inl (y.1, 10, .inl (fun _ => 0)))]) H := hP
  have hD : va_D A ([(h0, .inr (3, [.ref q_1, .null, .null, .null, .int 0])), (q_1, .inl (y.1, 10, .inl (fun _ => 0))), (q_2, .inl (y.1, 10, .inl (fun _ => 0)))]) := hD
  refine va_putF (tys := tysY y) (ci := 3) (v := .ref q_2) (ty := (.array .int)) (C := RX3) (T := TX3) (N := 5) hx hb hts (by decide +kernel) tyX3 tyX3_ok nmX3 hown hK hP hD hS 0 rfl rfl 1 (by decide) (hts (.fieldLink RX3 15 "JoinedTheories$Literals" "lefts" "[I") (by decide +kernel)) (fun _ h9 => h9) rfl hin rfl (by decide +kernel) rfl rfl (Nat.le_of_ble_eq_true rfl) dX3_init_17 (fun H locs hP hD hS => ?_)
  have hP : va_P D vwCl ([(h0, .inr (3, [.ref q_1, .ref q_2, .null, .null, .int 0])), (q_1, .inl (y.1, 10, .inl (fun _ => 0))), (q_2, .inl (y.1, 10, .inl (fun _ => 0)))]) H := hP
  have hD : va_D A ([(h0, .inr (3, [.ref q_1, .ref q_2, .null, .null, .int 0])), (q_1, .inl (y.1, 10, .inl (fun _ => 0))), (q_2, .inl (y.1, 10, .inl (fun _ => 0)))]) := hD
  refine lv_aload_n hx hb dX3_init_20 rfl (lv_at hl 0 rfl) ?_
  refine lv_bipush (v := (10)) hx hb dX3_init_21 (by decide) ?_
  refine k_newI (N := 10) hx hb (hts (.arrayClass .int) (by decide +kernel)) hK hP hD hS hA (by decide) (by decide) (Nat.le_of_ble_eq_true rfl) (Nat.le_of_ble_eq_true rfl) (Nat.le_of_ble_eq_true rfl) dX3_init_23 (fun q_3 H hP hD hS => ?_)
  have hP : va_P D vwCl ([(h0, .inr (3, [.ref q_1, .ref q_2, .null, .null, .int 0])), (q_1, .inl (y.1, 10, .inl (fun _ => 0))), (q_2, .inl (y.1, 10, .inl (fun _ => 0))), (q_3, .inl (y.1, 10, .inl (fun _ => 0)))]) H := hP
  have hD : va_D A ([(h0, .inr (3, [.ref q_1, .ref q_2, .null, .null, .int 0])), (q_1, .inl (y.1, 10, .inl (fun _ => 0))), (q_2, .inl (y.1, 10, .inl (fun _ => 0))), (q_3, .inl (y.1, 10, .inl (fun _ => 0)))]) := hD
  refine va_putF (tys := tysY y) (ci := 3) (v := .ref q_3) (ty := (.array .int)) (C := RX3) (T := TX3) (N := 5) hx hb hts (by decide +kernel) tyX3 tyX3_ok nmX3 hown hK hP hD hS 0 rfl rfl 2 (by decide) (hts (.fieldLink RX3 18 "JoinedTheories$Literals" "rights" "[I") (by decide +kernel)) (fun _ h9 => h9) rfl hin rfl (by decide +kernel) rfl rfl (Nat.le_of_ble_eq_true rfl) dX3_init_25 (fun H locs hP hD hS => ?_)
  have hP : va_P D vwCl ([(h0, .inr (3, [.ref q_1, .ref q_2, .ref q_3, .null, .int 0])), (q_1, .inl (y.1, 10, .inl (fun _ => 0))), (q_2, .inl (y.1, 10, .inl (fun _ => 0))), (q_3, .inl (y.1, 10, .inl (fun _ => 0)))]) H := hP
  have hD : va_D A ([(h0, .inr (3, [.ref q_1, .ref q_2, .ref q_3, .null, .int 0])), (q_1, .inl (y.1, 10, .inl (fun _ => 0))), (q_2, .inl (y.1, 10, .inl (fun _ => 0))), (q_3, .inl (y.1, 10, .inl (fun _ => 0)))]) := hD
  refine lv_aload_n hx hb dX3_init_28 rfl (lv_at hl 0 rfl) ?_
  refine lv_bipush (v := (10)) hx hb dX3_init_29 (by decide) ?_
  refine k_newI (N := 10) hx hb (hts (.arrayClass .int) (by decide +kernel)) hK hP hD hS hA (by decide) (by decide) (Nat.le_of_ble_eq_true rfl) (Nat.le_of_ble_eq_true rfl) (Nat.le_of_ble_eq_true rfl) dX3_init_31 (fun q_4 H hP hD hS => ?_)
  have hP : va_P D vwCl ([(h0, .inr (3, [.ref q_1, .ref q_2, .ref q_3, .null, .int 0])), (q_1, .inl (y.1, 10, .inl (fun _ => 0))), (q_2, .inl (y.1, 10, .inl (fun _ => 0))), (q_3, .inl (y.1, 10, .inl (fun _ => 0))), (q_4, .inl (y.1, 10, .inl (fun _ => 0)))]) H := hP
  have hD : va_D A ([(h0, .inr (3, [.ref q_1, .ref q_2, .ref q_3, .null, .int 0])), (q_1, .inl (y.1, 10, .inl (fun _ => 0))), (q_2, .inl (y.1, 10, .inl (fun _ => 0))), (q_3, .inl (y.1, 10, .inl (fun _ => 0))), (q_4, .inl (y.1, 10, .inl (fun _ => 0)))]) := hD
  refine va_putF (tys := tysY y) (ci := 3) (v := .ref q_4) (ty := (.array .int)) (C := RX3) (T := TX3) (N := 5) hx hb hts (by decide +kernel) tyX3 tyX3_ok nmX3 hown hK hP hD hS 0 rfl rfl 3 (by decide) (hts (.fieldLink RX3 21 "JoinedTheories$Literals" "numbers" "[I") (by decide +kernel)) (fun _ h9 => h9) rfl hin rfl (by decide +kernel) rfl rfl (Nat.le_of_ble_eq_true rfl) dX3_init_33 (fun H locs hP hD hS => ?_)
  have hP : va_P D vwCl ([(h0, .inr (3, [.ref q_1, .ref q_2, .ref q_3, .ref q_4, .int 0])), (q_1, .inl (y.1, 10, .inl (fun _ => 0))), (q_2, .inl (y.1, 10, .inl (fun _ => 0))), (q_3, .inl (y.1, 10, .inl (fun _ => 0))), (q_4, .inl (y.1, 10, .inl (fun _ => 0)))]) H := hP
  have hD : va_D A ([(h0, .inr (3, [.ref q_1, .ref q_2, .ref q_3, .ref q_4, .int 0])), (q_1, .inl (y.1, 10, .inl (fun _ => 0))), (q_2, .inl (y.1, 10, .inl (fun _ => 0))), (q_3, .inl (y.1, 10, .inl (fun _ => 0))), (q_4, .inl (y.1, 10, .inl (fun _ => 0)))]) := hD
  refine W.widen (k := 4) (n := 40) (Nat.le_of_ble_eq_true rfl) (Nat.le_of_ble_eq_true rfl) ?_
  exact W.vret hx hb hr (fun t ht hW => ⟨⟨(q_1, q_2, q_3, q_4), rfl, trivial, by dsimp only; rw [ht]; exact ⟨hP, hD⟩⟩, hS.F ht⟩) hS.2.2 dX3_init_36
set_option maxHeartbeats 4000000 in
set_option maxRecDepth 100000 in
theorem c_X4_init (l : Launch) (D : va_G) (y : y4) (h0 sz : Nat) (a1 : Nat) : KN (α := Nat) l D y yX4_init wsX4_init ({ frames := 1, cells := 1, slots := 10, locals := 12 }) [.ref h0, .ref a1] h0 sz (.inr (4, [.null, .null, .int 0, .int 0])) (fun _ => True) (fun u => .inr (4, [.ref a1, .ref u, .int (-2000000001), .int (-2000000001)])) (fun u => [(u, .inl (y.1, 10, .inl (fun _ => 0)))]) 1 10 := by
  refine Met.ofW (cc := cX4_init) (maxL := 2) (ret := none) (by decide) rfl ?_
  intro p e s m args below meth c s₁ B hml hv
  obtain ⟨rfl, hsz, hP, hK, hN⟩ := hv
  have hx := B.exec
  have hb := B.bytes
  have hr := B.returns
  have hts := atoms_spec (ws := wsX4_init) B.pre
  have hown : s.vm.findClass RX4 = some m.cls := findClass_of_methodNamed B.named
  have hlocks := B.notSynchronized
  have hin : meth.name = "<init>" := (name_of_methodNamed B.named B.method).1
  subst hsz
  have hD : va_D (NA h0 s.heap.size) [(h0, .inr (4, [.null, .null, .int 0, .int 0]))] := D1 (Or.inl rfl)
  generalize hAe : NA h0 s.heap.size = A at hD ⊢
  have hA : ∀ q : Nat, s.heap.size ≤ q → A q := fun q h => by rw [← hAe]; exact Or.inr h
  have hS : va_S A s.heap s.heap [] := va_S.rf
  have hl := lv_entry ([.ref h0, .ref a1]) (n := 2) (Nat.le_of_ble_eq_true rfl)
  rw [lg_entry_eq]
  generalize (lg_sl ([.ref h0, .ref a1]) ++ List.replicate (2 - (lg_sl ([.ref h0, .ref a1])).length) Slot.unset).toArray = ls at hl ⊢
  have hl : lv_has ls 2 [(0, .ref h0), (1, .ref a1)] := hl
  refine lv_aload_n hx hb dX4_init_0 rfl (lv_at hl 0 rfl) ?_
  refine W.objInit hx hb hown (hts (.methodLink RX4 3 objectInit) (by decide +kernel)) (hts (.instanceMethod objectInit) (by decide +kernel)) (hts (.code objectInit ⟨#[0xb1]⟩ 1 none) (by decide +kernel)) rfl (by rw [hml]; exact hl.1) rfl dX4_init_1 (Nat.le_of_ble_eq_true rfl) (Nat.le_of_ble_eq_true rfl) ?_
  refine W.eq (g2 := F0 m 4 ls []) rfl ?_
  refine lv_aload_n hx hb dX4_init_4 rfl (lv_at hl 0 rfl) ?_
  refine lv_bipush (v := (10)) hx hb dX4_init_5 (by decide) ?_
  refine k_newI (N := 10) hx hb (hts (.arrayClass .int) (by decide +kernel)) hK hP hD hS hA (by decide) (by decide) (Nat.le_of_ble_eq_true rfl) (Nat.le_of_ble_eq_true rfl) (Nat.le_of_ble_eq_true rfl) dX4_init_7 (fun q_1 H hP hD hS => ?_)
  have hP : va_P D vwCl ([(h0, .inr (4, [.null, .null, .int 0, .int 0])), (q_1, .inl (y.1, 10, .inl (fun _ => 0)))]) H := hP
  have hD : va_D A ([(h0, .inr (4, [.null, .null, .int 0, .int 0])), (q_1, .inl (y.1, 10, .inl (fun _ => 0)))]) := hD
  refine va_putF (tys := tysY y) (ci := 4) (v := .ref q_1) (ty := (.array .int)) (C := RX4) (T := TX4) (N := 4) hx hb hts (by decide +kernel) tyX4 tyX4_ok nmX4 hown hK hP hD hS 0 rfl rfl 1 (by decide) (hts (.fieldLink RX4 9 "JoinedTheories$PairFinder" "tied" "[I") (by decide +kernel)) (fun _ h9 => h9) rfl hin rfl (by decide +kernel) rfl rfl (Nat.le_of_ble_eq_true rfl) dX4_init_9 (fun H locs hP hD hS => ?_)
  have hP : va_P D vwCl ([(h0, .inr (4, [.null, .ref q_1, .int 0, .int 0])), (q_1, .inl (y.1, 10, .inl (fun _ => 0)))]) H := hP
  have hD : va_D A ([(h0, .inr (4, [.null, .ref q_1, .int 0, .int 0])), (q_1, .inl (y.1, 10, .inl (fun _ => 0)))]) := hD
  refine lv_aload_n hx hb dX4_init_12 rfl (lv_at hl 0 rfl) ?_
  refine lv_ldc (v := (-2000000001)) hx hb hown (hts (.constant RX4 15 (-2000000001)) (by decide +kernel)) dX4_init_13 ?_
  refine va_put (tys := tysY y) (ci := 4) (v := .int (-2000000001)) (ty := .int) (C := RX4) (T := TX4) (N := 4) hx hb hts (by decide +kernel) tyX4 tyX4_ok nmX4 hown hK hP hD hS 0 rfl rfl 2 (by decide) (hts (.fieldLink RX4 16 "JoinedTheories$PairFinder" "first" "I") (by decide +kernel)) (fun _ h9 => h9) rfl (by decide +kernel) rfl rfl (Nat.le_of_ble_eq_true rfl) dX4_init_15 (fun H locs hP hD hS => ?_)
  have hP : va_P D vwCl ([(h0, .inr (4, [.null, .ref q_1, .int (-2000000001), .int 0])), (q_1, .inl (y.1, 10, .inl (fun _ => 0)))]) H := hP
  have hD : va_D A ([(h0, .inr (4, [.null, .ref q_1, .int (-2000000001), .int 0])), (q_1, .inl (y.1, 10, .inl (fun _ => 0)))]) := hD
  refine lv_aload_n hx hb dX4_init_18 rfl (lv_at hl 0 rfl) ?_
  refine lv_ldc (v := (-2000000001)) hx hb hown (hts (.constant RX4 15 (-2000000001)) (by decide +kernel)) dX4_init_19 ?_
  refine va_put (tys := tysY y) (ci := 4) (v := .int (-2000000001)) (ty := .int) (C := RX4) (T := TX4) (N := 4) hx hb hts (by decide +kernel) tyX4 tyX4_ok nmX4 hown hK hP hD hS 0 rfl rfl 3 (by decide) (hts (.fieldLink RX4 20 "JoinedTheories$PairFinder" "second" "I") (by decide +kernel)) (fun _ h9 => h9) rfl (by decide +kernel) rfl rfl (Nat.le_of_ble_eq_true rfl) dX4_init_21 (fun H locs hP hD hS => ?_)
  have hP : va_P D vwCl ([(h0, .inr (4, [.null, .ref q_1, .int (-2000000001), .int (-2000000001)])), (q_1, .inl (y.1, 10, .inl (fun _ => 0)))]) H := hP
  have hD : va_D A ([(h0, .inr (4, [.null, .ref q_1, .int (-2000000001), .int (-2000000001)])), (q_1, .inl (y.1, 10, .inl (fun _ => 0)))]) := hD
  refine lv_aload_n hx hb dX4_init_24 rfl (lv_at hl 0 rfl) ?_
  refine lv_aload_n hx hb dX4_init_25 rfl (lv_at hl 1 rfl) ?_
  refine va_putF (tys := tysY y) (ci := 4) (v := .ref a1) (ty := (.object "JoinedTheories$Solver")) (C := RX4) (T := TX4) (N := 4) hx hb hts (by decide +kernel) tyX4 tyX4_ok nmX4 hown hK hP hD hS 0 rfl rfl 0 (by decide) (hts (.fieldLink RX4 23 "JoinedTheories$PairFinder" "solver" "LJoinedTheories$Solver;") (by decide +kernel)) (fun _ h9 => h9) rfl hin rfl (by decide +kernel) rfl rfl (Nat.le_of_ble_eq_true rfl) dX4_init_26 (fun H locs hP hD hS => ?_)
  have hP : va_P D vwCl ([(h0, .inr (4, [.ref a1, .ref q_1, .int (-2000000001), .int (-2000000001)])), (q_1, .inl (y.1, 10, .inl (fun _ => 0)))]) H := hP
  have hD : va_D A ([(h0, .inr (4, [.ref a1, .ref q_1, .int (-2000000001), .int (-2000000001)])), (q_1, .inl (y.1, 10, .inl (fun _ => 0)))]) := hD
  refine W.widen (k := 1) (n := 10) (Nat.le_of_ble_eq_true rfl) (Nat.le_of_ble_eq_true rfl) ?_
  exact W.vret hx hb hr (fun t ht hW => ⟨⟨q_1, rfl, trivial, by dsimp only; rw [ht]; exact ⟨hP, hD⟩⟩, hS.F ht⟩) hS.2.2 dX4_init_29
set_option maxHeartbeats 4000000 in
set_option maxRecDepth 100000 in
theorem c_X2_init (l : Launch) (D : va_G) (y : y4) (h0 sz : Nat) (a1 a2 : Nat) : KN (α := Nat × Nat × Nat) l D y yX2_init wsX2_init ({ frames := 2, cells := 3, slots := 111, locals := 32 }) [.ref h0, .ref a1, .ref a2] h0 sz (.inr (2, [.null, .null, .null, .null, .int 0, .int 0])) (fun _ => True) (fun v => .inr (2, [.ref a1, .ref a2, .ref v.1, .ref v.2.2, .int 0, .int 0])) (fun v => [(v.1, .inr (1, [.ref v.2.1])), (v.2.1, .inl (y.2.1, 100, .inr (.inl (fun _ => 0)))), (v.2.2, .inl (y.1, 10, .inl (fun _ => 0)))]) 3 111 := by
  refine Met.ofW (cc := cX2_init) (maxL := 3) (ret := none) (by decide) rfl ?_
  intro p e s m args below meth c s₁ B hml hv
  obtain ⟨rfl, hsz, hP, hK, hN⟩ := hv
  have hx := B.exec
  have hb := B.bytes
  have hr := B.returns
  have hts := atoms_spec (ws := wsX2_init) B.pre
  have hown : s.vm.findClass RX2 = some m.cls := findClass_of_methodNamed B.named
  have hlocks := B.notSynchronized
  have hin : meth.name = "<init>" := (name_of_methodNamed B.named B.method).1
  subst hsz
  have hD : va_D (NA h0 s.heap.size) [(h0, .inr (2, [.null, .null, .null, .null, .int 0, .int 0]))] := D1 (Or.inl rfl)
  generalize hAe : NA h0 s.heap.size = A at hD ⊢
  have hA : ∀ q : Nat, s.heap.size ≤ q → A q := fun q h => by rw [← hAe]; exact Or.inr h
  have hS : va_S A s.heap s.heap [] := va_S.rf
  have hl := lv_entry ([.ref h0, .ref a1, .ref a2]) (n := 3) (Nat.le_of_ble_eq_true rfl)
  rw [lg_entry_eq]
  generalize (lg_sl ([.ref h0, .ref a1, .ref a2]) ++ List.replicate (3 - (lg_sl ([.ref h0, .ref a1, .ref a2])).length) Slot.unset).toArray = ls at hl ⊢
  have hl : lv_has ls 3 [(0, .ref h0), (1, .ref a1), (2, .ref a2)] := hl
  refine lv_aload_n hx hb dX2_init_0 rfl (lv_at hl 0 rfl) ?_
  refine W.objInit hx hb hown (hts (.methodLink RX2 3 objectInit) (by decide +kernel)) (hts (.instanceMethod objectInit) (by decide +kernel)) (hts (.code objectInit ⟨#[0xb1]⟩ 1 none) (by decide +kernel)) rfl (by rw [hml]; exact hl.1) rfl dX2_init_1 (Nat.le_of_ble_eq_true rfl) (Nat.le_of_ble_eq_true rfl) ?_
  refine W.eq (g2 := F0 m 4 ls []) rfl ?_
  refine lv_aload_n hx hb dX2_init_4 rfl (lv_at hl 0 rfl) ?_
  refine va_new (ci := 1) (fs := [.null]) (C := RX1) (T := TX1) (N := 1) hx hb hts (by decide +kernel) tyX1 tyX1_ok hown (hts (.classLink RX2 9 RX1) (by decide +kernel)) (hts (.instantiable RX1 1) (by decide +kernel)) (hts (.initialized RX1) (by decide +kernel)) hK hP hD hS hA rfl (fun j hj => by rcases (show j = 0 by omega) with rfl <;> rfl) (Nat.le_of_ble_eq_true rfl) (Nat.le_of_ble_eq_true rfl) dX2_init_5 (fun q_1 H hP hD hS => ?_)
  have hP : va_P D vwCl ([(h0, .inr (2, [.null, .null, .null, .null, .int 0, .int 0])), (q_1, .inr (1, [.null]))]) H := hP
  have hD : va_D A ([(h0, .inr (2, [.null, .null, .null, .null, .int 0, .int 0])), (q_1, .inr (1, [.null]))]) := hD
  refine lv_dup hx hb dX2_init_8 rfl ?_
  refine k_call (va_runIN (As := []) (rest := [.ref q_1, .ref h0]) ⟨hx, hb, hml, hown, hts⟩ (c_X1_init l D y q_1 H.size) ⟨va_cnB 0 hts gX2_init_X1_init_n11 rfl rfl rfl hN.1.2.2.1 (hts (.initialized RX1) (by decide +kernel)) (by decide +kernel) ⟨(Nat.le_of_ble_eq_true rfl), (Nat.le_of_ble_eq_true rfl)⟩, rfl, hts (.instanceMethod yX1_init) (by decide +kernel)⟩ (CP.preS hP hK hN 1 rfl) rfl rfl hl.1 rfl (lv_room (Nat.le_of_ble_eq_true rfl)) dX2_init_9 ⟨(Nat.le_of_ble_eq_true rfl), (Nat.le_of_ble_eq_true rfl)⟩) hP hD hS hA 1 rfl (fun u H locs hp hP hD hS => ?_)
  have hP : va_P D vwCl ([(h0, .inr (2, [.null, .null, .null, .null, .int 0, .int 0])), (q_1, .inr (1, [.ref u])), (u, .inl (y.2.1, 100, .inr (.inl (fun _ => 0))))]) H := hP
  have hD : va_D A ([(h0, .inr (2, [.null, .null, .null, .null, .int 0, .int 0])), (q_1, .inr (1, [.ref u])), (u, .inl (y.2.1, 100, .inr (.inl (fun _ => 0))))]) := hD
  refine va_putF (tys := tysY y) (ci := 2) (v := .ref q_1) (ty := (.object "JoinedTheories$Distances")) (C := RX2) (T := TX2) (N := 6) hx hb hts (by decide +kernel) tyX2 tyX2_ok nmX2 hown hK hP hD hS 0 rfl rfl 2 (by decide) (hts (.fieldLink RX2 12 "JoinedTheories$Exchanger" "distances" "LJoinedTheories$Distances;") (by decide +kernel)) (fun _ h9 => h9) rfl hin rfl (by decide +kernel) rfl rfl (Nat.le_of_ble_eq_true rfl) dX2_init_12 (fun H locs hP hD hS => ?_)
  have hP : va_P D vwCl ([(h0, .inr (2, [.null, .null, .ref q_1, .null, .int 0, .int 0])), (q_1, .inr (1, [.ref u])), (u, .inl (y.2.1, 100, .inr (.inl (fun _ => 0))))]) H := hP
  have hD : va_D A ([(h0, .inr (2, [.null, .null, .ref q_1, .null, .int 0, .int 0])), (q_1, .inr (1, [.ref u])), (u, .inl (y.2.1, 100, .inr (.inl (fun _ => 0))))]) := hD
  refine lv_aload_n hx hb dX2_init_15 rfl (lv_at hl 0 rfl) ?_
  refine lv_bipush (v := (10)) hx hb dX2_init_16 (by decide) ?_
  refine k_newI (N := 10) hx hb (hts (.arrayClass .int) (by decide +kernel)) hK hP hD hS hA (by decide) (by decide) (Nat.le_of_ble_eq_true rfl) (Nat.le_of_ble_eq_true rfl) (Nat.le_of_ble_eq_true rfl) dX2_init_18 (fun q_2 H hP hD hS => ?_)
  have hP : va_P D vwCl ([(h0, .inr (2, [.null, .null, .ref q_1, .null, .int 0, .int 0])), (q_1, .inr (1, [.ref u])), (u, .inl (y.2.1, 100, .inr (.inl (fun _ => 0)))), (q_2, .inl (y.1, 10, .inl (fun _ => 0)))]) H := hP
  have hD : va_D A ([(h0, .inr (2, [.null, .null, .ref q_1, .null, .int 0, .int 0])), (q_1, .inr (1, [.ref u])), (u, .inl (y.2.1, 100, .inr (.inl (fun _ => 0)))), (q_2, .inl (y.1, 10, .inl (fun _ => 0)))]) := hD
  refine va_putF (tys := tysY y) (ci := 2) (v := .ref q_2) (ty := (.array .int)) (C := RX2) (T := TX2) (N := 6) hx hb hts (by decide +kernel) tyX2 tyX2_ok nmX2 hown hK hP hD hS 0 rfl rfl 3 (by decide) (hts (.fieldLink RX2 18 "JoinedTheories$Exchanger" "smallest" "[I") (by decide +kernel)) (fun _ h9 => h9) rfl hin rfl (by decide +kernel) rfl rfl (Nat.le_of_ble_eq_true rfl) dX2_init_20 (fun H locs hP hD hS => ?_)
  have hP : va_P D vwCl ([(h0, .inr (2, [.null, .null, .ref q_1, .ref q_2, .int 0, .int 0])), (q_1, .inr (1, [.ref u])), (u, .inl (y.2.1, 100, .inr (.inl (fun _ => 0)))), (q_2, .inl (y.1, 10, .inl (fun _ => 0)))]) H := hP
  have hD : va_D A ([(h0, .inr (2, [.null, .null, .ref q_1, .ref q_2, .int 0, .int 0])), (q_1, .inr (1, [.ref u])), (u, .inl (y.2.1, 100, .inr (.inl (fun _ => 0)))), (q_2, .inl (y.1, 10, .inl (fun _ => 0)))]) := hD
  refine lv_aload_n hx hb dX2_init_23 rfl (lv_at hl 0 rfl) ?_
  refine lv_aload_n hx hb dX2_init_24 rfl (lv_at hl 1 rfl) ?_
  refine va_putF (tys := tysY y) (ci := 2) (v := .ref a1) (ty := (.object "JoinedTheories$Terms")) (C := RX2) (T := TX2) (N := 6) hx hb hts (by decide +kernel) tyX2 tyX2_ok nmX2 hown hK hP hD hS 0 rfl rfl 0 (by decide) (hts (.fieldLink RX2 22 "JoinedTheories$Exchanger" "terms" "LJoinedTheories$Terms;") (by decide +kernel)) (fun _ h9 => h9) rfl hin rfl (by decide +kernel) rfl rfl (Nat.le_of_ble_eq_true rfl) dX2_init_25 (fun H locs hP hD hS => ?_)
  have hP : va_P D vwCl ([(h0, .inr (2, [.ref a1, .null, .ref q_1, .ref q_2, .int 0, .int 0])), (q_1, .inr (1, [.ref u])), (u, .inl (y.2.1, 100, .inr (.inl (fun _ => 0)))), (q_2, .inl (y.1, 10, .inl (fun _ => 0)))]) H := hP
  have hD : va_D A ([(h0, .inr (2, [.ref a1, .null, .ref q_1, .ref q_2, .int 0, .int 0])), (q_1, .inr (1, [.ref u])), (u, .inl (y.2.1, 100, .inr (.inl (fun _ => 0)))), (q_2, .inl (y.1, 10, .inl (fun _ => 0)))]) := hD
  refine lv_aload_n hx hb dX2_init_28 rfl (lv_at hl 0 rfl) ?_
  refine lv_aload_n hx hb dX2_init_29 rfl (lv_at hl 2 rfl) ?_
  refine va_putF (tys := tysY y) (ci := 2) (v := .ref a2) (ty := (.object "JoinedTheories$Literals")) (C := RX2) (T := TX2) (N := 6) hx hb hts (by decide +kernel) tyX2 tyX2_ok nmX2 hown hK hP hD hS 0 rfl rfl 1 (by decide) (hts (.fieldLink RX2 26 "JoinedTheories$Exchanger" "literals" "LJoinedTheories$Literals;") (by decide +kernel)) (fun _ h9 => h9) rfl hin rfl (by decide +kernel) rfl rfl (Nat.le_of_ble_eq_true rfl) dX2_init_30 (fun H locs hP hD hS => ?_)
  have hP : va_P D vwCl ([(h0, .inr (2, [.ref a1, .ref a2, .ref q_1, .ref q_2, .int 0, .int 0])), (q_1, .inr (1, [.ref u])), (u, .inl (y.2.1, 100, .inr (.inl (fun _ => 0)))), (q_2, .inl (y.1, 10, .inl (fun _ => 0)))]) H := hP
  have hD : va_D A ([(h0, .inr (2, [.ref a1, .ref a2, .ref q_1, .ref q_2, .int 0, .int 0])), (q_1, .inr (1, [.ref u])), (u, .inl (y.2.1, 100, .inr (.inl (fun _ => 0)))), (q_2, .inl (y.1, 10, .inl (fun _ => 0)))]) := hD
  refine W.widen (k := 3) (n := 111) (Nat.le_of_ble_eq_true rfl) (Nat.le_of_ble_eq_true rfl) ?_
  exact W.vret hx hb hr (fun t ht hW => ⟨⟨(q_1, u, q_2), rfl, trivial, by dsimp only; rw [ht]; exact ⟨hP, hD⟩⟩, hS.F ht⟩) hS.2.2 dX2_init_33
set_option maxHeartbeats 4000000 in
set_option maxRecDepth 100000 in
theorem c_X7_init (l : Launch) (D : va_G) (y : y4) (h0 sz : Nat) : KN (α := Nat × Nat × Nat × Nat) l D y yX7_init wsX7_init ({ frames := 1, cells := 4, slots := 40, locals := 12 }) [.ref h0] h0 sz (.inr (7, [.null, .null, .null, .null, .int 0])) (fun _ => True) (fun u => .inr (7, [.ref u.1, .ref u.2.1, .ref u.2.2.1, .ref u.2.2.2, .int 5])) (fun u => [(u.1, .inl (y.1, 10, .inl (fun _ => 0))), (u.2.1, .inl (y.1, 10, .inl (fun j => if j < 5 then (-2000000001 : Int32) else 0))), (u.2.2.1, .inl (y.1, 10, .inl (fun j => if j < 5 then (-2000000001 : Int32) else 0))), (u.2.2.2, .inl (y.1, 10, .inl (fun j => if j < 5 then (1 : Int32) else 0)))]) 4 40 := by
  refine Met.ofW (cc := cX7_init) (maxL := 2) (ret := none) (by decide) rfl ?_
  intro p e s m args below meth c s₁ B hml hv
  obtain ⟨rfl, hsz, hP, hK, hN⟩ := hv
  have hx := B.exec
  have hb := B.bytes
  have hr := B.returns
  have hts := atoms_spec (ws := wsX7_init) B.pre
  have hown : s.vm.findClass RX7 = some m.cls := findClass_of_methodNamed B.named
  have hlocks := B.notSynchronized
  have hin : meth.name = "<init>" := (name_of_methodNamed B.named B.method).1
  subst hsz
  have hD : va_D (NA h0 s.heap.size) [(h0, .inr (7, [.null, .null, .null, .null, .int 0]))] := D1 (Or.inl rfl)
  generalize hAe : NA h0 s.heap.size = A at hD ⊢
  have hA : ∀ q : Nat, s.heap.size ≤ q → A q := fun q h => by rw [← hAe]; exact Or.inr h
  have hS : va_S A s.heap s.heap [] := va_S.rf
  have hl := lv_entry ([.ref h0]) (n := 2) (Nat.le_of_ble_eq_true rfl)
  rw [lg_entry_eq]
  generalize (lg_sl ([.ref h0]) ++ List.replicate (2 - (lg_sl ([.ref h0])).length) Slot.unset).toArray = ls at hl ⊢
  have hl : lv_has ls 2 [(0, .ref h0)] := hl
  refine lv_aload_n hx hb dX7_init_0 rfl (lv_at hl 0 rfl) ?_
  refine W.objInit hx hb hown (hts (.methodLink RX7 3 objectInit) (by decide +kernel)) (hts (.instanceMethod objectInit) (by decide +kernel)) (hts (.code objectInit ⟨#[0xb1]⟩ 1 none) (by decide +kernel)) rfl (by rw [hml]; exact hl.1) rfl dX7_init_1 (Nat.le_of_ble_eq_true rfl) (Nat.le_of_ble_eq_true rfl) ?_
  refine W.eq (g2 := F0 m 4 ls []) rfl ?_
  refine lv_aload_n hx hb dX7_init_4 rfl (lv_at hl 0 rfl) ?_
  refine lv_bipush (v := (10)) hx hb dX7_init_5 (by decide) ?_
  refine k_newI (N := 10) hx hb (hts (.arrayClass .int) (by decide +kernel)) hK hP hD hS hA (by decide) (by decide) (Nat.le_of_ble_eq_true rfl) (Nat.le_of_ble_eq_true rfl) (Nat.le_of_ble_eq_true rfl) dX7_init_7 (fun q_1 H hP hD hS => ?_)
  have hP : va_P D vwCl ([(h0, .inr (7, [.null, .null, .null, .null, .int 0])), (q_1, .inl (y.1, 10, .inl (fun _ => 0)))]) H := hP
  have hD : va_D A ([(h0, .inr (7, [.null, .null, .null, .null, .int 0])), (q_1, .inl (y.1, 10, .inl (fun _ => 0)))]) := hD
  refine va_putF (tys := tysY y) (ci := 7) (v := .ref q_1) (ty := (.array .int)) (C := RX7) (T := TX7) (N := 5) hx hb hts (by decide +kernel) tyX7 tyX7_ok nmX7 hown hK hP hD hS 0 rfl rfl 0 (by decide) (hts (.fieldLink RX7 9 "JoinedTheories$Terms" "kinds" "[I") (by decide +kernel)) (fun _ h9 => h9) rfl hin rfl (by decide +kernel) rfl rfl (Nat.le_of_ble_eq_true rfl) dX7_init_9 (fun H locs hP hD hS => ?_)
  have hP : va_P D vwCl ([(h0, .inr (7, [.ref q_1, .null, .null, .null, .int 0])), (q_1, .inl (y.1, 10, .inl (fun _ => 0)))]) H := hP
  have hD : va_D A ([(h0, .inr (7, [.ref q_1, .null, .null, .null, .int 0])), (q_1, .inl (y.1, 10, .inl (fun _ => 0)))]) := hD
  refine lv_aload_n hx hb dX7_init_12 rfl (lv_at hl 0 rfl) ?_
  refine lv_bipush (v := (10)) hx hb dX7_init_13 (by decide) ?_
  refine k_newI (N := 10) hx hb (hts (.arrayClass .int) (by decide +kernel)) hK hP hD hS hA (by decide) (by decide) (Nat.le_of_ble_eq_true rfl) (Nat.le_of_ble_eq_true rfl) (Nat.le_of_ble_eq_true rfl) dX7_init_15 (fun q_2 H hP hD hS => ?_)
  have hP : va_P D vwCl ([(h0, .inr (7, [.ref q_1, .null, .null, .null, .int 0])), (q_1, .inl (y.1, 10, .inl (fun _ => 0))), (q_2, .inl (y.1, 10, .inl (fun _ => 0)))]) H := hP
  have hD : va_D A ([(h0, .inr (7, [.ref q_1, .null, .null, .null, .int 0])), (q_1, .inl (y.1, 10, .inl (fun _ => 0))), (q_2, .inl (y.1, 10, .inl (fun _ => 0)))]) := hD
  refine va_putF (tys := tysY y) (ci := 7) (v := .ref q_2) (ty := (.array .int)) (C := RX7) (T := TX7) (N := 5) hx hb hts (by decide +kernel) tyX7 tyX7_ok nmX7 hown hK hP hD hS 0 rfl rfl 1 (by decide) (hts (.fieldLink RX7 15 "JoinedTheories$Terms" "firsts" "[I") (by decide +kernel)) (fun _ h9 => h9) rfl hin rfl (by decide +kernel) rfl rfl (Nat.le_of_ble_eq_true rfl) dX7_init_17 (fun H locs hP hD hS => ?_)
  have hP : va_P D vwCl ([(h0, .inr (7, [.ref q_1, .ref q_2, .null, .null, .int 0])), (q_1, .inl (y.1, 10, .inl (fun _ => 0))), (q_2, .inl (y.1, 10, .inl (fun _ => 0)))]) H := hP
  have hD : va_D A ([(h0, .inr (7, [.ref q_1, .ref q_2, .null, .null, .int 0])), (q_1, .inl (y.1, 10, .inl (fun _ => 0))), (q_2, .inl (y.1, 10, .inl (fun _ => 0)))]) := hD
  refine lv_aload_n hx hb dX7_init_20 rfl (lv_at hl 0 rfl) ?_
  refine lv_bipush (v := (10)) hx hb dX7_init_21 (by decide) ?_
  refine k_newI (N := 10) hx hb (hts (.arrayClass .int) (by decide +kernel)) hK hP hD hS hA (by decide) (by decide) (Nat.le_of_ble_eq_true rfl) (Nat.le_of_ble_eq_true rfl) (Nat.le_of_ble_eq_true rfl) dX7_init_23 (fun q_3 H hP hD hS => ?_)
  have hP : va_P D vwCl ([(h0, .inr (7, [.ref q_1, .ref q_2, .null, .null, .int 0])), (q_1, .inl (y.1, 10, .inl (fun _ => 0))), (q_2, .inl (y.1, 10, .inl (fun _ => 0))), (q_3, .inl (y.1, 10, .inl (fun _ => 0)))]) H := hP
  have hD : va_D A ([(h0, .inr (7, [.ref q_1, .ref q_2, .null, .null, .int 0])), (q_1, .inl (y.1, 10, .inl (fun _ => 0))), (q_2, .inl (y.1, 10, .inl (fun _ => 0))), (q_3, .inl (y.1, 10, .inl (fun _ => 0)))]) := hD
  refine va_putF (tys := tysY y) (ci := 7) (v := .ref q_3) (ty := (.array .int)) (C := RX7) (T := TX7) (N := 5) hx hb hts (by decide +kernel) tyX7 tyX7_ok nmX7 hown hK hP hD hS 0 rfl rfl 2 (by decide) (hts (.fieldLink RX7 18 "JoinedTheories$Terms" "seconds" "[I") (by decide +kernel)) (fun _ h9 => h9) rfl hin rfl (by decide +kernel) rfl rfl (Nat.le_of_ble_eq_true rfl) dX7_init_25 (fun H locs hP hD hS => ?_)
  have hP : va_P D vwCl ([(h0, .inr (7, [.ref q_1, .ref q_2, .ref q_3, .null, .int 0])), (q_1, .inl (y.1, 10, .inl (fun _ => 0))), (q_2, .inl (y.1, 10, .inl (fun _ => 0))), (q_3, .inl (y.1, 10, .inl (fun _ => 0)))]) H := hP
  have hD : va_D A ([(h0, .inr (7, [.ref q_1, .ref q_2, .ref q_3, .null, .int 0])), (q_1, .inl (y.1, 10, .inl (fun _ => 0))), (q_2, .inl (y.1, 10, .inl (fun _ => 0))), (q_3, .inl (y.1, 10, .inl (fun _ => 0)))]) := hD
  refine lv_aload_n hx hb dX7_init_28 rfl (lv_at hl 0 rfl) ?_
  refine lv_bipush (v := (10)) hx hb dX7_init_29 (by decide) ?_
  refine k_newI (N := 10) hx hb (hts (.arrayClass .int) (by decide +kernel)) hK hP hD hS hA (by decide) (by decide) (Nat.le_of_ble_eq_true rfl) (Nat.le_of_ble_eq_true rfl) (Nat.le_of_ble_eq_true rfl) dX7_init_31 (fun q_4 H hP hD hS => ?_)
  have hP : va_P D vwCl ([(h0, .inr (7, [.ref q_1, .ref q_2, .ref q_3, .null, .int 0])), (q_1, .inl (y.1, 10, .inl (fun _ => 0))), (q_2, .inl (y.1, 10, .inl (fun _ => 0))), (q_3, .inl (y.1, 10, .inl (fun _ => 0))), (q_4, .inl (y.1, 10, .inl (fun _ => 0)))]) H := hP
  have hD : va_D A ([(h0, .inr (7, [.ref q_1, .ref q_2, .ref q_3, .null, .int 0])), (q_1, .inl (y.1, 10, .inl (fun _ => 0))), (q_2, .inl (y.1, 10, .inl (fun _ => 0))), (q_3, .inl (y.1, 10, .inl (fun _ => 0))), (q_4, .inl (y.1, 10, .inl (fun _ => 0)))]) := hD
  refine va_putF (tys := tysY y) (ci := 7) (v := .ref q_4) (ty := (.array .int)) (C := RX7) (T := TX7) (N := 5) hx hb hts (by decide +kernel) tyX7 tyX7_ok nmX7 hown hK hP hD hS 0 rfl rfl 3 (by decide) (hts (.fieldLink RX7 21 "JoinedTheories$Terms" "lengths" "[I") (by decide +kernel)) (fun _ h9 => h9) rfl hin rfl (by decide +kernel) rfl rfl (Nat.le_of_ble_eq_true rfl) dX7_init_33 (fun H locs hP hD hS => ?_)
  have hP : va_P D vwCl ([(h0, .inr (7, [.ref q_1, .ref q_2, .ref q_3, .ref q_4, .int 0])), (q_1, .inl (y.1, 10, .inl (fun _ => 0))), (q_2, .inl (y.1, 10, .inl (fun _ => 0))), (q_3, .inl (y.1, 10, .inl (fun _ => 0))), (q_4, .inl (y.1, 10, .inl (fun _ => 0)))]) H := hP
  have hD : va_D A ([(h0, .inr (7, [.ref q_1, .ref q_2, .ref q_3, .ref q_4, .int 0])), (q_1, .inl (y.1, 10, .inl (fun _ => 0))), (q_2, .inl (y.1, 10, .inl (fun _ => 0))), (q_3, .inl (y.1, 10, .inl (fun _ => 0))), (q_4, .inl (y.1, 10, .inl (fun _ => 0)))]) := hD
  refine lv_aload_n hx hb dX7_init_36 rfl (lv_at hl 0 rfl) ?_
  refine lv_iconst (v := 5) hx hb dX7_init_37 (by decide) ?_
  refine va_put (tys := tysY y) (ci := 7) (v := .int 5) (ty := .int) (C := RX7) (T := TX7) (N := 5) hx hb hts (by decide +kernel) tyX7 tyX7_ok nmX7 hown hK hP hD hS 0 rfl rfl 4 (by decide) (hts (.fieldLink RX7 24 "JoinedTheories$Terms" "size" "I") (by decide +kernel)) (fun _ h9 => h9) rfl (by decide +kernel) rfl rfl (Nat.le_of_ble_eq_true rfl) dX7_init_38 (fun H locs hP hD hS => ?_)
  have hP : va_P D vwCl ([(h0, .inr (7, [.ref q_1, .ref q_2, .ref q_3, .ref q_4, .int 5])), (q_1, .inl (y.1, 10, .inl (fun _ => 0))), (q_2, .inl (y.1, 10, .inl (fun _ => 0))), (q_3, .inl (y.1, 10, .inl (fun _ => 0))), (q_4, .inl (y.1, 10, .inl (fun _ => 0)))]) H := hP
  have hD : va_D A ([(h0, .inr (7, [.ref q_1, .ref q_2, .ref q_3, .ref q_4, .int 5])), (q_1, .inl (y.1, 10, .inl (fun _ => 0))), (q_2, .inl (y.1, 10, .inl (fun _ => 0))), (q_3, .inl (y.1, 10, .inl (fun _ => 0))), (q_4, .inl (y.1, 10, .inl (fun _ => 0)))]) := hD
  have loop : ∀ (d i : Nat), d + i = 5 → ∀ (H : Heap) (locs : List Loc) (ls : Array Slot), va_P D vwCl [(h0, .inr (7, [.ref q_1, .ref q_2, .ref q_3, .ref q_4, .int 5])), (q_1, .inl (y.1, 10, .inl (fun _ => 0))), (q_2, .inl (y.1, 10, .inl (fun j => if j < i then (-2000000001 : Int32) else 0))), (q_3, .inl (y.1, 10, .inl (fun j => if j < i then (-2000000001 : Int32) else 0))), (q_4, .inl (y.1, 10, .inl (fun j => if j < i then (1 : Int32) else 0)))] H → va_D A [(h0, .inr (7, [.ref q_1, .ref q_2, .ref q_3, .ref q_4, .int 5])), (q_1, .inl (y.1, 10, .inl (fun _ => 0))), (q_2, .inl (y.1, 10, .inl (fun j => if j < i then (-2000000001 : Int32) else 0))), (q_3, .inl (y.1, 10, .inl (fun j => if j < i then (-2000000001 : Int32) else 0))), (q_4, .inl (y.1, 10, .inl (fun j => if j < i then (1 : Int32) else 0)))] → va_S A s.heap H locs → lv_has ls 2 [(1, .int (nI i)), (0, .ref h0)] → W p l e (headSpec wsX7_init ({ frames := 1, cells := 4, slots := 40, locals := 12 })).room s m ([.ref h0] : List Value).toArray below meth c H locs 4 40 (MQ below (va_Qv (fun _ : Nat × Nat × Nat × Nat => True) (fun u t => va_P D vwCl ((h0, (fun u => .inr (7, [.ref u.1, .ref u.2.1, .ref u.2.2.1, .ref u.2.2.2, .int 5])) u) :: (fun u => [(u.1, .inl (y.1, 10, .inl (fun _ => 0))), (u.2.1, .inl (y.1, 10, .inl (fun j => if j < 5 then (-2000000001 : Int32) else 0))), (u.2.2.1, .inl (y.1, 10, .inl (fun j => if j < 5 then (-2000000001 : Int32) else 0))), (u.2.2.2, .inl (y.1, 10, .inl (fun j => if j < 5 then (1 : Int32) else 0)))]) u) t.heap ∧ va_D A ((h0, (fun u => .inr (7, [.ref u.1, .ref u.2.1, .ref u.2.2.1, .ref u.2.2.2, .int 5])) u) :: (fun u => [(u.1, .inl (y.1, 10, .inl (fun _ => 0))), (u.2.1, .inl (y.1, 10, .inl (fun j => if j < 5 then (-2000000001 : Int32) else 0))), (u.2.2.1, .inl (y.1, 10, .inl (fun j => if j < 5 then (-2000000001 : Int32) else 0))), (u.2.2.2, .inl (y.1, 10, .inl (fun j => if j < 5 then (1 : Int32) else 0)))]) u)) A) ([.ref h0] : List Value).toArray s 4 40 A) (F0 m 43 ls []) := by
    intro d
    induction d with
    | zero =>
      intro i hi H locs ls hP hD hS hl
      have : i = 5 := by omega
      subst this
      refine lv_iload_n hx hb dX7_init_43 rfl (lv_at hl 0 rfl) ?_
      refine lv_iconst (v := 5) hx hb dX7_init_44 (by decide) ?_
      refine lv_icmp_ge (tgt := 84) hx hb dX7_init_45 (by decide) (fun _ => ?_) (fun b => absurd (by decide) b)
      exact W.vret hx hb hr (fun t ht hW => ⟨⟨(q_1, q_2, q_3, q_4), rfl, trivial, by dsimp only; rw [ht]; exact ⟨hP, hD⟩⟩, hS.F ht⟩) hS.2.2 dX7_init_84
    | succ d ih =>
      intro i hi H locs ls hP hD hS hl
      have hlt : i < 5 := by omega
      refine lv_iload_n hx hb dX7_init_43 rfl (lv_at hl 0 rfl) ?_
      refine lv_iconst (v := 5) hx hb dX7_init_44 (by decide) ?_
      refine lv_icmp_ge (tgt := 84) hx hb dX7_init_45 (by decide) (fun b => absurd b (by show ¬ nI 5 ≤ nI i; rw [nI_leI (by omega) (by omega)]; omega)) (fun _ => ?_)
      have bad : ¬ (nI i < 0 ∨ 10 ≤ (nI i).toNatClampNeg) := nI_bad (by omega) (by omega)
      have cl : (nI i).toNatClampNeg = i := nI_c (by omega)
      refine lv_aload_n hx hb dX7_init_48 rfl (lv_at hl 1 rfl) ?_
      refine va_get (tys := tysY y) (ci := 7) (v := .ref q_1) (C := RX7) (T := TX7) (N := 5) hx hb hts (by decide +kernel) hown hK hP 0 rfl rfl 0 (by decide) (hts (.fieldLink RX7 9 "JoinedTheories$Terms" "kinds" "[I") (by decide +kernel)) (fun _ h9 => h9) rfl dX7_init_49 ?_
      refine lv_iload_n hx hb dX7_init_52 rfl (lv_at hl 0 rfl) ?_
      refine lv_iconst (v := 0) hx hb dX7_init_53 (by decide) ?_
      refine va_iast (tys := tysY y) hx hb hK hP hD hS 1 0 rfl rfl bad dX7_init_54 (fun H locs hP hD hS => ?_)
      have e1 : upd (fun _ => 0) (nI i).toNatClampNeg (0) = (fun _ => 0) := by
        rw [cl]; funext j; unfold upd
        split <;> rfl
      have hP : va_P D vwCl [(h0, .inr (7, [.ref q_1, .ref q_2, .ref q_3, .ref q_4, .int 5])), (q_1, .inl (y.1, 10, .inl (upd (fun _ => 0) (nI i).toNatClampNeg (0)))), (q_2, .inl (y.1, 10, .inl (fun j => if j < i then (-2000000001 : Int32) else 0))), (q_3, .inl (y.1, 10, .inl (fun j => if j < i then (-2000000001 : Int32) else 0))), (q_4, .inl (y.1, 10, .inl (fun j => if j < i then (1 : Int32) else 0)))] H := hP
      have hD : va_D A [(h0, .inr (7, [.ref q_1, .ref q_2, .ref q_3, .ref q_4, .int 5])), (q_1, .inl (y.1, 10, .inl (upd (fun _ => 0) (nI i).toNatClampNeg (0)))), (q_2, .inl (y.1, 10, .inl (fun j => if j < i then (-2000000001 : Int32) else 0))), (q_3, .inl (y.1, 10, .inl (fun j => if j < i then (-2000000001 : Int32) else 0))), (q_4, .inl (y.1, 10, .inl (fun j => if j < i then (1 : Int32) else 0)))] := hD
      rw [e1] at hP hD
      refine lv_aload_n hx hb dX7_init_55 rfl (lv_at hl 1 rfl) ?_
      refine va_get (tys := tysY y) (ci := 7) (v := .ref q_2) (C := RX7) (T := TX7) (N := 5) hx hb hts (by decide +kernel) hown hK hP 0 rfl rfl 1 (by decide) (hts (.fieldLink RX7 15 "JoinedTheories$Terms" "firsts" "[I") (by decide +kernel)) (fun _ h9 => h9) rfl dX7_init_56 ?_
      refine lv_iload_n hx hb dX7_init_59 rfl (lv_at hl 0 rfl) ?_
      refine lv_ldc (v := (-2000000001)) hx hb hown (hts (.constant RX7 28 (-2000000001)) (by decide +kernel)) dX7_init_60 ?_
      refine va_iast (tys := tysY y) hx hb hK hP hD hS 2 0 rfl rfl bad dX7_init_62 (fun H locs hP hD hS => ?_)
      have e2 : upd (fun j => if j < i then (-2000000001 : Int32) else 0) (nI i).toNatClampNeg ((-2000000001)) = (fun j => if j < i + 1 then (-2000000001 : Int32) else 0) := by
        rw [cl]; funext j; unfold upd
        by_cases q : j = i
        · rw [if_pos q, if_pos (by omega)]
        · rw [if_neg q]
          show (if j < i then (-2000000001 : Int32) else 0) = _
          by_cases q2 : j < i
          · rw [if_pos q2, if_pos (by omega)]
          · rw [if_neg q2, if_neg (by omega)]
      have hP : va_P D vwCl [(h0, .inr (7, [.ref q_1, .ref q_2, .ref q_3, .ref q_4, .int 5])), (q_1, .inl (y.1, 10, .inl (fun _ => 0))), (q_2, .inl (y.1, 10, .inl (upd (fun j => if j < i then (-2000000001 : Int32) else 0) (nI i).toNatClampNeg ((-2000000001))))), (q_3, .inl (y.1, 10, .inl (fun j => if j < i then (-2000000001 : Int32) else 0))), (q_4, .inl (y.1, 10, .inl (fun j => if j < i then (1 : Int32) else 0)))] H := hP
      have hD : va_D A [(h0, .inr (7, [.ref q_1, .ref q_2, .ref q_3, .ref q_4, .int 5])), (q_1, .inl (y.1, 10, .inl (fun _ => 0))), (q_2, .inl (y.1, 10, .inl (upd (fun j => if j < i then (-2000000001 : Int32) else 0) (nI i).toNatClampNeg ((-2000000001))))), (q_3, .inl (y.1, 10, .inl (fun j => if j < i then (-2000000001 : Int32) else 0))), (q_4, .inl (y.1, 10, .inl (fun j => if j < i then (1 : Int32) else 0)))] := hD
      rw [e2] at hP hD
      refine lv_aload_n hx hb dX7_init_63 rfl (lv_at hl 1 rfl) ?_
      refine va_get (tys := tysY y) (ci := 7) (v := .ref q_3) (C := RX7) (T := TX7) (N := 5) hx hb hts (by decide +kernel) hown hK hP 0 rfl rfl 2 (by decide) (hts (.fieldLink RX7 18 "JoinedTheories$Terms" "seconds" "[I") (by decide +kernel)) (fun _ h9 => h9) rfl dX7_init_64 ?_
      refine lv_iload_n hx hb dX7_init_67 rfl (lv_at hl 0 rfl) ?_
      refine lv_ldc (v := (-2000000001)) hx hb hown (hts (.constant RX7 28 (-2000000001)) (by decide +kernel)) dX7_init_68 ?_
      refine va_iast (tys := tysY y) hx hb hK hP hD hS 3 0 rfl rfl bad dX7_init_70 (fun H locs hP hD hS => ?_)
      have e3 : upd (fun j => if j < i then (-2000000001 : Int32) else 0) (nI i).toNatClampNeg ((-2000000001)) = (fun j => if j < i + 1 then (-2000000001 : Int32) else 0) := by
        rw [cl]; funext j; unfold upd
        by_cases q : j = i
        · rw [if_pos q, if_pos (by omega)]
        · rw [if_neg q]
          show (if j < i then (-2000000001 : Int32) else 0) = _
          by_cases q2 : j < i
          · rw [if_pos q2, if_pos (by omega)]
          · rw [if_neg q2, if_neg (by omega)]
      have hP : va_P D vwCl [(h0, .inr (7, [.ref q_1, .ref q_2, .ref q_3, .ref q_4, .int 5])), (q_1, .inl (y.1, 10, .inl (fun _ => 0))), (q_2, .inl (y.1, 10, .inl (fun j => if j < i + 1 then (-2000000001 : Int32) else 0))), (q_3, .inl (y.1, 10, .inl (upd (fun j => if j < i then (-2000000001 : Int32) else 0) (nI i).toNatClampNeg ((-2000000001))))), (q_4, .inl (y.1, 10, .inl (fun j => if j < i then (1 : Int32) else 0)))] H := hP
      have hD : va_D A [(h0, .inr (7, [.ref q_1, .ref q_2, .ref q_3, .ref q_4, .int 5])), (q_1, .inl (y.1, 10, .inl (fun _ => 0))), (q_2, .inl (y.1, 10, .inl (fun j => if j < i + 1 then (-2000000001 : Int32) else 0))), (q_3, .inl (y.1, 10, .inl (upd (fun j => if j < i then (-2000000001 : Int32) else 0) (nI i).toNatClampNeg ((-2000000001))))), (q_4, .inl (y.1, 10, .inl (fun j => if j < i then (1 : Int32) else 0)))] := hD
      rw [e3] at hP hD
      refine lv_aload_n hx hb dX7_init_71 rfl (lv_at hl 1 rfl) ?_
      refine va_get (tys := tysY y) (ci := 7) (v := .ref q_4) (C := RX7) (T := TX7) (N := 5) hx hb hts (by decide +kernel) hown hK hP 0 rfl rfl 3 (by decide) (hts (.fieldLink RX7 21 "JoinedTheories$Terms" "lengths" "[I") (by decide +kernel)) (fun _ h9 => h9) rfl dX7_init_72 ?_
      refine lv_iload_n hx hb dX7_init_75 rfl (lv_at hl 0 rfl) ?_
      refine lv_iconst (v := 1) hx hb dX7_init_76 (by decide) ?_
      refine va_iast (tys := tysY y) hx hb hK hP hD hS 4 0 rfl rfl bad dX7_init_77 (fun H locs hP hD hS => ?_)
      have e4 : upd (fun j => if j < i then (1 : Int32) else 0) (nI i).toNatClampNeg (1) = (fun j => if j < i + 1 then (1 : Int32) else 0) := by
        rw [cl]; funext j; unfold upd
        by_cases q : j = i
        · rw [if_pos q, if_pos (by omega)]
        · rw [if_neg q]
          show (if j < i then (1 : Int32) else 0) = _
          by_cases q2 : j < i
          · rw [if_pos q2, if_pos (by omega)]
          · rw [if_neg q2, if_neg (by omega)]
      have hP : va_P D vwCl [(h0, .inr (7, [.ref q_1, .ref q_2, .ref q_3, .ref q_4, .int 5])), (q_1, .inl (y.1, 10, .inl (fun _ => 0))), (q_2, .inl (y.1, 10, .inl (fun j => if j < i + 1 then (-2000000001 : Int32) else 0))), (q_3, .inl (y.1, 10, .inl (fun j => if j < i + 1 then (-2000000001 : Int32) else 0))), (q_4, .inl (y.1, 10, .inl (upd (fun j => if j < i then (1 : Int32) else 0) (nI i).toNatClampNeg (1))))] H := hP
      have hD : va_D A [(h0, .inr (7, [.ref q_1, .ref q_2, .ref q_3, .ref q_4, .int 5])), (q_1, .inl (y.1, 10, .inl (fun _ => 0))), (q_2, .inl (y.1, 10, .inl (fun j => if j < i + 1 then (-2000000001 : Int32) else 0))), (q_3, .inl (y.1, 10, .inl (fun j => if j < i + 1 then (-2000000001 : Int32) else 0))), (q_4, .inl (y.1, 10, .inl (upd (fun j => if j < i then (1 : Int32) else 0) (nI i).toNatClampNeg (1))))] := hD
      rw [e4] at hP hD
      refine lv_iinc (v := nI (i + 1)) (lv' := [(1, .int (nI (i + 1))), (0, .ref h0)]) hx hb dX7_init_78 hl (k := 0) rfl (nI_1 i) (by decide) rfl (fun ls hl => ?_)
      refine lv_goto (tgt := 43) hx hb dX7_init_81 (by decide) ?_
      exact ih (i + 1) (by omega) H locs ls hP hD hS hl
  refine lv_iconst (v := 0) hx hb dX7_init_41 (by decide) ?_
  refine lv_istore_n (lv' := [(1, .int 0), (0, .ref h0)]) hx hb dX7_init_42 rfl hl (by decide) rfl (fun ls hl => ?_)
  refine W.widen (k := 4) (n := 40) (Nat.le_of_ble_eq_true rfl) (Nat.le_of_ble_eq_true rfl) ?_
  have z0 : (fun j => if j < 0 then (-2000000001 : Int32) else 0) = fun _ => 0 := by funext j; rw [if_neg (by omega)]
  have z1 : (fun j => if j < 0 then (1 : Int32) else 0) = fun _ => 0 := by funext j; rw [if_neg (by omega)]
  exact loop 5 0 rfl H locs ls (by rw [z0, z1]; exact hP) (by rw [z0, z1]; exact hD) hS hl
