/-! THE SOLVER'S CONSTRUCTOR (made by gensolver.py) -/
theorem at_end {X pl : va_W} {x : Nat × va_E} {n : Nat} (h : X.length + pl.length = n) : ((X ++ pl) ++ [x])[n]? = some x := by
  subst h; rw [List.getElem?_append_right (by simp)]; simp
theorem set_end {X pl : va_W} {x z : Nat × va_E} {n : Nat} (h : X.length + pl.length = n) : ((X ++ pl) ++ [x]).set n z = (X ++ pl) ++ [z] := by
  subst h; rw [List.set_append_right _ _ (by simp)]; simp
theorem at_in {X pl nw : va_W} {x : Nat × va_E} {n : Nat} (h : X.length + pl.length = n) : (X ++ (pl ++ x :: nw))[n]? = some x := by
  subst h; rw [List.getElem?_append_right (by omega), List.getElem?_append_right (by omega)]; simp
/-- what the solver made beside its four cells -/
def SvP (y : y4) (u : (Nat × Nat × Nat × Nat) × va_W × (Nat → Nat) × (Nat → Nat) × (Nat → Nat)) : Prop := u.2.1.length = 68 ∧ (∀ j, j < 22 → u.2.1[j]? = some (u.2.2.1 j, .inr (0, [.int 0, .int 0, .int 0, .int 0, .int 0, .int 0, .int 0]))) ∧ ∀ j, j < 23 → u.2.1[22 + 2 * j]? = some (u.2.2.2.1 j, .inr (1, [.ref (u.2.2.2.2 j)])) ∧ u.2.1[22 + 2 * j + 1]? = some (u.2.2.2.2 j, .inl (y.2.1, 100, .inr (.inl (fun _ => 0))))
set_option maxHeartbeats 4000000 in
set_option maxRecDepth 100000 in
theorem c_X6_init (l : Launch) (D : va_G) (y : y4) (h0 sz : Nat) (a1 a2 : Nat) : KN (α := (Nat × Nat × Nat × Nat) × va_W × (Nat → Nat) × (Nat → Nat) × (Nat → Nat)) l D y yX6_init wsX6_init ({ frames := 2, cells := 72, slots := 2623, locals := 32 }) [.ref h0, .ref a1, .ref a2] h0 sz (.inr (6, [.null, .null, .null, .int 0, .null, .null, .int 0, .int 0, .int 0, .int 0])) (SvP y) (fun u => .inr (6, [.ref a1, .ref a2, .ref u.1.1, .int 0, .ref u.1.2.1, .ref u.1.2.2.1, .int 0, .int 0, .int 0, .int 0])) (fun u => [(u.1.1, .inl (y.2.2.1, 22, .inr (.inr (.inr (.inr (fun j => if j < 22 then some (u.2.2.1 j) else none)))))), (u.1.2.1, .inl (y.2.2.2, 23, .inr (.inr (.inr (.inr (fun j => if j < 23 then some (u.2.2.2.1 j) else none)))))), (u.1.2.2.1, .inr (1, [.ref u.1.2.2.2])), (u.1.2.2.2, .inl (y.2.1, 100, .inr (.inl (fun _ => 0))))] ++ u.2.1) 72 2623 := by
  refine Met.ofW (cc := cX6_init) (maxL := 4) (ret := none) (by decide) rfl ?_
  intro p e s m args below meth c s₁ B hml hv
  obtain ⟨rfl, hsz, hP, hK, hN⟩ := hv
  have hx := B.exec
  have hb := B.bytes
  have hr := B.returns
  have hts := atoms_spec (ws := wsX6_init) B.pre
  have hown : s.vm.findClass RX6 = some m.cls := findClass_of_methodNamed B.named
  have hlocks := B.notSynchronized
  have hin : meth.name = "<init>" := (name_of_methodNamed B.named B.method).1
  subst hsz
  have hD : va_D (NA h0 s.heap.size) [(h0, .inr (6, [.null, .null, .null, .int 0, .null, .null, .int 0, .int 0, .int 0, .int 0]))] := D1 (Or.inl rfl)
  generalize hAe : NA h0 s.heap.size = A at hD ⊢
  have hA : ∀ q : Nat, s.heap.size ≤ q → A q := fun q h => by rw [← hAe]; exact Or.inr h
  have hS : va_S A s.heap s.heap [] := va_S.rf
  have hl := lv_entry ([.ref h0, .ref a1, .ref a2]) (n := 4) (Nat.le_of_ble_eq_true rfl)
  rw [lg_entry_eq]
  generalize (lg_sl ([.ref h0, .ref a1, .ref a2]) ++ List.replicate (4 - (lg_sl ([.ref h0, .ref a1, .ref a2])).length) Slot.unset).toArray = ls at hl ⊢
  have hl : lv_has ls 4 [(0, .ref h0), (1, .ref a1), (2, .ref a2)] := hl
  refine lv_aload_n hx hb dX6_init_0 rfl (lv_at hl 0 rfl) ?_
  refine W.objInit hx hb hown (hts (.methodLink RX6 5 objectInit) (by decide +kernel)) (hts (.instanceMethod objectInit) (by decide +kernel)) (hts (.code objectInit ⟨#[0xb1]⟩ 1 none) (by decide +kernel)) rfl (by rw [hml]; exact hl.1) rfl dX6_init_1 (Nat.le_of_ble_eq_true rfl) (Nat.le_of_ble_eq_true rfl) ?_
  refine W.eq (g2 := F0 m 4 ls []) rfl ?_
  refine lv_aload_n hx hb dX6_init_4 rfl (lv_at hl 0 rfl) ?_
  refine lv_bipush (v := (22)) hx hb dX6_init_5 (by decide) ?_
  refine k_newQ (C := "JoinedTheories$Clause") (N := 22) (t := 2) (yc := y.2.2.1) hx hb hown (hts (.classLink RX6 11 "JoinedTheories$Clause") (by decide +kernel)) hN.2.1 rfl hK hP hD hS hA (by decide) (by decide) (Nat.le_of_ble_eq_true rfl) (Nat.le_of_ble_eq_true rfl) (Nat.le_of_ble_eq_true rfl) dX6_init_7 (fun q_1 H hP hD hS => ?_)
  have hP : va_P D vwCl ([(h0, .inr (6, [.null, .null, .null, .int 0, .null, .null, .int 0, .int 0, .int 0, .int 0])), (q_1, .inl (y.2.2.1, 22, .inr (.inr (.inr (.inr (fun _ => none))))))]) H := hP
  have hD : va_D A ([(h0, .inr (6, [.null, .null, .null, .int 0, .null, .null, .int 0, .int 0, .int 0, .int 0])), (q_1, .inl (y.2.2.1, 22, .inr (.inr (.inr (.inr (fun _ => none))))))]) := hD
  refine va_putF (tys := tysY y) (ci := 6) (v := .ref q_1) (ty := (.array (.object "JoinedTheories$Clause"))) (C := RX6) (T := TX6) (N := 10) hx hb hts (by decide +kernel) tyX6 tyX6_ok nmX6 hown hK hP hD hS 0 rfl rfl 2 (by decide) (hts (.fieldLink RX6 13 "JoinedTheories$Solver" "clauses" "[LJoinedTheories$Clause;") (by decide +kernel)) (fun _ h9 => h9) rfl hin rfl (by decide +kernel) rfl rfl (Nat.le_of_ble_eq_true rfl) dX6_init_10 (fun H locs hP hD hS => ?_)
  have hP : va_P D vwCl ([(h0, .inr (6, [.null, .null, .ref q_1, .int 0, .null, .null, .int 0, .int 0, .int 0, .int 0])), (q_1, .inl (y.2.2.1, 22, .inr (.inr (.inr (.inr (fun _ => none))))))]) H := hP
  have hD : va_D A ([(h0, .inr (6, [.null, .null, .ref q_1, .int 0, .null, .null, .int 0, .int 0, .int 0, .int 0])), (q_1, .inl (y.2.2.1, 22, .inr (.inr (.inr (.inr (fun _ => none))))))]) := hD
  refine lv_aload_n hx hb dX6_init_13 rfl (lv_at hl 0 rfl) ?_
  refine lv_bipush (v := (23)) hx hb dX6_init_14 (by decide) ?_
  refine k_newQ (C := "JoinedTheories$Distances") (N := 23) (t := 3) (yc := y.2.2.2) hx hb hown (hts (.classLink RX6 17 "JoinedTheories$Distances") (by decide +kernel)) hN.2.2 rfl hK hP hD hS hA (by decide) (by decide) (Nat.le_of_ble_eq_true rfl) (Nat.le_of_ble_eq_true rfl) (Nat.le_of_ble_eq_true rfl) dX6_init_16 (fun q_2 H hP hD hS => ?_)
  have hP : va_P D vwCl ([(h0, .inr (6, [.null, .null, .ref q_1, .int 0, .null, .null, .int 0, .int 0, .int 0, .int 0])), (q_1, .inl (y.2.2.1, 22, .inr (.inr (.inr (.inr (fun _ => none)))))), (q_2, .inl (y.2.2.2, 23, .inr (.inr (.inr (.inr (fun _ => none))))))]) H := hP
  have hD : va_D A ([(h0, .inr (6, [.null, .null, .ref q_1, .int 0, .null, .null, .int 0, .int 0, .int 0, .int 0])), (q_1, .inl (y.2.2.1, 22, .inr (.inr (.inr (.inr (fun _ => none)))))), (q_2, .inl (y.2.2.2, 23, .inr (.inr (.inr (.inr (fun _ => none))))))]) := hD
  refine va_putF (tys := tysY y) (ci := 6) (v := .ref q_2) (ty := (.array (.object "JoinedTheories$Distances"))) (C := RX6) (T := TX6) (N := 10) hx hb hts (by decide +kernel) tyX6 tyX6_ok nmX6 hown hK hP hD hS 0 rfl rfl 4 (by decide) (hts (.fieldLink RX6 19 "JoinedTheories$Solver" "levels" "[LJoinedTheories$Distances;") (by decide +kernel)) (fun _ h9 => h9) rfl hin rfl (by decide +kernel) rfl rfl (Nat.le_of_ble_eq_true rfl) dX6_init_19 (fun H locs hP hD hS => ?_)
  have hP : va_P D vwCl ([(h0, .inr (6, [.null, .null, .ref q_1, .int 0, .ref q_2, .null, .int 0, .int 0, .int 0, .int 0])), (q_1, .inl (y.2.2.1, 22, .inr (.inr (.inr (.inr (fun _ => none)))))), (q_2, .inl (y.2.2.2, 23, .inr (.inr (.inr (.inr (fun _ => none))))))]) H := hP
  have hD : va_D A ([(h0, .inr (6, [.null, .null, .ref q_1, .int 0, .ref q_2, .null, .int 0, .int 0, .int 0, .int 0])), (q_1, .inl (y.2.2.1, 22, .inr (.inr (.inr (.inr (fun _ => none)))))), (q_2, .inl (y.2.2.2, 23, .inr (.inr (.inr (.inr (fun _ => none))))))]) := hD
  refine lv_aload_n hx hb dX6_init_22 rfl (lv_at hl 0 rfl) ?_
  refine va_new (ci := 1) (fs := [.null]) (C := RX1) (T := TX1) (N := 1) hx hb hts (by decide +kernel) tyX1 tyX1_ok hown (hts (.classLink RX6 17 RX1) (by decide +kernel)) (hts (.instantiable RX1 1) (by decide +kernel)) (hts (.initialized RX1) (by decide +kernel)) hK hP hD hS hA rfl (fun j hj => by rcases (show j = 0 by omega) with rfl <;> rfl) (Nat.le_of_ble_eq_true rfl) (Nat.le_of_ble_eq_true rfl) dX6_init_23 (fun q_3 H hP hD hS => ?_)
  have hP : va_P D vwCl ([(h0, .inr (6, [.null, .null, .ref q_1, .int 0, .ref q_2, .null, .int 0, .int 0, .int 0, .int 0])), (q_1, .inl (y.2.2.1, 22, .inr (.inr (.inr (.inr (fun _ => none)))))), (q_2, .inl (y.2.2.2, 23, .inr (.inr (.inr (.inr (fun _ => none)))))), (q_3, .inr (1, [.null]))]) H := hP
  have hD : va_D A ([(h0, .inr (6, [.null, .null, .ref q_1, .int 0, .ref q_2, .null, .int 0, .int 0, .int 0, .int 0])), (q_1, .inl (y.2.2.1, 22, .inr (.inr (.inr (.inr (fun _ => none)))))), (q_2, .inl (y.2.2.2, 23, .inr (.inr (.inr (.inr (fun _ => none)))))), (q_3, .inr (1, [.null]))]) := hD
  refine lv_dup hx hb dX6_init_26 rfl ?_
  refine k_call (va_runIN (As := []) (rest := [.ref q_3, .ref h0]) ⟨hx, hb, hml, hown, hts⟩ (c_X1_init l D y q_3 H.size) ⟨va_cnB 0 hts gX6_init_X1_init_n23 rfl rfl rfl hN.1.2.2.2.1 (hts (.initialized RX1) (by decide +kernel)) (by decide +kernel) ⟨(Nat.le_of_ble_eq_true rfl), (Nat.le_of_ble_eq_true rfl)⟩, rfl, hts (.instanceMethod yX1_init) (by decide +kernel)⟩ (CP.preS hP hK hN 3 rfl) rfl rfl hl.1 rfl (lv_room (Nat.le_of_ble_eq_true rfl)) dX6_init_27 ⟨(Nat.le_of_ble_eq_true rfl), (Nat.le_of_ble_eq_true rfl)⟩) hP hD hS hA 3 rfl (fun u H locs hp hP hD hS => ?_)
  obtain ⟨q_4, rfl⟩ : ∃ z, z = u := ⟨_, rfl⟩
  have hP : va_P D vwCl ([(h0, .inr (6, [.null, .null, .ref q_1, .int 0, .ref q_2, .null, .int 0, .int 0, .int 0, .int 0])), (q_1, .inl (y.2.2.1, 22, .inr (.inr (.inr (.inr (fun _ => none)))))), (q_2, .inl (y.2.2.2, 23, .inr (.inr (.inr (.inr (fun _ => none)))))), (q_3, .inr (1, [.ref q_4])), (q_4, .inl (y.2.1, 100, .inr (.inl (fun _ => 0))))]) H := hP
  have hD : va_D A ([(h0, .inr (6, [.null, .null, .ref q_1, .int 0, .ref q_2, .null, .int 0, .int 0, .int 0, .int 0])), (q_1, .inl (y.2.2.1, 22, .inr (.inr (.inr (.inr (fun _ => none)))))), (q_2, .inl (y.2.2.2, 23, .inr (.inr (.inr (.inr (fun _ => none)))))), (q_3, .inr (1, [.ref q_4])), (q_4, .inl (y.2.1, 100, .inr (.inl (fun _ => 0))))]) := hD
  refine va_putF (tys := tysY y) (ci := 6) (v := .ref q_3) (ty := (.object "JoinedTheories$Distances")) (C := RX6) (T := TX6) (N := 10) hx hb hts (by decide +kernel) tyX6 tyX6_ok nmX6 hown hK hP hD hS 0 rfl rfl 5 (by decide) (hts (.fieldLink RX6 24 "JoinedTheories$Solver" "best" "LJoinedTheories$Distances;") (by decide +kernel)) (fun _ h9 => h9) rfl hin rfl (by decide +kernel) rfl rfl (Nat.le_of_ble_eq_true rfl) dX6_init_30 (fun H locs hP hD hS => ?_)
  have hP : va_P D vwCl ([(h0, .inr (6, [.null, .null, .ref q_1, .int 0, .ref q_2, .ref q_3, .int 0, .int 0, .int 0, .int 0])), (q_1, .inl (y.2.2.1, 22, .inr (.inr (.inr (.inr (fun _ => none)))))), (q_2, .inl (y.2.2.2, 23, .inr (.inr (.inr (.inr (fun _ => none)))))), (q_3, .inr (1, [.ref q_4])), (q_4, .inl (y.2.1, 100, .inr (.inl (fun _ => 0))))]) H := hP
  have hD : va_D A ([(h0, .inr (6, [.null, .null, .ref q_1, .int 0, .ref q_2, .ref q_3, .int 0, .int 0, .int 0, .int 0])), (q_1, .inl (y.2.2.1, 22, .inr (.inr (.inr (.inr (fun _ => none)))))), (q_2, .inl (y.2.2.2, 23, .inr (.inr (.inr (.inr (fun _ => none)))))), (q_3, .inr (1, [.ref q_4])), (q_4, .inl (y.2.1, 100, .inr (.inl (fun _ => 0))))]) := hD
  refine lv_aload_n hx hb dX6_init_33 rfl (lv_at hl 0 rfl) ?_
  refine lv_aload_n hx hb dX6_init_34 rfl (lv_at hl 1 rfl) ?_
  refine va_putF (tys := tysY y) (ci := 6) (v := .ref a1) (ty := (.object "JoinedTheories$Terms")) (C := RX6) (T := TX6) (N := 10) hx hb hts (by decide +kernel) tyX6 tyX6_ok nmX6 hown hK hP hD hS 0 rfl rfl 0 (by decide) (hts (.fieldLink RX6 28 "JoinedTheories$Solver" "terms" "LJoinedTheories$Terms;") (by decide +kernel)) (fun _ h9 => h9) rfl hin rfl (by decide +kernel) rfl rfl (Nat.le_of_ble_eq_true rfl) dX6_init_35 (fun H locs hP hD hS => ?_)
  have hP : va_P D vwCl ([(h0, .inr (6, [.ref a1, .null, .ref q_1, .int 0, .ref q_2, .ref q_3, .int 0, .int 0, .int 0, .int 0])), (q_1, .inl (y.2.2.1, 22, .inr (.inr (.inr (.inr (fun _ => none)))))), (q_2, .inl (y.2.2.2, 23, .inr (.inr (.inr (.inr (fun _ => none)))))), (q_3, .inr (1, [.ref q_4])), (q_4, .inl (y.2.1, 100, .inr (.inl (fun _ => 0))))]) H := hP
  have hD : va_D A ([(h0, .inr (6, [.ref a1, .null, .ref q_1, .int 0, .ref q_2, .ref q_3, .int 0, .int 0, .int 0, .int 0])), (q_1, .inl (y.2.2.1, 22, .inr (.inr (.inr (.inr (fun _ => none)))))), (q_2, .inl (y.2.2.2, 23, .inr (.inr (.inr (.inr (fun _ => none)))))), (q_3, .inr (1, [.ref q_4])), (q_4, .inl (y.2.1, 100, .inr (.inl (fun _ => 0))))]) := hD
  refine lv_aload_n hx hb dX6_init_38 rfl (lv_at hl 0 rfl) ?_
  refine lv_aload_n hx hb dX6_init_39 rfl (lv_at hl 2 rfl) ?_
  refine va_putF (tys := tysY y) (ci := 6) (v := .ref a2) (ty := (.object "JoinedTheories$Literals")) (C := RX6) (T := TX6) (N := 10) hx hb hts (by decide +kernel) tyX6 tyX6_ok nmX6 hown hK hP hD hS 0 rfl rfl 1 (by decide) (hts (.fieldLink RX6 32 "JoinedTheories$Solver" "literals" "LJoinedTheories$Literals;") (by decide +kernel)) (fun _ h9 => h9) rfl hin rfl (by decide +kernel) rfl rfl (Nat.le_of_ble_eq_true rfl) dX6_init_40 (fun H locs hP hD hS => ?_)
  have hP : va_P D vwCl ([(h0, .inr (6, [.ref a1, .ref a2, .ref q_1, .int 0, .ref q_2, .ref q_3, .int 0, .int 0, .int 0, .int 0])), (q_1, .inl (y.2.2.1, 22, .inr (.inr (.inr (.inr (fun _ => none)))))), (q_2, .inl (y.2.2.2, 23, .inr (.inr (.inr (.inr (fun _ => none)))))), (q_3, .inr (1, [.ref q_4])), (q_4, .inl (y.2.1, 100, .inr (.inl (fun _ => 0))))]) H := hP
  have hD : va_D A ([(h0, .inr (6, [.ref a1, .ref a2, .ref q_1, .int 0, .ref q_2, .ref q_3, .int 0, .int 0, .int 0, .int 0])), (q_1, .inl (y.2.2.1, 22, .inr (.inr (.inr (.inr (fun _ => none)))))), (q_2, .inl (y.2.2.2, 23, .inr (.inr (.inr (.inr (fun _ => none)))))), (q_3, .inr (1, [.ref q_4])), (q_4, .inl (y.2.1, 100, .inr (.inl (fun _ => 0))))]) := hD
  have loop2 : ∀ (a : Nat → Nat) (d i : Nat), d + i = 23 → ∀ (d1 d2 : Nat → Nat) (pl : va_W) (H : Heap) (locs : List Loc) (ls : Array Slot), va_P D vwCl ([(h0, .inr (6, [.ref a1, .ref a2, .ref q_1, .int 0, .ref q_2, .ref q_3, .int 0, .int 0, .int 0, .int 0])), (q_1, .inl (y.2.2.1, 22, .inr (.inr (.inr (.inr (fun j => if j < 22 then some (a j) else none)))))), (q_2, .inl (y.2.2.2, 23, .inr (.inr (.inr (.inr (fun j => if j < i then some (d1 j) else none)))))), (q_3, .inr (1, [.ref q_4])), (q_4, .inl (y.2.1, 100, .inr (.inl (fun _ => 0))))] ++ pl) H → va_D A ([(h0, .inr (6, [.ref a1, .ref a2, .ref q_1, .int 0, .ref q_2, .ref q_3, .int 0, .int 0, .int 0, .int 0])), (q_1, .inl (y.2.2.1, 22, .inr (.inr (.inr (.inr (fun j => if j < 22 then some (a j) else none)))))), (q_2, .inl (y.2.2.2, 23, .inr (.inr (.inr (.inr (fun j => if j < i then some (d1 j) else none)))))), (q_3, .inr (1, [.ref q_4])), (q_4, .inl (y.2.1, 100, .inr (.inl (fun _ => 0))))] ++ pl) → va_S A s.heap H locs → pl.length = 22 + 2 * i → (∀ j, j < 22 → pl[j]? = some (a j, .inr (0, [.int 0, .int 0, .int 0, .int 0, .int 0, .int 0, .int 0]))) → (∀ j, j < i → pl[22 + 2 * j]? = some (d1 j, .inr (1, [.ref (d2 j)])) ∧ pl[22 + 2 * j + 1]? = some (d2 j, .inl (y.2.1, 100, .inr (.inl (fun _ => 0))))) → lv_has ls 4 [(3, .int (nI i)), (0, .ref h0), (1, .ref a1), (2, .ref a2)] → W p l e (headSpec wsX6_init ({ frames := 2, cells := 72, slots := 2623, locals := 32 })).room s m ([.ref h0, .ref a1, .ref a2] : List Value).toArray below meth c H locs (26 + 2 * i) (300 + 101 * i) (MQ below (va_Qv (SvP y) (fun u t => va_P D vwCl ((h0, (fun u => .inr (6, [.ref a1, .ref a2, .ref u.1.1, .int 0, .ref u.1.2.1, .ref u.1.2.2.1, .int 0, .int 0, .int 0, .int 0])) u) :: (fun u => [(u.1.1, .inl (y.2.2.1, 22, .inr (.inr (.inr (.inr (fun j => if j < 22 then some (u.2.2.1 j) else none)))))), (u.1.2.1, .inl (y.2.2.2, 23, .inr (.inr (.inr (.inr (fun j => if j < 23 then some (u.2.2.2.1 j) else none)))))), (u.1.2.2.1, .inr (1, [.ref u.1.2.2.2])), (u.1.2.2.2, .inl (y.2.1, 100, .inr (.inl (fun _ => 0))))] ++ u.2.1) u) t.heap ∧ va_D A ((h0, (fun u => .inr (6, [.ref a1, .ref a2, .ref u.1.1, .int 0, .ref u.1.2.1, .ref u.1.2.2.1, .int 0, .int 0, .int 0, .int 0])) u) :: (fun u => [(u.1.1, .inl (y.2.2.1, 22, .inr (.inr (.inr (.inr (fun j => if j < 22 then some (u.2.2.1 j) else none)))))), (u.1.2.1, .inl (y.2.2.2, 23, .inr (.inr (.inr (.inr (fun j => if j < 23 then some (u.2.2.2.1 j) else none)))))), (u.1.2.2.1, .inr (1, [.ref u.1.2.2.2])), (u.1.2.2.2, .inl (y.2.1, 100, .inr (.inl (fun _ => 0))))] ++ u.2.1) u)) A) ([.ref h0, .ref a1, .ref a2] : List Value).toArray s 72 2623 A) (F0 m 72 ls []) := by
    intro a d
    induction d with
    | zero =>
      intro i hi d1 d2 pl H locs ls hP hD hS hlen hcl hlv hl
      have : i = 23 := by omega
      subst this
      refine lv_iload_n hx hb dX6_init_72 rfl (lv_at hl 0 rfl) ?_
      refine lv_bipush (v := (23)) hx hb dX6_init_73 (by decide) ?_
      refine lv_icmp_ge (tgt := 97) hx hb dX6_init_75 (by decide) (fun _ => ?_) (fun b => absurd (by decide) b)
      refine W.widen (k := 72) (n := 2623) (by omega) (by omega) ?_
      exact W.vret hx hb hr (fun t ht hW => ⟨⟨((q_1, q_2, q_3, q_4), pl, a, d1, d2), rfl, ⟨hlen, hcl, hlv⟩, by dsimp only; rw [ht]; exact ⟨hP, hD⟩⟩, hS.F ht⟩) hS.2.2 dX6_init_97
    | succ d ih =>
      intro i hi d1 d2 pl H locs ls hP hD hS hlen hcl hlv hl
      have hlt : i < 23 := by omega
      refine lv_iload_n hx hb dX6_init_72 rfl (lv_at hl 0 rfl) ?_
      refine lv_bipush (v := (23)) hx hb dX6_init_73 (by decide) ?_
      refine lv_icmp_ge (tgt := 97) hx hb dX6_init_75 (by decide) (fun b => absurd b (by show ¬ nI 23 ≤ nI i; rw [nI_leI (by omega) (by omega)]; omega)) (fun _ => ?_)
      refine lv_aload_n hx hb dX6_init_78 rfl (lv_at hl 1 rfl) ?_
      refine va_get (tys := tysY y) (ci := 6) (v := .ref q_2) (C := RX6) (T := TX6) (N := 10) hx hb hts (by decide +kernel) hown hK hP 0 rfl rfl 4 (by decide) (hts (.fieldLink RX6 19 "JoinedTheories$Solver" "levels" "[LJoinedTheories$Distances;") (by decide +kernel)) (fun _ h9 => h9) rfl dX6_init_79 ?_
      refine lv_iload_n hx hb dX6_init_82 rfl (lv_at hl 0 rfl) ?_
      refine va_new (ci := 1) (fs := [.null]) (C := RX1) (T := TX1) (N := 1) hx hb hts (by decide +kernel) tyX1 tyX1_ok hown (hts (.classLink RX6 17 RX1) (by decide +kernel)) (hts (.instantiable RX1 1) (by decide +kernel)) (hts (.initialized RX1) (by decide +kernel)) hK hP hD hS hA rfl (fun j hj => by rcases (show j = 0 by omega) with rfl <;> rfl) (show 26 + 2 * i + 1 ≤ 72 by omega) (show 300 + 101 * i + 1 ≤ 2623 by omega) dX6_init_83 (fun q_5 H hP hD hS => ?_)
      refine lv_dup hx hb dX6_init_86 rfl ?_
      have hk5 : ([(h0, .inr (6, [.ref a1, .ref a2, .ref q_1, .int 0, .ref q_2, .ref q_3, .int 0, .int 0, .int 0, .int 0])), (q_1, .inl (y.2.2.1, 22, .inr (.inr (.inr (.inr (fun j => if j < 22 then some (a j) else none)))))), (q_2, .inl (y.2.2.2, 23, .inr (.inr (.inr (.inr (fun j => if j < i then some (d1 j) else none)))))), (q_3, .inr (1, [.ref q_4])), (q_4, .inl (y.2.1, 100, .inr (.inl (fun _ => 0))))] ++ pl ++ [(q_5, .inr (1, [.null]))])[27 + 2 * i]? = some (q_5, .inr (1, [.null])) := at_end (by simp [hlen] <;> omega)
      refine k_call (va_runIN (As := []) (rest := [.ref q_5, .int (nI i), .ref q_2]) ⟨hx, hb, hml, hown, hts⟩ (c_X1_init l D y q_5 H.size) ⟨va_cnB 0 hts gX6_init_X1_init_n23 rfl rfl rfl hN.1.2.2.2.1 (hts (.initialized RX1) (by decide +kernel)) (by decide +kernel) ⟨(Nat.le_of_ble_eq_true rfl), (Nat.le_of_ble_eq_true rfl)⟩, rfl, hts (.instanceMethod yX1_init) (by decide +kernel)⟩ (CP.preS hP hK hN (27 + 2 * i) hk5) rfl rfl hl.1 rfl (lv_room (Nat.le_of_ble_eq_true rfl)) dX6_init_87 ⟨show 26 + 2 * i + 1 + 1 ≤ 72 by omega, show 300 + 101 * i + 1 + 100 ≤ 2623 by omega⟩) hP hD hS hA (27 + 2 * i) hk5 (fun q_6 H locs hp hP hD hS => ?_)
      rw [set_end (by simp [hlen] <;> omega), List.append_assoc, List.append_assoc] at hP hD
      have hP : va_P D vwCl ([(h0, .inr (6, [.ref a1, .ref a2, .ref q_1, .int 0, .ref q_2, .ref q_3, .int 0, .int 0, .int 0, .int 0])), (q_1, .inl (y.2.2.1, 22, .inr (.inr (.inr (.inr (fun j => if j < 22 then some (a j) else none)))))), (q_2, .inl (y.2.2.2, 23, .inr (.inr (.inr (.inr (fun j => if j < i then some (d1 j) else none)))))), (q_3, .inr (1, [.ref q_4])), (q_4, .inl (y.2.1, 100, .inr (.inl (fun _ => 0))))] ++ (pl ++ [(q_5, .inr (1, [.ref q_6])), (q_6, .inl (y.2.1, 100, .inr (.inl (fun _ => 0))))])) H := hP
      have hD : va_D A ([(h0, .inr (6, [.ref a1, .ref a2, .ref q_1, .int 0, .ref q_2, .ref q_3, .int 0, .int 0, .int 0, .int 0])), (q_1, .inl (y.2.2.1, 22, .inr (.inr (.inr (.inr (fun j => if j < 22 then some (a j) else none)))))), (q_2, .inl (y.2.2.2, 23, .inr (.inr (.inr (.inr (fun j => if j < i then some (d1 j) else none)))))), (q_3, .inr (1, [.ref q_4])), (q_4, .inl (y.2.1, 100, .inr (.inl (fun _ => 0))))] ++ (pl ++ [(q_5, .inr (1, [.ref q_6])), (q_6, .inl (y.2.1, 100, .inr (.inl (fun _ => 0))))])) := hD
      have hk6 : ([(h0, .inr (6, [.ref a1, .ref a2, .ref q_1, .int 0, .ref q_2, .ref q_3, .int 0, .int 0, .int 0, .int 0])), (q_1, .inl (y.2.2.1, 22, .inr (.inr (.inr (.inr (fun j => if j < 22 then some (a j) else none)))))), (q_2, .inl (y.2.2.2, 23, .inr (.inr (.inr (.inr (fun j => if j < i then some (d1 j) else none)))))), (q_3, .inr (1, [.ref q_4])), (q_4, .inl (y.2.1, 100, .inr (.inl (fun _ => 0))))] ++ (pl ++ [(q_5, .inr (1, [.ref q_6])), (q_6, .inl (y.2.1, 100, .inr (.inl (fun _ => 0))))]))[27 + 2 * i]? = some (q_5, .inr (1, [.ref q_6])) := at_in (by simp [hlen] <;> omega)
      refine va_astq (tys := tysY y) hx hb hK hP hD hS 2 3 (27 + 2 * i) 1 rfl rfl hk6 rfl (nI_bad (by omega) (by omega)) dX6_init_90 (fun H locs hP hD hS => ?_)
      have ef : va_up (fun j => if j < i then some (d1 j) else none) (nI i).toNatClampNeg (some q_5) = (fun j => if j < i + 1 then some ((fun j => if j = i then q_5 else d1 j) j) else none) := by
        rw [nI_c (by omega)]; funext j; unfold va_up
        by_cases e : j = i
        · simp [e]
        · by_cases e2 : j < i
          · simp [e, e2, show j < i + 1 by omega]
          · simp [e, e2, show ¬ j < i + 1 by omega]
      have hP : va_P D vwCl ([(h0, .inr (6, [.ref a1, .ref a2, .ref q_1, .int 0, .ref q_2, .ref q_3, .int 0, .int 0, .int 0, .int 0])), (q_1, .inl (y.2.2.1, 22, .inr (.inr (.inr (.inr (fun j => if j < 22 then some (a j) else none)))))), (q_2, .inl (y.2.2.2, 23, .inr (.inr (.inr (.inr (va_up (fun j => if j < i then some (d1 j) else none) (nI i).toNatClampNeg (some q_5))))))), (q_3, .inr (1, [.ref q_4])), (q_4, .inl (y.2.1, 100, .inr (.inl (fun _ => 0))))] ++ (pl ++ [(q_5, .inr (1, [.ref q_6])), (q_6, .inl (y.2.1, 100, .inr (.inl (fun _ => 0))))])) H := hP
      have hD : va_D A ([(h0, .inr (6, [.ref a1, .ref a2, .ref q_1, .int 0, .ref q_2, .ref q_3, .int 0, .int 0, .int 0, .int 0])), (q_1, .inl (y.2.2.1, 22, .inr (.inr (.inr (.inr (fun j => if j < 22 then some (a j) else none)))))), (q_2, .inl (y.2.2.2, 23, .inr (.inr (.inr (.inr (va_up (fun j => if j < i then some (d1 j) else none) (nI i).toNatClampNeg (some q_5))))))), (q_3, .inr (1, [.ref q_4])), (q_4, .inl (y.2.1, 100, .inr (.inl (fun _ => 0))))] ++ (pl ++ [(q_5, .inr (1, [.ref q_6])), (q_6, .inl (y.2.1, 100, .inr (.inl (fun _ => 0))))])) := hD
      rw [ef] at hP hD
      refine lv_iinc (v := nI (i + 1)) (lv' := [(3, .int (nI (i + 1))), (0, .ref h0), (1, .ref a1), (2, .ref a2)]) hx hb dX6_init_91 hl (k := 0) rfl (nI_1 i) (by decide) rfl (fun ls hl => ?_)
      refine lv_goto (tgt := 72) hx hb dX6_init_94 (by decide) ?_
      refine W.widen (k := 26 + 2 * (i + 1)) (n := 300 + 101 * (i + 1)) (by omega) (by omega) ?_
      refine ih (i + 1) (by omega) (fun j => if j = i then q_5 else d1 j) (fun j => if j = i then q_6 else d2 j) _ H locs ls hP hD hS (by simp [hlen] <;> omega) (fun j hj => ?_) (fun j hj => ?_) hl
      · rw [List.getElem?_append_left (by omega)]; exact hcl j hj
      · by_cases e : j = i
        · subst e
          simp only [if_true]
          refine ⟨?_, ?_⟩
          · rw [List.getElem?_append_right (by omega), hlen]; simp
          · rw [List.getElem?_append_right (by omega), hlen, show 22 + 2 * j + 1 - (22 + 2 * j) = 1 by omega]; rfl
        · simp only [if_neg e]
          obtain ⟨x1, x2⟩ := hlv j (by omega)
          exact ⟨by rw [List.getElem?_append_left (by omega)]; exact x1, by rw [List.getElem?_append_left (by omega)]; exact x2⟩
  have loop1 : ∀ (d i : Nat), d + i = 22 → ∀ (a : Nat → Nat) (pl : va_W) (H : Heap) (locs : List Loc) (ls : Array Slot), va_P D vwCl ([(h0, .inr (6, [.ref a1, .ref a2, .ref q_1, .int 0, .ref q_2, .ref q_3, .int 0, .int 0, .int 0, .int 0])), (q_1, .inl (y.2.2.1, 22, .inr (.inr (.inr (.inr (fun j => if j < i then some (a j) else none)))))), (q_2, .inl (y.2.2.2, 23, .inr (.inr (.inr (.inr (fun _ => none)))))), (q_3, .inr (1, [.ref q_4])), (q_4, .inl (y.2.1, 100, .inr (.inl (fun _ => 0))))] ++ pl) H → va_D A ([(h0, .inr (6, [.ref a1, .ref a2, .ref q_1, .int 0, .ref q_2, .ref q_3, .int 0, .int 0, .int 0, .int 0])), (q_1, .inl (y.2.2.1, 22, .inr (.inr (.inr (.inr (fun j => if j < i then some (a j) else none)))))), (q_2, .inl (y.2.2.2, 23, .inr (.inr (.inr (.inr (fun _ => none)))))), (q_3, .inr (1, [.ref q_4])), (q_4, .inl (y.2.1, 100, .inr (.inl (fun _ => 0))))] ++ pl) → va_S A s.heap H locs → pl.length = i → (∀ j, j < i → pl[j]? = some (a j, .inr (0, [.int 0, .int 0, .int 0, .int 0, .int 0, .int 0, .int 0]))) → lv_has ls 4 [(3, .int (nI i)), (0, .ref h0), (1, .ref a1), (2, .ref a2)] → W p l e (headSpec wsX6_init ({ frames := 2, cells := 72, slots := 2623, locals := 32 })).room s m ([.ref h0, .ref a1, .ref a2] : List Value).toArray below meth c H locs (4 + i) (146 + 7 * i) (MQ below (va_Qv (SvP y) (fun u t => va_P D vwCl ((h0, (fun u => .inr (6, [.ref a1, .ref a2, .ref u.1.1, .int 0, .ref u.1.2.1, .ref u.1.2.2.1, .int 0, .int 0, .int 0, .int 0])) u) :: (fun u => [(u.1.1, .inl (y.2.2.1, 22, .inr (.inr (.inr (.inr (fun j => if j < 22 then some (u.2.2.1 j) else none)))))), (u.1.2.1, .inl (y.2.2.2, 23, .inr (.inr (.inr (.inr (fun j => if j < 23 then some (u.2.2.2.1 j) else none)))))), (u.1.2.2.1, .inr (1, [.ref u.1.2.2.2])), (u.1.2.2.2, .inl (y.2.1, 100, .inr (.inl (fun _ => 0))))] ++ u.2.1) u) t.heap ∧ va_D A ((h0, (fun u => .inr (6, [.ref a1, .ref a2, .ref u.1.1, .int 0, .ref u.1.2.1, .ref u.1.2.2.1, .int 0, .int 0, .int 0, .int 0])) u) :: (fun u => [(u.1.1, .inl (y.2.2.1, 22, .inr (.inr (.inr (.inr (fun j => if j < 22 then some (u.2.2.1 j) else none)))))), (u.1.2.1, .inl (y.2.2.2, 23, .inr (.inr (.inr (.inr (fun j => if j < 23 then some (u.2.2.2.1 j) else none)))))), (u.1.2.2.1, .inr (1, [.ref u.1.2.2.2])), (u.1.2.2.2, .inl (y.2.1, 100, .inr (.inl (fun _ => 0))))] ++ u.2.1) u)) A) ([.ref h0, .ref a1, .ref a2] : List Value).toArray s 72 2623 A) (F0 m 45 ls []) := by
    intro d
    induction d with
    | zero =>
      intro i hi a pl H locs ls hP hD hS hlen hcl hl
      have : i = 22 := by omega
      subst this
      refine lv_iload_n hx hb dX6_init_45 rfl (lv_at hl 0 rfl) ?_
      refine lv_bipush (v := (22)) hx hb dX6_init_46 (by decide) ?_
      refine lv_icmp_ge (tgt := 70) hx hb dX6_init_48 (by decide) (fun _ => ?_) (fun b => absurd (by decide) b)
      refine lv_iconst (v := 0) hx hb dX6_init_70 (by decide) ?_
      refine lv_istore_n (lv' := [(3, .int 0), (0, .ref h0), (1, .ref a1), (2, .ref a2)]) hx hb dX6_init_71 rfl hl (by decide) rfl (fun ls hl => ?_)
      refine W.widen (k := 26 + 2 * 0) (n := 300 + 101 * 0) (by omega) (by omega) ?_
      have z0 : (fun j => if j < 0 then some ((fun _ => 0 : Nat → Nat) j) else none) = fun _ => (none : Option Nat) := by funext j; rw [if_neg (by omega)]
      exact loop2 a 23 0 rfl (fun _ => 0) (fun _ => 0) pl H locs ls (by rw [z0]; exact hP) (by rw [z0]; exact hD) hS hlen hcl (fun j hj => by omega) hl
    | succ d ih =>
      intro i hi a pl H locs ls hP hD hS hlen hcl hl
      have hlt : i < 22 := by omega
      refine lv_iload_n hx hb dX6_init_45 rfl (lv_at hl 0 rfl) ?_
      refine lv_bipush (v := (22)) hx hb dX6_init_46 (by decide) ?_
      refine lv_icmp_ge (tgt := 70) hx hb dX6_init_48 (by decide) (fun b => absurd b (by show ¬ nI 22 ≤ nI i; rw [nI_leI (by omega) (by omega)]; omega)) (fun _ => ?_)
      refine lv_aload_n hx hb dX6_init_51 rfl (lv_at hl 1 rfl) ?_
      refine va_get (tys := tysY y) (ci := 6) (v := .ref q_1) (C := RX6) (T := TX6) (N := 10) hx hb hts (by decide +kernel) hown hK hP 0 rfl rfl 2 (by decide) (hts (.fieldLink RX6 13 "JoinedTheories$Solver" "clauses" "[LJoinedTheories$Clause;") (by decide +kernel)) (fun _ h9 => h9) rfl dX6_init_52 ?_
      refine lv_iload_n hx hb dX6_init_55 rfl (lv_at hl 0 rfl) ?_
      refine va_new (ci := 0) (fs := [.int 0, .int 0, .int 0, .int 0, .int 0, .int 0, .int 0]) (C := RX0) (T := TX0) (N := 7) hx hb hts (by decide +kernel) tyX0 tyX0_ok hown (hts (.classLink RX6 11 RX0) (by decide +kernel)) (hts (.instantiable RX0 7) (by decide +kernel)) (hts (.initialized RX0) (by decide +kernel)) hK hP hD hS hA rfl (fun j hj => by rcases (show j = 0 ∨ j = 1 ∨ j = 2 ∨ j = 3 ∨ j = 4 ∨ j = 5 ∨ j = 6 by omega) with rfl | rfl | rfl | rfl | rfl | rfl | rfl <;> rfl) (show 4 + i + 1 ≤ 72 by omega) (show 146 + 7 * i + 7 ≤ 2623 by omega) dX6_init_56 (fun q_5 H hP hD hS => ?_)
      refine lv_dup hx hb dX6_init_59 rfl ?_
      have hk5 : ([(h0, .inr (6, [.ref a1, .ref a2, .ref q_1, .int 0, .ref q_2, .ref q_3, .int 0, .int 0, .int 0, .int 0])), (q_1, .inl (y.2.2.1, 22, .inr (.inr (.inr (.inr (fun j => if j < i then some (a j) else none)))))), (q_2, .inl (y.2.2.2, 23, .inr (.inr (.inr (.inr (fun _ => none)))))), (q_3, .inr (1, [.ref q_4])), (q_4, .inl (y.2.1, 100, .inr (.inl (fun _ => 0))))] ++ pl ++ [(q_5, .inr (0, [.int 0, .int 0, .int 0, .int 0, .int 0, .int 0, .int 0]))])[5 + i]? = some (q_5, .inr (0, [.int 0, .int 0, .int 0, .int 0, .int 0, .int 0, .int 0])) := at_end (by simp [hlen] <;> omega)
      refine k_call (va_runIN (As := []) (rest := [.ref q_5, .int (nI i), .ref q_1]) ⟨hx, hb, hml, hown, hts⟩ (c_X0_init l D y q_5 H.size) ⟨va_cnB 0 hts gX6_init_X0_init_n36 rfl rfl rfl hN.1.2.2.2.2 (hts (.initialized RX0) (by decide +kernel)) (by decide +kernel) ⟨(Nat.le_of_ble_eq_true rfl), (Nat.le_of_ble_eq_true rfl)⟩, rfl, hts (.instanceMethod yX0_init) (by decide +kernel)⟩ (CP.preS hP hK hN (5 + i) hk5) rfl rfl hl.1 rfl (lv_room (Nat.le_of_ble_eq_true rfl)) dX6_init_60 ⟨show 4 + i + 1 + 0 ≤ 72 by omega, show 146 + 7 * i + 7 + 0 ≤ 2623 by omega⟩) hP hD hS hA (5 + i) hk5 (fun u H locs hp hP hD hS => ?_)
      rw [set_end (by simp [hlen] <;> omega), List.append_nil, List.append_assoc] at hP hD
      have hP : va_P D vwCl ([(h0, .inr (6, [.ref a1, .ref a2, .ref q_1, .int 0, .ref q_2, .ref q_3, .int 0, .int 0, .int 0, .int 0])), (q_1, .inl (y.2.2.1, 22, .inr (.inr (.inr (.inr (fun j => if j < i then some (a j) else none)))))), (q_2, .inl (y.2.2.2, 23, .inr (.inr (.inr (.inr (fun _ => none)))))), (q_3, .inr (1, [.ref q_4])), (q_4, .inl (y.2.1, 100, .inr (.inl (fun _ => 0))))] ++ (pl ++ [(q_5, .inr (0, [.int 0, .int 0, .int 0, .int 0, .int 0, .int 0, .int 0]))])) H := hP
      have hD : va_D A ([(h0, .inr (6, [.ref a1, .ref a2, .ref q_1, .int 0, .ref q_2, .ref q_3, .int 0, .int 0, .int 0, .int 0])), (q_1, .inl (y.2.2.1, 22, .inr (.inr (.inr (.inr (fun j => if j < i then some (a j) else none)))))), (q_2, .inl (y.2.2.2, 23, .inr (.inr (.inr (.inr (fun _ => none)))))), (q_3, .inr (1, [.ref q_4])), (q_4, .inl (y.2.1, 100, .inr (.inl (fun _ => 0))))] ++ (pl ++ [(q_5, .inr (0, [.int 0, .int 0, .int 0, .int 0, .int 0, .int 0, .int 0]))])) := hD
      have hk6 : ([(h0, .inr (6, [.ref a1, .ref a2, .ref q_1, .int 0, .ref q_2, .ref q_3, .int 0, .int 0, .int 0, .int 0])), (q_1, .inl (y.2.2.1, 22, .inr (.inr (.inr (.inr (fun j => if j < i then some (a j) else none)))))), (q_2, .inl (y.2.2.2, 23, .inr (.inr (.inr (.inr (fun _ => none)))))), (q_3, .inr (1, [.ref q_4])), (q_4, .inl (y.2.1, 100, .inr (.inl (fun _ => 0))))] ++ (pl ++ [(q_5, .inr (0, [.int 0, .int 0, .int 0, .int 0, .int 0, .int 0, .int 0]))]))[5 + i]? = some (q_5, .inr (0, [.int 0, .int 0, .int 0, .int 0, .int 0, .int 0, .int 0])) := at_in (by simp [hlen] <;> omega)
      refine va_astq (tys := tysY y) hx hb hK hP hD hS 1 2 (5 + i) 0 rfl rfl hk6 rfl (nI_bad (by omega) (by omega)) dX6_init_63 (fun H locs hP hD hS => ?_)
      have ef : va_up (fun j => if j < i then some (a j) else none) (nI i).toNatClampNeg (some q_5) = (fun j => if j < i + 1 then some ((fun j => if j = i then q_5 else a j) j) else none) := by
        rw [nI_c (by omega)]; funext j; unfold va_up
        by_cases e : j = i
        · simp [e]
        · by_cases e2 : j < i
          · simp [e, e2, show j < i + 1 by omega]
          · simp [e, e2, show ¬ j < i + 1 by omega]
      have hP : va_P D vwCl ([(h0, .inr (6, [.ref a1, .ref a2, .ref q_1, .int 0, .ref q_2, .ref q_3, .int 0, .int 0, .int 0, .int 0])), (q_1, .inl (y.2.2.1, 22, .inr (.inr (.inr (.inr (va_up (fun j => if j < i then some (a j) else none) (nI i).toNatClampNeg (some q_5))))))), (q_2, .inl (y.2.2.2, 23, .inr (.inr (.inr (.inr (fun _ => none)))))), (q_3, .inr (1, [.ref q_4])), (q_4, .inl (y.2.1, 100, .inr (.inl (fun _ => 0))))] ++ (pl ++ [(q_5, .inr (0, [.int 0, .int 0, .int 0, .int 0, .int 0, .int 0, .int 0]))])) H := hP
      have hD : va_D A ([(h0, .inr (6, [.ref a1, .ref a2, .ref q_1, .int 0, .ref q_2, .ref q_3, .int 0, .int 0, .int 0, .int 0])), (q_1, .inl (y.2.2.1, 22, .inr (.inr (.inr (.inr (va_up (fun j => if j < i then some (a j) else none) (nI i).toNatClampNeg (some q_5))))))), (q_2, .inl (y.2.2.2, 23, .inr (.inr (.inr (.inr (fun _ => none)))))), (q_3, .inr (1, [.ref q_4])), (q_4, .inl (y.2.1, 100, .inr (.inl (fun _ => 0))))] ++ (pl ++ [(q_5, .inr (0, [.int 0, .int 0, .int 0, .int 0, .int 0, .int 0, .int 0]))])) := hD
      rw [ef] at hP hD
      refine lv_iinc (v := nI (i + 1)) (lv' := [(3, .int (nI (i + 1))), (0, .ref h0), (1, .ref a1), (2, .ref a2)]) hx hb dX6_init_64 hl (k := 0) rfl (nI_1 i) (by decide) rfl (fun ls hl => ?_)
      refine lv_goto (tgt := 45) hx hb dX6_init_67 (by decide) ?_
      refine W.widen (k := 4 + (i + 1)) (n := 146 + 7 * (i + 1)) (by omega) (by omega) ?_
      refine ih (i + 1) (by omega) (fun j => if j = i then q_5 else a j) _ H locs ls hP hD hS (by simp [hlen]) (fun j hj => ?_) hl
      by_cases e : j = i
      · subst e
        simp only [if_true]
        rw [List.getElem?_append_right (by omega), hlen]; simp
      · simp only [if_neg e]
        rw [List.getElem?_append_left (by omega)]; exact hcl j (by omega)
  refine lv_iconst (v := 0) hx hb dX6_init_43 (by decide) ?_
  refine lv_istore_n (lv' := [(3, .int 0), (0, .ref h0), (1, .ref a1), (2, .ref a2)]) hx hb dX6_init_44 rfl hl (by decide) rfl (fun ls hl => ?_)
  refine W.widen (k := 4 + 0) (n := 146 + 7 * 0) (Nat.le_of_ble_eq_true rfl) (Nat.le_of_ble_eq_true rfl) ?_
  have z0 : (fun j => if j < 0 then some ((fun _ => 0 : Nat → Nat) j) else none) = fun _ => (none : Option Nat) := by funext j; rw [if_neg (by omega)]
  exact loop1 22 0 rfl (fun _ => 0) [] H locs ls (by rw [z0, List.append_nil]; exact hP) (by rw [z0, List.append_nil]; exact hD) hS rfl (fun j hj => by omega) hl
