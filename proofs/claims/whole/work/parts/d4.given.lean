/-! WHAT THE TABLES AND THE START GIVE (made by genstart.py) -/
set_option maxHeartbeats 4000000 in
set_option maxRecDepth 100000 in
theorem lw_K {s : State} {args : Array Value} (hts : ∀ w ∈ lw_tbl, w.before args s = true) : ∃ (D : va_G) (y : y4), va_K D vwCl (tysY y) s := by
  obtain ⟨c0, i0, K0⟩ := u_known (C := RX0) (T := TX0) (N := 7) (n := 7) hts uw_wsX00 (hts (.instantiable RX0 7) (by decide +kernel))
  obtain ⟨c1, i1, K1⟩ := u_known (C := RX1) (T := TX1) (N := 1) (n := 1) hts uw_wsX10 (hts (.instantiable RX1 1) (by decide +kernel))
  obtain ⟨c2, i2, K2⟩ := u_known (C := RX2) (T := TX2) (N := 6) (n := 6) hts uw_wsX20 (hts (.instantiable RX2 6) (by decide +kernel))
  obtain ⟨c3, i3, K3⟩ := u_known (C := RX3) (T := TX3) (N := 5) (n := 5) hts uw_wsX30 (hts (.instantiable RX3 5) (by decide +kernel))
  obtain ⟨c4, i4, K4⟩ := u_known (C := RX4) (T := TX4) (N := 4) (n := 4) hts uw_wsX40 (hts (.instantiable RX4 4) (by decide +kernel))
  obtain ⟨c5, i5, K5⟩ := u_known (C := RX5) (T := TX5) (N := 10) (n := 10) hts uw_wsX50 (hts (.instantiable RX5 10) (by decide +kernel))
  obtain ⟨c6, i6, K6⟩ := u_known (C := RX6) (T := TX6) (N := 10) (n := 10) hts uw_wsX60 (hts (.instantiable RX6 10) (by decide +kernel))
  obtain ⟨c7, i7, K7⟩ := u_known (C := RX7) (T := TX7) (N := 5) (n := 5) hts uw_wsX70 (hts (.instantiable RX7 5) (by decide +kernel))
  obtain ⟨c8, i8, K8⟩ := u_known (C := RX8) (T := TX8) (N := 16) (n := 16) hts uw_wsX80 (hts (.instantiable RX8 16) (by decide +kernel))
  obtain ⟨c9, i9, K9⟩ := u_known (C := RX9) (T := TX9) (N := 48) (n := 48) hts uw_wsX90 (hts (.instantiable RX9 48) (by decide +kernel))
  obtain ⟨yI, kI, pI, fI1, fI2, fI3⟩ := Cond.arrayClass_spec (hts (.arrayClass .int) (by decide +kernel))
  obtain ⟨yJ, kJ, pJ, fJ1, fJ2, fJ3⟩ := Cond.arrayClass_spec (hts (.arrayClass .long) (by decide +kernel))
  obtain ⟨pC, yC, kC, fC1, -, fC2, fC3, fC4⟩ := Cond.arrayOver_spec (hts (.arrayOver (.object "JoinedTheories$Clause")) (by decide +kernel))
  obtain ⟨pD, yD, kD, fD1, -, fD2, fD3, fD4⟩ := Cond.arrayOver_spec (hts (.arrayOver (.object "JoinedTheories$Distances")) (by decide +kernel))
  refine ⟨(fun k => [c0, c1, c2, c3, c4, c5, c6, c7, c8, c9].getD k c0, fun k => [i0, i1, i2, i3, i4, i5, i6, i7, i8, i9].getD k i0), (yI, yJ, yC, yD), fun k q hq => ?_, fun k q hq => ?_⟩
  · have hk : k < 10 := (List.getElem?_eq_some_iff.mp hq).1
    match k, hk, hq with
    | 0, _, hq => cases hq; exact K0
    | 1, _, hq => cases hq; exact K1
    | 2, _, hq => cases hq; exact K2
    | 3, _, hq => cases hq; exact K3
    | 4, _, hq => cases hq; exact K4
    | 5, _, hq => cases hq; exact K5
    | 6, _, hq => cases hq; exact K6
    | 7, _, hq => cases hq; exact K7
    | 8, _, hq => cases hq; exact K8
    | 9, _, hq => cases hq; exact K9
  · have hk : k < 4 := (List.getElem?_eq_some_iff.mp hq).1
    match k, hk, hq with
    | 0, _, hq => cases hq; exact ⟨fun N z => ⟨(fun k h => by cases h), kI, fI2, pI, fI3⟩, fI1⟩
    | 1, _, hq => cases hq; exact ⟨fun N z => ⟨(fun k h => by cases h), kJ, fJ2, pJ, fJ3⟩, fJ1⟩
    | 2, _, hq => cases hq; exact ⟨fun N z => ⟨(fun k h => by cases h), kC, fC2, pC, fC3⟩, kC, pC, fC2, fC3, fC1, fC4⟩
    | 3, _, hq => cases hq; exact ⟨fun N z => ⟨(fun k h => by cases h), kD, fD2, pD, fD3⟩, kD, pD, fD2, fD3, fD1, fD4⟩
theorem lw_NX {s : State} {args : Array Value} (hts : ∀ w ∈ lw_tbl, w.before args s = true) : NX s :=
  ⟨⟨va_Nw.of rfl (hts nwR (by decide +kernel)), va_Nw.of rfl (hts nwT (by decide +kernel)), va_Nw.of rfl (hts nwE (by decide +kernel)), va_Nw.of rfl (hts nwS (by decide +kernel)), va_Nw.of rfl (hts nwC (by decide +kernel))⟩, va_AO.of (hts (.arrayOver (.object "JoinedTheories$Clause")) (by decide +kernel)), va_AO.of (hts (.arrayOver (.object "JoinedTheories$Distances")) (by decide +kernel))⟩
theorem lw_loF : ∀ j, j < 10 → Cond.eq (.elem (.static "JoinedTheories" "LOWER" "[I") (.int (Int32.ofNat j))) (.int (loF j)) ∈ flatC (Jvm.Cond.and given_1 narrow_1) := by decide +kernel
theorem lw_upF : ∀ j, j < 10 → Cond.eq (.elem (.static "JoinedTheories" "UPPER" "[I") (.int (Int32.ofNat j))) (.int (upF j)) ∈ flatC (Jvm.Cond.and given_1 narrow_1) := by decide +kernel
theorem lw_Z0 {s : State} {args : Array Value} (hts : ∀ w ∈ lw_tbl, w.before args s = true) (hgv : (Jvm.Cond.and given_1 narrow_1).before args s = true) : ∃ aL aU, ZB s.heap.size aL aU s s.heap := by
  have hf := flat_of_before _ hgv
  have nA : ∀ a : Nat, a < s.heap.size → ¬ (fun q : Nat => s.heap.size ≤ q) a := fun a h => Nat.not_le.mpr h
  obtain ⟨aL, eL, tL⟩ := va_Tof (tm := .static "JoinedTheories" "LOWER" "[I") (ty := .int) (N := 10) (f := fun j => .int (loF j)) (A := fun q : Nat => s.heap.size ≤ q) (by decide) (hf (.arrayOf (.static "JoinedTheories" "LOWER" "[I") .int) (by decide +kernel)) (va_eqt (hf (.eq (.length (.static "JoinedTheories" "LOWER" "[I")) (.int 10)) (by decide +kernel))) (fun j hj => va_eqt (hf _ (lw_loF j hj))) nA
  obtain ⟨aU, eU, tU⟩ := va_Tof (tm := .static "JoinedTheories" "UPPER" "[I") (ty := .int) (N := 10) (f := fun j => .int (upF j)) (A := fun q : Nat => s.heap.size ≤ q) (by decide) (hf (.arrayOf (.static "JoinedTheories" "UPPER" "[I") .int) (by decide +kernel)) (va_eqt (hf (.eq (.length (.static "JoinedTheories" "UPPER" "[I")) (.int 10)) (by decide +kernel))) (fun j hj => va_eqt (hf _ (lw_upF j hj))) nA
  refine ⟨aL, aU, ⟨va_Zref (hts (.laysStatic "JoinedTheories" "LOWER" "[I") (by decide +kernel)) (hts (.initialized "JoinedTheories") (by decide +kernel)) eL nA, tL⟩, ⟨va_Zref (hts (.laysStatic "JoinedTheories" "UPPER" "[I") (by decide +kernel)) (hts (.initialized "JoinedTheories") (by decide +kernel)) eU nA, tU⟩, va_Nw.of rfl (hts nwL (by decide +kernel)), va_Nw.of rfl (hts nwU (by decide +kernel))⟩
