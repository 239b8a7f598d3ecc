/-! what the generated texts use -/
def isC (q : Nat) : Prop := 50 ≤ q ∧ q < 72
def isD (q : Nat) : Prop := 72 ≤ q ∧ q < 97
def isT (q : Nat) : Prop := q = 6 ∨ q = 11
def isA (q : Nat) : Prop := 97 ≤ q ∧ q < 122
theorem tC {q : Nat} (h : isC q) : q < 122 ∧ lyT q = (0, 0, [0, 0, 0, 0, 0, 0, 0]) := by
  obtain ⟨h1, h2⟩ := h
  refine ⟨by omega, ?_⟩
  unfold lyT
  rw [if_neg (by omega), if_neg (by omega), if_pos h1]
theorem tD {q : Nat} (h : isD q) : q < 122 ∧ lyT q = (0, 1, [2]) := by
  obtain ⟨h1, h2⟩ := h
  refine ⟨by omega, ?_⟩
  unfold lyT
  rw [if_neg (by omega), if_pos h1]
theorem tA {q : Nat} (h : isA q) : q < 122 ∧ lyT q = (2, 100, []) := by
  obtain ⟨h1, h2⟩ := h
  refine ⟨h2, ?_⟩
  unfold lyT
  rw [if_pos h1]
theorem tT {q : Nat} (h : isT q) : q < 122 ∧ lyT q = (0, 7, [2, 2, 2, 2, 0]) := by rcases h with rfl | rfl <;> decide
theorem tT0 {q : Nat} (h : isT q) : (q + 1) < 122 ∧ lyT (q + 1) = (1, 10, []) := by rcases h with rfl | rfl <;> decide
theorem tT1 {q : Nat} (h : isT q) : (q + 2) < 122 ∧ lyT (q + 2) = (1, 10, []) := by rcases h with rfl | rfl <;> decide
theorem tT2 {q : Nat} (h : isT q) : (q + 3) < 122 ∧ lyT (q + 3) = (1, 10, []) := by rcases h with rfl | rfl <;> decide
theorem tT3 {q : Nat} (h : isT q) : (q + 4) < 122 ∧ lyT (q + 4) = (1, 10, []) := by rcases h with rfl | rfl <;> decide
theorem rT0 {q : Nat} (h : isT q) : lyR q 0 = (q + 1) := by rcases h with rfl | rfl <;> decide
theorem rT1 {q : Nat} (h : isT q) : lyR q 1 = (q + 2) := by rcases h with rfl | rfl <;> decide
theorem rT2 {q : Nat} (h : isT q) : lyR q 2 = (q + 3) := by rcases h with rfl | rfl <;> decide
theorem rT3 {q : Nat} (h : isT q) : lyR q 3 = (q + 4) := by rcases h with rfl | rfl <;> decide
theorem rD {q : Nat} (h : isD q) : lyR q 0 = (q + 25) := by unfold lyR; rw [if_pos h.1]
theorem aD {q : Nat} (h : isD q) : isA (q + 25) := ⟨by have := h.1; omega, by have := h.2; omega⟩
theorem isC_of {i : Int32} (h : ¬ (i < 0 ∨ 22 ≤ i.toNatClampNeg)) : isC (50 + i.toNatClampNeg) := by
  have := fun x => h (Or.inr x)
  exact ⟨by omega, by omega⟩
theorem isD_of {i : Int32} (h : ¬ (i < 0 ∨ 23 ≤ i.toNatClampNeg)) : isD (72 + i.toNatClampNeg) := by
  have := fun x => h (Or.inr x)
  exact ⟨by omega, by omega⟩
theorem isT6 : isT 6 := Or.inl rfl
theorem isT11 : isT 11 := Or.inr rfl
theorem isD95 : isD 95 := ⟨by decide, by decide⟩
theorem isD96 : isD 96 := ⟨by decide, by decide⟩
theorem isA120 : isA 120 := ⟨by decide, by decide⟩
theorem isA121 : isA 121 := ⟨by decide, by decide⟩
theorem zok {v : Int32} (hv : ¬ ¬ (v = 0 ∨ v = 1)) : narrow .boolean (.int v) = .int v ∧ fits .boolean (.int v) = true := by
  rcases Decidable.not_not.mp hv with h | h <;> subst h <;> exact ⟨rfl, rfl⟩
theorem ne_toInt {x k : Int32} (h : ¬ x = k) : x.toInt ≠ k.toInt := fun e => h (Int32.toInt_inj.mp e)
abbrev QI (below : List Frame) (r : Int32) (S2 : St) (D : va_G) (y : y4) (ad : Nat → Nat) (args : Array Value) (s : State) : State → Prop := MQ below (va_Qi (fun (r' : Int32) (u : St) => r' = r ∧ u = S2) (fun u t => PW D y ad u t.heap) (AA ad)) args s 0 0 (AA ad)
abbrev QL (below : List Frame) (r : Int64) (S2 : St) (D : va_G) (y : y4) (ad : Nat → Nat) (args : Array Value) (s : State) : State → Prop := MQ below (va_Ql (fun (r' : Int64) (u : St) => r' = r ∧ u = S2) (fun u t => PW D y ad u t.heap) (AA ad)) args s 0 0 (AA ad)
abbrev QV (below : List Frame) (_r : Unit) (S2 : St) (D : va_G) (y : y4) (ad : Nat → Nat) (args : Array Value) (s : State) : State → Prop := MQ below (va_Qv (fun (u : St) => u = S2) (fun u t => PW D y ad u t.heap) (AA ad)) args s 0 0 (AA ad)
theorem lku2 {x : Int32} {a b d : Int} (h0 : ¬ x = 0) (h1 : ¬ x = 1) : Op.lookupswitch.offset [(0, a), (1, b)] d x.toInt = d := by
  have i0 : x.toInt ≠ 0 := ne_toInt h0
  have i1 : x.toInt ≠ 1 := ne_toInt h1
  simp [Op.lookupswitch.offset, Ne.symm i0, Ne.symm i1, i0, i1]
section WM
variable {p : Program} {l : Launch} {e : Env} {R : Room} {s : State} {m : MethodId} {args : Array Value} {below : List Frame} {meth : Method} {c : Code} {H : Heap} {locs : List Loc} {Q : State → Prop}
variable {cc : ByteArray} {pc : Nat} {ls : Array Slot} {rest : List Value} {D : va_G} {y : y4} {ad : Nat → Nat} {S : St} {H0 : Heap}
theorem w_min (hx : p.tables.exec = Jvm.exec) (hb : c.code = cc) (hml : c.maxLocals = ls.size) {own : String} {index : Nat} (hown : s.vm.findClass own = some m.cls) (hlink : (Cond.methodLink own index Lib.Math.min.name).before args s = true) (hstat : (Cond.static Lib.Math.min.name).before args s = true) (hini : (Cond.initialized "java/lang/Math").before args s = true) (hcode : (Cond.code Lib.Math.min.name Lib.Math.min.code 2 (some .int)).before args s = true)
    (hframes : 1 ≤ R.frames) (hlocals : (rest.map fun v => v.category).sum + 13 ≤ R.locals) {a b : Int32} (hdg : decode cc pc = .ok (.invokestatic index, 3))
    (kk : W p l e R s m args below meth c H locs 0 0 Q (F0 m (pc + 3) ls (.int (if b < a then b else a) :: rest))) : W p l e R s m args below meth c H locs 0 0 Q (F0 m pc ls (.int b :: .int a :: rest)) :=
  va_mmin hx hb hml hown hlink hstat hini hcode hframes hlocals (Nat.zero_le _) (Nat.zero_le _) hdg kk
theorem w_copy (hx : p.tables.exec = Jvm.exec) (hb : c.code = cc) (hml : c.maxLocals = ls.size) {own : String} {index : Nat} (hown : s.vm.findClass own = some m.cls) (hlink : (Cond.methodLink own index arraycopyName).before args s = true) (hnat : (Cond.native arraycopyName).before args s = true) (hstat : (Cond.static arraycopyName).before args s = true) (hini : (Cond.initialized "java/lang/System").before args s = true)
    (hK : va_K D vwCl (tysY y) s) (hI : Inj ad) (hP : PW D y ad S H) (hS : va_S (AA ad) H0 H locs) {q0 q1 : Nat} {ts0 ts1 : List Nat} (h0 : q0 < 122 ∧ lyT q0 = (2, 100, ts0)) (h1 : q1 < 122 ∧ lyT q1 = (2, 100, ts1))
    (hframes : 1 ≤ R.frames) (hlocals : (rest.map fun v => v.category).sum + 18 ≤ R.locals) (hdg : decode cc pc = .ok (.invokestatic index, 3))
    (kk : ∀ (H1 : Heap) (locs1 : List Loc), PW D y ad (sR S q1 (va_cpy (S.2 q0) (S.2 q1) 0 0 100)) H1 → va_S (AA ad) H0 H1 locs1 → W p l e R s m args below meth c H1 locs1 0 0 Q (F0 m (pc + 3) ls rest)) : W p l e R s m args below meth c H locs 0 0 Q (F0 m pc ls (.int 100 :: .int 0 :: .ref (ad q1) :: .int 0 :: .ref (ad q0) :: rest)) :=
  va_copyl (tys := tysY y) (ty := .long) hx hb hml hown hlink hnat hstat hini hK hP (wl_D hI S) hS q0 q1 1 1 (by rw [wl_get h0.1, lyE_J h0.2]) (by rw [wl_get h1.1, lyE_J h1.2]) rfl rfl rfl (by decide) (by decide) (by decide) (by decide) (by decide) (fun _ _ => rfl) hframes hlocals hdg (fun H1 locs1 hP1 _ hS1 => kk H1 locs1 (PW.row h1.1 h1.2 hP1) hS1)
end WM
theorem t_0 : 0 < 122 ∧ lyT 0 = (0, 8, [2, 0, 2, 2, 2, 2, 2, 2, 2, 0, 0, 0, 0, 0, 0, 0]) := ⟨by decide, rfl⟩
theorem t_1 : 1 < 122 ∧ lyT 1 = (1, 40, []) := ⟨by decide, rfl⟩
theorem t_2 : 2 < 122 ∧ lyT 2 = (0, 5, [0, 2, 0, 2, 0, 0, 0, 0, 2, 0]) := ⟨by decide, rfl⟩
theorem t_3 : 3 < 122 ∧ lyT 3 = (1, 40, []) := ⟨by decide, rfl⟩
theorem t_4 : 4 < 122 ∧ lyT 4 = (1, 40, []) := ⟨by decide, rfl⟩
theorem t_5 : 5 < 122 ∧ lyT 5 = (1, 40, []) := ⟨by decide, rfl⟩
theorem t_6 : 6 < 122 ∧ lyT 6 = (0, 7, [2, 2, 2, 2, 0]) := ⟨by decide, rfl⟩
theorem t_7 : 7 < 122 ∧ lyT 7 = (1, 10, []) := ⟨by decide, rfl⟩
theorem t_8 : 8 < 122 ∧ lyT 8 = (1, 10, []) := ⟨by decide, rfl⟩
theorem t_9 : 9 < 122 ∧ lyT 9 = (1, 10, []) := ⟨by decide, rfl⟩
theorem t_10 : 10 < 122 ∧ lyT 10 = (1, 10, []) := ⟨by decide, rfl⟩
theorem t_11 : 11 < 122 ∧ lyT 11 = (0, 7, [2, 2, 2, 2, 0]) := ⟨by decide, rfl⟩
theorem t_12 : 12 < 122 ∧ lyT 12 = (1, 10, []) := ⟨by decide, rfl⟩
theorem t_13 : 13 < 122 ∧ lyT 13 = (1, 10, []) := ⟨by decide, rfl⟩
theorem t_14 : 14 < 122 ∧ lyT 14 = (1, 10, []) := ⟨by decide, rfl⟩
theorem t_15 : 15 < 122 ∧ lyT 15 = (1, 10, []) := ⟨by decide, rfl⟩
theorem t_16 : 16 < 122 ∧ lyT 16 = (0, 3, [2, 2, 2, 2, 0]) := ⟨by decide, rfl⟩
theorem t_17 : 17 < 122 ∧ lyT 17 = (1, 10, []) := ⟨by decide, rfl⟩
theorem t_18 : 18 < 122 ∧ lyT 18 = (1, 10, []) := ⟨by decide, rfl⟩
theorem t_19 : 19 < 122 ∧ lyT 19 = (1, 10, []) := ⟨by decide, rfl⟩
theorem t_20 : 20 < 122 ∧ lyT 20 = (1, 10, []) := ⟨by decide, rfl⟩
theorem t_21 : 21 < 122 ∧ lyT 21 = (0, 2, [2, 2, 2, 2, 0, 0]) := ⟨by decide, rfl⟩
theorem t_22 : 22 < 122 ∧ lyT 22 = (1, 10, []) := ⟨by decide, rfl⟩
theorem t_23 : 23 < 122 ∧ lyT 23 = (0, 6, [2, 2, 2, 0, 2, 2, 0, 0, 0, 0]) := ⟨by decide, rfl⟩
theorem t_24 : 24 < 122 ∧ lyT 24 = (3, 22, []) := ⟨by decide, rfl⟩
theorem t_25 : 25 < 122 ∧ lyT 25 = (4, 23, []) := ⟨by decide, rfl⟩
theorem t_26 : 26 < 122 ∧ lyT 26 = (0, 4, [2, 2, 0, 0]) := ⟨by decide, rfl⟩
theorem t_27 : 27 < 122 ∧ lyT 27 = (1, 10, []) := ⟨by decide, rfl⟩
theorem t_28 : 28 < 122 ∧ lyT 28 = (0, 9, [0, 2, 0, 2, 2, 2, 2, 0, 0, 0, 0, 0, 2, 0, 0, 0, 0, 0, 0, 2, 2, 2, 2, 2, 2, 2, 2, 0, 0, 2, 2, 0, 0, 0, 0, 0, 0, 0, 0, 0, 0, 1, 2, 2, 2, 2, 2, 1]) := ⟨by decide, rfl⟩
theorem t_29 : 29 < 122 ∧ lyT 29 = (1, 40, []) := ⟨by decide, rfl⟩
theorem t_30 : 30 < 122 ∧ lyT 30 = (1, 400, []) := ⟨by decide, rfl⟩
theorem t_31 : 31 < 122 ∧ lyT 31 = (1, 10, []) := ⟨by decide, rfl⟩
theorem t_32 : 32 < 122 ∧ lyT 32 = (1, 10, []) := ⟨by decide, rfl⟩
theorem t_33 : 33 < 122 ∧ lyT 33 = (1, 10, []) := ⟨by decide, rfl⟩
theorem t_34 : 34 < 122 ∧ lyT 34 = (1, 40, []) := ⟨by decide, rfl⟩
theorem t_35 : 35 < 122 ∧ lyT 35 = (1, 64, []) := ⟨by decide, rfl⟩
theorem t_36 : 36 < 122 ∧ lyT 36 = (1, 64, []) := ⟨by decide, rfl⟩
theorem t_37 : 37 < 122 ∧ lyT 37 = (1, 64, []) := ⟨by decide, rfl⟩
theorem t_38 : 38 < 122 ∧ lyT 38 = (1, 10, []) := ⟨by decide, rfl⟩
theorem t_39 : 39 < 122 ∧ lyT 39 = (1, 10, []) := ⟨by decide, rfl⟩
theorem t_40 : 40 < 122 ∧ lyT 40 = (1, 40, []) := ⟨by decide, rfl⟩
theorem t_41 : 41 < 122 ∧ lyT 41 = (1, 10, []) := ⟨by decide, rfl⟩
theorem t_42 : 42 < 122 ∧ lyT 42 = (2, 100, []) := ⟨by decide, rfl⟩
theorem t_43 : 43 < 122 ∧ lyT 43 = (2, 6400, []) := ⟨by decide, rfl⟩
theorem t_44 : 44 < 122 ∧ lyT 44 = (2, 640, []) := ⟨by decide, rfl⟩
theorem t_45 : 45 < 122 ∧ lyT 45 = (1, 64, []) := ⟨by decide, rfl⟩
theorem t_46 : 46 < 122 ∧ lyT 46 = (1, 64, []) := ⟨by decide, rfl⟩
theorem t_47 : 47 < 122 ∧ lyT 47 = (1, 64, []) := ⟨by decide, rfl⟩
theorem t_48 : 48 < 122 ∧ lyT 48 = (1, 65, []) := ⟨by decide, rfl⟩
theorem t_49 : 49 < 122 ∧ lyT 49 = (1, 10, []) := ⟨by decide, rfl⟩
theorem t_95 : 95 < 122 ∧ lyT 95 = (0, 1, [2]) := ⟨by decide, rfl⟩
theorem t_96 : 96 < 122 ∧ lyT 96 = (0, 1, [2]) := ⟨by decide, rfl⟩
theorem t_120 : 120 < 122 ∧ lyT 120 = (2, 100, []) := ⟨by decide, rfl⟩
theorem t_121 : 121 < 122 ∧ lyT 121 = (2, 100, []) := ⟨by decide, rfl⟩
