/-! BUILDING: what constructors are made of -/
def NA (h0 sz : Nat) : Nat → Prop := fun q => q = h0 ∨ sz ≤ q
def nwR : Cond := .methodLinkNest "JoinedTheories" 15 yX5_init "JoinedTheories"
def nwT : Cond := .methodLinkNest "JoinedTheories" 32 yX3_init "JoinedTheories"
def nwE : Cond := .methodLinkNest "JoinedTheories$Exchanger" 11 yX1_init "JoinedTheories"
def nwS : Cond := .methodLinkNest "JoinedTheories$Solver" 23 yX1_init "JoinedTheories"
def nwC : Cond := .methodLinkNest "JoinedTheories$Solver" 36 yX0_init "JoinedTheories"
def NX (U : State) : Prop := (va_Nw nwR U ∧ va_Nw nwT U ∧ va_Nw nwE U ∧ va_Nw nwS U ∧ va_Nw nwC U) ∧ va_AO "JoinedTheories$Clause" U ∧ va_AO "JoinedTheories$Distances" U
theorem NX.go {u U : State} (hW : u.WarmedH U.vm) (h : NX u) : NX U := ⟨⟨va_Nw.warmM hW h.1.1, va_Nw.warmM hW h.1.2.1, va_Nw.warmM hW h.1.2.2.1, va_Nw.warmM hW h.1.2.2.2.1, va_Nw.warmM hW h.1.2.2.2.2⟩, va_AO.moved hW.alike h.2.1, va_AO.moved hW.alike h.2.2⟩
theorem NX.same {u U : State} (hv : u.vm = U.vm) (h : NX u) : NX U := ⟨⟨va_Nw.same rfl hv h.1.1, va_Nw.same rfl hv h.1.2.1, va_Nw.same rfl hv h.1.2.2.1, va_Nw.same rfl hv h.1.2.2.2.1, va_Nw.same rfl hv h.1.2.2.2.2⟩, va_AO.moved (hv ▸ Vm.Alike.refl u.vm) h.2.1, va_AO.moved (hv ▸ Vm.Alike.refl u.vm) h.2.2⟩
/-- at a constructor's start -/
def CP (D : va_G) (y : y4) (h0 sz : Nat) (e0 : va_E) (U : State) : Prop := U.heap.size = sz ∧ va_P D vwCl [(h0, e0)] U.heap ∧ va_K D vwCl (tysY y) U ∧ NX U
abbrev KN {α : Type} (l : Launch) (D : va_G) (y : y4) (yy : MethodName) (ws : List Cond) (rm : Room) (av : List Value) (h0 sz : Nat) (e0 : va_E) (post : α → Prop) (e1 : α → va_E) (nw : α → va_W) (mc ms : Nat) : Prop := Met l yy ws rm (va_Pc av (CP D y h0 sz e0)) (va_Qv post (fun u t => va_P D vwCl ((h0, e1 u) :: nw u) t.heap ∧ va_D (NA h0 sz) ((h0, e1 u) :: nw u)) (NA h0 sz)) mc ms (NA h0 sz)
theorem CP.preS {D : va_G} {y : y4} {s : State} {H : Heap} {q : Nat} {e0 : va_E} {av : List Value} {ws : va_W} (hP : va_P D vwCl ws H) (hK : va_K D vwCl (tysY y) s) (hN : NX s) (k : Nat) (hk : ws[k]? = some (q, e0)) : PreS s H (va_Pc av (CP D y q H.size e0)) av :=
  ⟨fun a U g mk h => ⟨h.1, h.2.1, h.2.2.1, va_K.moved (u := U) (U := U.calling g mk a) (Vm.Alike.refl U.vm) h.2.2.2.1, NX.same (u := U) (U := U.calling g mk a) rfl h.2.2.2.2⟩, fun U hU hW => ⟨rfl, by rw [hU], by
    rw [hU]
    intro i x hx
    have hz : i < 1 := (List.getElem?_eq_some_iff.mp hx).1
    rw [show i = 0 by omega] at hx
    cases hx
    exact hP k _ hk, va_K.moved hW.alike hK, NX.go hW hN⟩⟩
theorem D1 {A : Nat → Prop} {h0 : Nat} {e0 : va_E} (h : A h0) : va_D A [(h0, e0)] := by
  refine ⟨fun i j p q hi hj _ => ?_, fun k q hk => ?_⟩
  · have h1 : i < 1 := (List.getElem?_eq_some_iff.mp hi).1
    have h2 : j < 1 := (List.getElem?_eq_some_iff.mp hj).1
    omega
  · have h1 : k < 1 := (List.getElem?_eq_some_iff.mp hk).1
    rw [show k = 0 by omega] at hk
    cases hk
    exact h
/-- behind a constructor: its object is new, other cells are as they were, the cells that it made are behind -/
theorem join1 {A : Nat → Prop} {D : va_G} {cl : List vw_C} {ws nw : va_W} {H H1 H0 : Heap} {locs : List Loc} {k q : Nat} {e0 e1 : va_E} (hP : va_P D cl ws H) (hD : va_D A ws) (hS : va_S A H0 H locs) (hA : ∀ x, H0.size ≤ x → A x) (hk : ws[k]? = some (q, e0)) (hkeep : ∀ x : Nat, x < H.size → ¬ NA q H.size x → H1[x]? = H[x]?) (hP1 : va_P D cl ((q, e1) :: nw) H1) (hD1 : va_D (NA q H.size) ((q, e1) :: nw)) : va_P D cl (ws.set k (q, e1) ++ nw) H1 ∧ va_D A (ws.set k (q, e1) ++ nw) := by
  have hkl : k < ws.length := (List.getElem?_eq_some_iff.mp hk).1
  have Aq : A q := hD.2 k _ hk
  have qlt : q < H.size := (hP k _ hk).lt
  have big : ∀ x, NA q H.size x → A x := fun x hx => hx.elim (fun h => h ▸ Aq) (fun h => hA x (Nat.le_trans hS.1 h))
  -- an entry of the joined list
  have ent : ∀ i x, (ws.set k (q, e1) ++ nw)[i]? = some x → (i = k ∧ x = (q, e1)) ∨ (i ≠ k ∧ i < ws.length ∧ ws[i]? = some x) ∨ (ws.length ≤ i ∧ nw[i - ws.length]? = some x) := by
    intro i x hx
    by_cases hl : i < ws.length
    · rw [List.getElem?_append_left (by simpa using hl)] at hx
      by_cases e : i = k
      · subst e
        rw [List.getElem?_set_self hkl] at hx
        exact Or.inl ⟨rfl, (Option.some.inj hx).symm⟩
      · rw [List.getElem?_set_ne (fun h => e h.symm)] at hx
        exact Or.inr (Or.inl ⟨e, hl, hx⟩)
    · rw [List.getElem?_append_right (by simpa using Nat.le_of_not_lt hl)] at hx
      rw [List.length_set] at hx
      exact Or.inr (Or.inr ⟨Nat.le_of_not_lt hl, hx⟩)
  have oldq : ∀ i x, i ≠ k → ws[i]? = some x → x.1 ≠ q := fun i x hi hx e => hi (hD.1 i k x (q, e0) hx hk e)
  have oldlt : ∀ (i : Nat) (x : Nat × va_E), ws[i]? = some x → x.1 < H.size := fun i x hx => (hP i x hx).lt
  have newsz : ∀ (j : Nat) (x : Nat × va_E), nw[j]? = some x → H.size ≤ x.1 := fun j x hx => by
    have h1 := hD1.2 (j + 1) x (by simpa using hx)
    rcases h1 with h | h
    · exact absurd (hD1.1 (j + 1) 0 x (q, e1) (by simpa using hx) rfl h) (by omega)
    · exact h
  refine ⟨fun i x hx => ?_, fun i j x z hx hz he => ?_, fun i x hx => ?_⟩
  · rcases ent i x hx with ⟨-, rfl⟩ | ⟨h1, h2, h3⟩ | ⟨h1, h2⟩
    · exact hP1 0 _ rfl
    · exact (hP i x h3).kept (hkeep x.1 (oldlt i x h3) (fun h => h.elim (oldq i x h1 h3) (fun h => absurd (oldlt i x h3) (Nat.not_lt.mpr h))))
    · exact hP1 (i - ws.length + 1) x (by simpa using h2)
  · rcases ent i x hx with ⟨a1, rfl⟩ | ⟨a1, a2, a3⟩ | ⟨a1, a2⟩
    · rcases ent j z hz with ⟨b1, rfl⟩ | ⟨b1, b2, b3⟩ | ⟨b1, b2⟩
      · omega
      · exact absurd he.symm (oldq j z b1 b3)
      · have := newsz _ z b2
        have he : q = z.1 := he
        omega
    · rcases ent j z hz with ⟨b1, rfl⟩ | ⟨b1, b2, b3⟩ | ⟨b1, b2⟩
      · exact absurd he (oldq i x a1 a3)
      · exact hD.1 i j x z a3 b3 he
      · have := newsz _ z b2
        have := oldlt i x a3
        omega
    · rcases ent j z hz with ⟨b1, rfl⟩ | ⟨b1, b2, b3⟩ | ⟨b1, b2⟩
      · have := newsz _ x a2
        have he : x.1 = q := he
        omega
      · have := newsz _ x a2
        have := oldlt j z b3
        omega
      · have := hD1.1 (i - ws.length + 1) (j - ws.length + 1) x z (by simpa using a2) (by simpa using b2) he
        omega
  · rcases ent i x hx with ⟨-, rfl⟩ | ⟨h1, h2, h3⟩ | ⟨h1, h2⟩
    · exact Aq
    · exact hD.2 i x h3
    · exact big _ (Or.inr (newsz _ x h2))
section KB
variable {p : Program} {l : Launch} {e : Env} {R : Room} {s : State} {m : MethodId} {args : Array Value} {below : List Frame} {meth : Method} {c : Code} {H : Heap} {locs : List Loc} {cells slots : Nat} {Q : State → Prop}
variable {cc : ByteArray} {pc : Nat} {ls : Array Slot} {rest : List Value} {D : va_G} {y : y4} {H0 : Heap} {A : Nat → Prop} {ws : va_W}
theorem k_newI (hx : p.tables.exec = Jvm.exec) (hb : c.code = cc) (harr : (Cond.arrayClass .int).before args s = true) (hK : va_K D vwCl (tysY y) s) (hP : va_P D vwCl ws H) (hD : va_D A ws) (hS : va_S A H0 H locs) (hA : ∀ q, H0.size ≤ q → A q) {n : Int32} {N : Nat} (hn : ¬ n < 0) (hN : n.toNatClampNeg = N) (hbytes : N * componentBytes .int ≤ 536870912) (hcells : cells + 1 ≤ R.cells) (hslots : slots + N ≤ R.slots) (hdg : decode cc pc = .ok (.newarray .int, 2))
    (kk : ∀ (q : Nat) (H1 : Heap), va_P D vwCl (ws ++ [(q, .inl (y.1, N, .inl (fun _ => 0)))]) H1 → va_D A (ws ++ [(q, .inl (y.1, N, .inl (fun _ => 0)))]) → va_S A H0 H1 locs → W p l e R s m args below meth c H1 locs (cells + 1) (slots + N) Q (F0 m (pc + 2) ls (.ref q :: rest))) : W p l e R s m args below meth c H locs cells slots Q (F0 m pc ls (.int n :: rest)) :=
  va_newa (atype := .int) (ty := .int) (a0 := (N, .inl (fun _ => 0))) hx hb harr rfl hK hP hD hS hA (fun _ => rfl) hn hN hbytes hcells hslots hdg (fun q cA H1 hK1 hP1 hD1 hS1 => by
    have e1 : s.vm.findClass ("[" ++ FieldType.int.toString) = some cA := (hK1.2 4 (cA, .int) rfl).2
    have e2 : s.vm.findClass ("[" ++ FieldType.int.toString) = some y.1 := (hK.2 0 (y.1, .int) rfl).2
    have e3 : cA = y.1 := Option.some.inj (e1.symm.trans e2)
    subst e3
    exact kk q H1 hP1 hD1 hS1)
theorem k_newJ (hx : p.tables.exec = Jvm.exec) (hb : c.code = cc) (harr : (Cond.arrayClass .long).before args s = true) (hK : va_K D vwCl (tysY y) s) (hP : va_P D vwCl ws H) (hD : va_D A ws) (hS : va_S A H0 H locs) (hA : ∀ q, H0.size ≤ q → A q) {n : Int32} {N : Nat} (hn : ¬ n < 0) (hN : n.toNatClampNeg = N) (hbytes : N * componentBytes .long ≤ 536870912) (hcells : cells + 1 ≤ R.cells) (hslots : slots + N ≤ R.slots) (hdg : decode cc pc = .ok (.newarray .long, 2))
    (kk : ∀ (q : Nat) (H1 : Heap), va_P D vwCl (ws ++ [(q, .inl (y.2.1, N, .inr (.inl (fun _ => 0))))]) H1 → va_D A (ws ++ [(q, .inl (y.2.1, N, .inr (.inl (fun _ => 0))))]) → va_S A H0 H1 locs → W p l e R s m args below meth c H1 locs (cells + 1) (slots + N) Q (F0 m (pc + 2) ls (.ref q :: rest))) : W p l e R s m args below meth c H locs cells slots Q (F0 m pc ls (.int n :: rest)) :=
  va_newa (atype := .long) (ty := .long) (a0 := (N, .inr (.inl (fun _ => 0)))) hx hb harr rfl hK hP hD hS hA (fun _ => rfl) hn hN hbytes hcells hslots hdg (fun q cA H1 hK1 hP1 hD1 hS1 => by
    have e1 : s.vm.findClass ("[" ++ FieldType.long.toString) = some cA := (hK1.2 4 (cA, .long) rfl).2
    have e2 : s.vm.findClass ("[" ++ FieldType.long.toString) = some y.2.1 := (hK.2 1 (y.2.1, .long) rfl).2
    have e3 : cA = y.2.1 := Option.some.inj (e1.symm.trans e2)
    subst e3
    exact kk q H1 hP1 hD1 hS1)
theorem k_newQ (hx : p.tables.exec = Jvm.exec) (hb : c.code = cc) {own C : String} {index : Nat} (hown : s.vm.findClass own = some m.cls) (hclink : (Cond.classLink own index C).before args s = true) (hover : va_AO C s) {t : Nat} {yc : ClassId} (ht : (tysY y)[t]? = some (yc, .object C)) (hK : va_K D vwCl (tysY y) s) (hP : va_P D vwCl ws H) (hD : va_D A ws) (hS : va_S A H0 H locs) (hA : ∀ q, H0.size ≤ q → A q) {n : Int32} {N : Nat} (hn : ¬ n < 0) (hN : n.toNatClampNeg = N) (hbytes : N * 4 ≤ 536870912) (hcells : cells + 1 ≤ R.cells) (hslots : slots + N ≤ R.slots) (hdg : decode cc pc = .ok (.anewarray index, 3))
    (kk : ∀ (q : Nat) (H1 : Heap), va_P D vwCl (ws ++ [(q, .inl (yc, N, .inr (.inr (.inr (.inr (fun _ => none))))))]) H1 → va_D A (ws ++ [(q, .inl (yc, N, .inr (.inr (.inr (.inr (fun _ => none))))))]) → va_S A H0 H1 locs → W p l e R s m args below meth c H1 locs (cells + 1) (slots + N) Q (F0 m (pc + 3) ls (.ref q :: rest))) : W p l e R s m args below meth c H locs cells slots Q (F0 m pc ls (.int n :: rest)) :=
  va_newq hx hb hown hclink hover hK hP hD hS hA hn hN hbytes hcells hslots hdg (fun q cA H1 hK1 hP1 hD1 hS1 => by
    obtain ⟨kA, comp, -, -, -, e1⟩ := (hK1.2 4 (cA, .object C) rfl).2
    obtain ⟨kB, compB, -, -, -, e2⟩ := (hK.2 t (yc, .object C) ht).2
    have e3 : cA = yc := Option.some.inj (e1.symm.trans e2)
    subst e3
    exact kk q H1 hP1 hD1 hS1)
variable {st0 : List Value} {a : Array Value} {mc ms : Nat}
theorem k_call {α : Type} {post : α → Prop} {q : Nat} {e0 : va_E} {e1 : α → va_E} {nw : α → va_W} (hr : va_Run p l e R s m args below meth c H locs cells slots mc ms (F0 m pc ls st0) rest (va_Qv post (fun u t => va_P D vwCl ((q, e1 u) :: nw u) t.heap ∧ va_D (NA q H.size) ((q, e1 u) :: nw u)) (NA q H.size) a) (NA q H.size)) (hP : va_P D vwCl ws H) (hD : va_D A ws) (hS : va_S A H0 H locs) (hA : ∀ q, H0.size ≤ q → A q) (k : Nat) (hk : ws[k]? = some (q, e0))
    (kk : ∀ (u : α) (H1 : Heap) (locs1 : List Loc), post u → va_P D vwCl (ws.set k (q, e1 u) ++ nw u) H1 → va_D A (ws.set k (q, e1 u) ++ nw u) → va_S A H0 H1 locs1 → W p l e R s m args below meth c H1 locs1 (cells + mc) (slots + ms) Q (F0 m (pc + 3) ls rest)) : W p l e R s m args below meth c H locs cells slots Q (F0 m pc ls st0) :=
  have big : ∀ x, NA q H.size x → A x := fun x hx => hx.elim (fun h => h ▸ hD.2 k _ hk) (fun h => hA x (Nat.le_trans hS.1 h))
  va_callv hr hS (fun x _ h => big x h) big (fun u t H1 locs1 ht _ hp hB _ hk1 hS1 => by
    rw [ht] at hB
    obtain ⟨j1, j2⟩ := join1 hP hD hS hA hk hk1 hB.1 hB.2
    exact kk u H1 locs1 hp j1 j2 hS1)
end KB
