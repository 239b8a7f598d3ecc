/-! THE REFERENCE'S CONSTRUCTOR (made by genmodel.py) -/
def isK (c : Nat) : Prop := c < 28 ∨ (50 ≤ c ∧ c < 122)
def A9 (adc : Nat → Nat) (h0 sz : Nat) : Nat → Prop := fun q => NA h0 sz q ∨ ∃ c, isK c ∧ q = adc c
def adRf (adc : Nat → Nat) (h0 : Nat) (q : List Nat) (c : Nat) : Nat := if c = 28 then h0 else if 29 ≤ c ∧ c < 50 then q.getD (c - 29) 0 else adc c
/-- the statics, apart from all that is new -/
def ZB (z0 aL aU : Nat) (U : State) (H : Heap) : Prop :=
  (va_Z "JoinedTheories" "LOWER" "[I" (.ref aL) (fun q => z0 ≤ q) U H ∧ va_T .int aL 10 (fun j => .int (loF j)) (fun q => z0 ≤ q) U H) ∧ (va_Z "JoinedTheories" "UPPER" "[I" (.ref aU) (fun q => z0 ≤ q) U H ∧ va_T .int aU 10 (fun j => .int (upF j)) (fun q => z0 ≤ q) U H) ∧ va_Nw nwL U ∧ va_Nw nwU U
theorem ZB.zz {z0 aL aU : Nat} {U : State} {H : Heap} {ad : Nat → Nat} (h : ZB z0 aL aU U H) (hz : ∀ c, c < 122 → z0 ≤ ad c) : ZZ ad aL aU U H := by
  have hn : ∀ q, AA ad q → z0 ≤ q := fun q ⟨c, hc, e⟩ => by rw [e]; exact hz c hc
  exact ⟨⟨h.1.1.narrow hn, h.1.2.narrow hn⟩, ⟨h.2.1.1.narrow hn, h.2.1.2.narrow hn⟩, h.2.2⟩
theorem ZB.go {z0 aL aU : Nat} {u U : State} {H H1 : Heap} (hW : u.WarmedH U.vm) (hq : ∀ a : Nat, a < H.size → ¬ z0 ≤ a → H1[a]? = H[a]?) (h : ZB z0 aL aU u H) : ZB z0 aL aU U H1 :=
  ⟨⟨(h.1.1.kept hq).moved hW.alike, (h.1.2.kept hq).moved hW.alike⟩, ⟨(h.2.1.1.kept hq).moved hW.alike, (h.2.1.2.kept hq).moved hW.alike⟩, va_Nw.warmF hW h.2.2.1, va_Nw.warmF hW h.2.2.2⟩
theorem ZB.same {z0 aL aU : Nat} {u U : State} {H : Heap} (hv : u.vm = U.vm) (h : ZB z0 aL aU u H) : ZB z0 aL aU U H := by
  have ha : u.vm.Alike U.vm := hv ▸ Vm.Alike.refl u.vm
  exact ⟨⟨h.1.1.moved ha, h.1.2.moved ha⟩, ⟨h.2.1.1.moved ha, h.2.1.2.moved ha⟩, va_Nw.same rfl hv h.2.2.1, va_Nw.same rfl hv h.2.2.2⟩
/-- at its start -/
def C9 (D : va_G) (y : y4) (adc : Nat → Nat) (z0 aL aU h0 sz : Nat) (U : State) : Prop := U.heap.size = sz ∧ va_P D vwCl [(h0, .inr (9, [.int 0, .null, .int 0, .null, .null, .null, .null, .int 0, .int 0, .int 0, .int 0, .int 0, .null, .int 0, .int 0, .int 0, .int 0, .int 0, .int 0, .null, .null, .null, .null, .null, .null, .null, .null, .int 0, .int 0, .null, .null, .int 0, .int 0, .int 0, .int 0, .int 0, .int 0, .int 0, .int 0, .int 0, .int 0, .long 0, .null, .null, .null, .null, .null, .long 0]))] U.heap ∧ va_K D vwCl (tysY y) U ∧ (va_P D vwCl (wlc y adc S0) U.heap ∧ va_D (fun q => z0 ≤ q ∧ q ≠ h0) (wlc y adc S0)) ∧ ZB z0 aL aU U U.heap ∧ z0 ≤ h0 ∧ z0 ≤ sz
def P9 (adc : Nat → Nat) (h0 sz : Nat) (ad : Nat → Nat) : Prop := ad 28 = h0 ∧ (∀ c, isK c → ad c = adc c) ∧ Inj ad ∧ ∀ c, 28 ≤ c ∧ c < 50 → NA h0 sz (ad c)
theorem clsF_of {c : Nat} (h : isK c) : ∃ k, k < 100 ∧ clsF k = c := by
  unfold isK at h
  by_cases h1 : c < 28
  · exact ⟨c, by omega, by unfold clsF; rw [if_pos h1]⟩
  · exact ⟨c - 22, by omega, by unfold clsF; rw [if_neg (by omega)]; omega⟩
theorem wlc_at {y : y4} {ad : Nat → Nat} {S : St} {k : Nat} (hk : k < 100) : (wlc y ad S)[k]? = some (ad (clsF k), lyE y ad S (clsF k)) := by
  unfold wlc; rw [List.getElem?_map, List.getElem?_range hk]; rfl
theorem refK : ∀ c, c < 28 → ∀ k, k < 16 → ¬ (lyT c).2.2.getD k 0 = 0 → ¬ (lyT c).2.2.getD k 0 = 1 → lyR c k < 28 ∨ 50 ≤ lyR c k := by decide +kernel
theorem lenK : ∀ c, c < 28 → (lyT c).2.2.length ≤ 16 := by decide +kernel
theorem zer7 : ∀ k, k < 7 → ([0, 0, 0, 0, 0, 0, 0] : List Nat).getD k 0 = 0 := by decide
/-- the class's cells know the class's cells alone -/
theorem lyE_K {y : y4} {ad adc : Nat → Nat} {S : St} (h : ∀ c, c < 28 ∨ 50 ≤ c → ad c = adc c) {c : Nat} (hc : c < 28 ∨ 50 ≤ c) : lyE y ad S c = lyE y adc S c := by
  have K : ∀ k, k < (lyT c).2.2.length → ¬ (lyT c).2.2.getD k 0 = 0 → ¬ (lyT c).2.2.getD k 0 = 1 → lyR c k < 28 ∨ 50 ≤ lyR c k := by
    intro k hk h0 h1
    by_cases c1 : c < 28
    · exact refK c c1 k (Nat.lt_of_lt_of_le hk (lenK c c1)) h0 h1
    · by_cases c2 : c < 72
      · have e : lyT c = (0, 0, [0, 0, 0, 0, 0, 0, 0]) := (tC ⟨by omega, c2⟩).2
        rw [e] at hk h0
        exact absurd (zer7 k hk) h0
      · right; unfold lyR; rw [if_pos (by omega)]; omega
  have hO : lyO ad S c (lyT c).2.2 = lyO adc S c (lyT c).2.2 := by
    unfold lyO
    apply List.map_congr_left
    intro k hk
    have hk := List.mem_range.mp hk
    unfold lyF
    by_cases h0 : (lyT c).2.2.getD k 0 = 0
    · rw [if_pos h0, if_pos h0]
    · rw [if_neg h0, if_neg h0]
      by_cases h1 : (lyT c).2.2.getD k 0 = 1
      · rw [if_pos h1, if_pos h1]
      · rw [if_neg h1, if_neg h1, h _ (K k hk h0 h1)]
  have e50 : (fun j => some (ad (50 + j))) = fun j => some (adc (50 + j)) := by funext j; rw [h _ (Or.inr (by omega))]
  have e72 : (fun j => some (ad (72 + j))) = fun j => some (adc (72 + j)) := by funext j; rw [h _ (Or.inr (by omega))]
  unfold lyE
  rw [hO, e50, e72]
theorem va_S.up {A B : Nat → Prop} {H0 H : Heap} {locs : List Loc} (h : va_S A H0 H locs) (hAB : ∀ q, A q → B q) : va_S B H0 H locs := ⟨h.1, fun q h1 h2 => h.2.1 q h1 (fun h => h2 (hAB q h)), fun l hl => hAB _ (h.2.2 l hl)⟩
set_option maxHeartbeats 4000000 in
set_option maxRecDepth 100000 in
/-- the whole world, out of the class's cells and the reference's -/
theorem asm_m {D : va_G} {y : y4} {H H0 : Heap} {locs : List Loc} {adc : Nat → Nat} {z0 h0 q_1 q_2 q_3 q_4 q_5 q_6 q_7 q_8 q_9 q_10 q_11 q_12 q_13 q_14 q_15 q_16 q_17 q_18 q_19 q_20 q_21 : Nat} (hc : va_P D vwCl (wlc y adc S0) H0) (hcd : va_D (fun q => z0 ≤ q ∧ q ≠ h0) (wlc y adc S0)) (hS : va_S (NA h0 H0.size) H0 H locs) (hP : va_P D vwCl [(h0, .inr (9, [.int 0, .ref q_1, .int 0, .ref q_2, .ref q_3, .ref q_4, .ref q_5, .int 0, .int 0, .int 0, .int 0, .int 0, .ref q_6, .int 0, .int 0, .int 0, .int 0, .int 0, .int 0, .ref q_7, .ref q_8, .ref q_9, .ref q_10, .ref q_11, .ref q_12, .ref q_13, .ref q_14, .int 0, .int 0, .ref q_15, .ref q_16, .int 0, .int 0, .int 0, .int 0, .int 0, .int 0, .int 0, .int 0, .int 0, .int 0, .long 0, .ref q_17, .ref q_18, .ref q_19, .ref q_20, .ref q_21, .long 0])), (q_1, .inl (y.1, 40, .inl (fun _ => 0))), (q_2, .inl (y.1, 400, .inl (fun _ => 0))), (q_3, .inl (y.1, 10, .inl (fun _ => 0))), (q_4, .inl (y.1, 10, .inl (fun _ => 0))), (q_5, .inl (y.1, 10, .inl (fun _ => 0))), (q_6, .inl (y.1, 40, .inl (fun _ => 0))), (q_7, .inl (y.1, 64, .inl (fun _ => 0))), (q_8, .inl (y.1, 64, .inl (fun _ => 0))), (q_9, .inl (y.1, 64, .inl (fun _ => 0))), (q_10, .inl (y.1, 10, .inl (fun _ => 0))), (q_11, .inl (y.1, 10, .inl (fun _ => 0))), (q_12, .inl (y.1, 40, .inl (fun _ => 0))), (q_13, .inl (y.1, 10, .inl (fun _ => 0))), (q_14, .inl (y.2.1, 100, .inr (.inl (fun _ => 0)))), (q_15, .inl (y.2.1, 6400, .inr (.inl (fun _ => 0)))), (q_16, .inl (y.2.1, 640, .inr (.inl (fun _ => 0)))), (q_17, .inl (y.1, 64, .inl (fun _ => 0))), (q_18, .inl (y.1, 64, .inl (fun _ => 0))), (q_19, .inl (y.1, 64, .inl (fun _ => 0))), (q_20, .inl (y.1, 65, .inl (fun _ => 0))), (q_21, .inl (y.1, 10, .inl (fun _ => 0)))] H) (hD : va_D (NA h0 H0.size) [(h0, .inr (9, [.int 0, .ref q_1, .int 0, .ref q_2, .ref q_3, .ref q_4, .ref q_5, .int 0, .int 0, .int 0, .int 0, .int 0, .ref q_6, .int 0, .int 0, .int 0, .int 0, .int 0, .int 0, .ref q_7, .ref q_8, .ref q_9, .ref q_10, .ref q_11, .ref q_12, .ref q_13, .ref q_14, .int 0, .int 0, .ref q_15, .ref q_16, .int 0, .int 0, .int 0, .int 0, .int 0, .int 0, .int 0, .int 0, .int 0, .int 0, .long 0, .ref q_17, .ref q_18, .ref q_19, .ref q_20, .ref q_21, .long 0])), (q_1, .inl (y.1, 40, .inl (fun _ => 0))), (q_2, .inl (y.1, 400, .inl (fun _ => 0))), (q_3, .inl (y.1, 10, .inl (fun _ => 0))), (q_4, .inl (y.1, 10, .inl (fun _ => 0))), (q_5, .inl (y.1, 10, .inl (fun _ => 0))), (q_6, .inl (y.1, 40, .inl (fun _ => 0))), (q_7, .inl (y.1, 64, .inl (fun _ => 0))), (q_8, .inl (y.1, 64, .inl (fun _ => 0))), (q_9, .inl (y.1, 64, .inl (fun _ => 0))), (q_10, .inl (y.1, 10, .inl (fun _ => 0))), (q_11, .inl (y.1, 10, .inl (fun _ => 0))), (q_12, .inl (y.1, 40, .inl (fun _ => 0))), (q_13, .inl (y.1, 10, .inl (fun _ => 0))), (q_14, .inl (y.2.1, 100, .inr (.inl (fun _ => 0)))), (q_15, .inl (y.2.1, 6400, .inr (.inl (fun _ => 0)))), (q_16, .inl (y.2.1, 640, .inr (.inl (fun _ => 0)))), (q_17, .inl (y.1, 64, .inl (fun _ => 0))), (q_18, .inl (y.1, 64, .inl (fun _ => 0))), (q_19, .inl (y.1, 64, .inl (fun _ => 0))), (q_20, .inl (y.1, 65, .inl (fun _ => 0))), (q_21, .inl (y.1, 10, .inl (fun _ => 0)))]) : PW D y (adRf adc h0 [q_1, q_2, q_3, q_4, q_5, q_6, q_7, q_8, q_9, q_10, q_11, q_12, q_13, q_14, q_15, q_16, q_17, q_18, q_19, q_20, q_21]) S0 H ∧ P9 adc h0 H0.size (adRf adc h0 [q_1, q_2, q_3, q_4, q_5, q_6, q_7, q_8, q_9, q_10, q_11, q_12, q_13, q_14, q_15, q_16, q_17, q_18, q_19, q_20, q_21]) := by
  generalize hAD : adRf adc h0 [q_1, q_2, q_3, q_4, q_5, q_6, q_7, q_8, q_9, q_10, q_11, q_12, q_13, q_14, q_15, q_16, q_17, q_18, q_19, q_20, q_21] = ad
  have k1 : ∀ c, c < 28 ∨ 50 ≤ c → ad c = adc c := fun c h => by rw [← hAD]; unfold adRf; rw [if_neg (by omega), if_neg (by omega)]
  have own : ∀ i, i < 22 → ([(h0, .inr (9, [.int 0, .ref q_1, .int 0, .ref q_2, .ref q_3, .ref q_4, .ref q_5, .int 0, .int 0, .int 0, .int 0, .int 0, .ref q_6, .int 0, .int 0, .int 0, .int 0, .int 0, .int 0, .ref q_7, .ref q_8, .ref q_9, .ref q_10, .ref q_11, .ref q_12, .ref q_13, .ref q_14, .int 0, .int 0, .ref q_15, .ref q_16, .int 0, .int 0, .int 0, .int 0, .int 0, .int 0, .int 0, .int 0, .int 0, .int 0, .long 0, .ref q_17, .ref q_18, .ref q_19, .ref q_20, .ref q_21, .long 0])), (q_1, .inl (y.1, 40, .inl (fun _ => 0))), (q_2, .inl (y.1, 400, .inl (fun _ => 0))), (q_3, .inl (y.1, 10, .inl (fun _ => 0))), (q_4, .inl (y.1, 10, .inl (fun _ => 0))), (q_5, .inl (y.1, 10, .inl (fun _ => 0))), (q_6, .inl (y.1, 40, .inl (fun _ => 0))), (q_7, .inl (y.1, 64, .inl (fun _ => 0))), (q_8, .inl (y.1, 64, .inl (fun _ => 0))), (q_9, .inl (y.1, 64, .inl (fun _ => 0))), (q_10, .inl (y.1, 10, .inl (fun _ => 0))), (q_11, .inl (y.1, 10, .inl (fun _ => 0))), (q_12, .inl (y.1, 40, .inl (fun _ => 0))), (q_13, .inl (y.1, 10, .inl (fun _ => 0))), (q_14, .inl (y.2.1, 100, .inr (.inl (fun _ => 0)))), (q_15, .inl (y.2.1, 6400, .inr (.inl (fun _ => 0)))), (q_16, .inl (y.2.1, 640, .inr (.inl (fun _ => 0)))), (q_17, .inl (y.1, 64, .inl (fun _ => 0))), (q_18, .inl (y.1, 64, .inl (fun _ => 0))), (q_19, .inl (y.1, 64, .inl (fun _ => 0))), (q_20, .inl (y.1, 65, .inl (fun _ => 0))), (q_21, .inl (y.1, 10, .inl (fun _ => 0)))])[i]? = some (ad (28 + i), lyE y ad S0 (28 + i)) := by
    intro i hi
    rw [← hAD]
    have : i = 0 ∨ i = 1 ∨ i = 2 ∨ i = 3 ∨ i = 4 ∨ i = 5 ∨ i = 6 ∨ i = 7 ∨ i = 8 ∨ i = 9 ∨ i = 10 ∨ i = 11 ∨ i = 12 ∨ i = 13 ∨ i = 14 ∨ i = 15 ∨ i = 16 ∨ i = 17 ∨ i = 18 ∨ i = 19 ∨ i = 20 ∨ i = 21 := by omega
    rcases this with rfl | rfl | rfl | rfl | rfl | rfl | rfl | rfl | rfl | rfl | rfl | rfl | rfl | rfl | rfl | rfl | rfl | rfl | rfl | rfl | rfl | rfl <;> rfl
  have cls : ∀ c, isK c → va_at D vwCl (ad c, lyE y ad S0 c) H ∧ ad c < H0.size ∧ ad c ≠ h0 := by
    intro c h
    obtain ⟨k, hk, rfl⟩ := clsF_of h
    have h' : clsF k < 28 ∨ 50 ≤ clsF k := by unfold isK at h; omega
    have e := hc k _ (wlc_at hk)
    have lt := e.lt
    have ne := (hcd.2 k _ (wlc_at hk)).2
    rw [k1 _ h', lyE_K k1 h']
    exact ⟨e.kept (hS.2.1 _ lt (fun q => q.elim ne (fun q => absurd lt (Nat.not_lt.mpr q)))), lt, ne⟩
  have mown : ∀ c, 28 ≤ c → c < 50 → NA h0 H0.size (ad c) := by
    intro c h1 h2
    have := hD.2 (c - 28) _ (own (c - 28) (by omega))
    rw [show 28 + (c - 28) = c by omega] at this
    exact this
  have e28 : ad 28 = h0 := by rw [← hAD]; rfl
  have mbig : ∀ c, 29 ≤ c → c < 50 → H0.size ≤ ad c := by
    intro c h1 h2
    rcases mown c (by omega) h2 with q | q
    · have w1 := own (c - 28) (by omega)
      have w2 := own 0 (by omega)
      have := hD.1 _ _ _ _ w1 w2 (by show ad (28 + (c - 28)) = ad (28 + 0); rw [show 28 + (c - 28) = c by omega, e28]; exact q)
      omega
    · exact q
  refine ⟨fun k x hx => ?_, e28, fun c h => k1 c (by unfold isK at h; omega), fun c d hc1 hd1 he => ?_, fun c h => mown c h.1 h.2⟩
  · have hk : k < 122 := by
      have := (List.getElem?_eq_some_iff.mp hx).1
      simpa [wl] using this
    rw [wl_get hk] at hx
    cases hx
    by_cases q : 28 ≤ k ∧ k < 50
    · have := hP (k - 28) _ (own (k - 28) (by omega))
      rw [show 28 + (k - 28) = k by omega] at this
      exact this
    · exact (cls k (by unfold isK; omega)).1
  · by_cases q1 : 28 ≤ c ∧ c < 50
    · by_cases q2 : 28 ≤ d ∧ d < 50
      · have w1 := own (c - 28) (by omega)
        have w2 := own (d - 28) (by omega)
        have := hD.1 _ _ _ _ w1 w2 (by show ad (28 + (c - 28)) = ad (28 + (d - 28)); rw [show 28 + (c - 28) = c by omega, show 28 + (d - 28) = d by omega]; exact he)
        omega
      · obtain ⟨-, x2, x3⟩ := cls d (by unfold isK; omega)
        by_cases q3 : c = 28
        · rw [q3, e28] at he; exact absurd he.symm x3
        · have := mbig c (by omega) q1.2; omega
    · obtain ⟨-, x2, x3⟩ := cls c (by unfold isK; omega)
      by_cases q2 : 28 ≤ d ∧ d < 50
      · by_cases q3 : d = 28
        · rw [q3, e28] at he; exact absurd he x3
        · have := mbig d (by omega) q2.2; omega
      · obtain ⟨i, hi, ei⟩ := clsF_of (c := c) (by unfold isK; omega)
        obtain ⟨j, hj, ej⟩ := clsF_of (c := d) (by unfold isK; omega)
        rw [k1 c (by omega), k1 d (by omega)] at he
        have := hcd.1 i j _ _ (wlc_at hi) (wlc_at hj) (by show adc (clsF i) = adc (clsF j); rw [ei, ej]; exact he)
        subst this
        rw [← ei, ← ej]
