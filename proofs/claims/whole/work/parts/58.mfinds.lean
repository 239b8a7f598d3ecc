/-! THE REFERENCE: finding a split -/
/-- what is asked beside the literals: a sort and two terms; two more terms that are to differ -/
def More (S : St) (N : Nat) (mo : Option (Nat × (Nat × Nat))) : Prop := match mo with
  | none => S.1 28 32 = -2000000001
  | some q => q.1 ≤ 2 ∧ q.2.1 < N ∧ q.2.2 < N ∧ S.1 28 32 = nI q.1 ∧ S.1 28 33 = nI q.2.1 ∧ S.1 28 34 = nI q.2.2
def Oth (S : St) (N : Nat) (ot : Option (Nat × Nat)) : Prop := match ot with
  | none => S.1 28 35 = -2000000001
  | some q => q.1 < N ∧ q.2 < N ∧ S.1 28 35 = nI q.1 ∧ S.1 28 36 = nI q.2
def ext1 (mo : Option (Nat × (Nat × Nat))) : List (Nat × Nat) := match mo with
  | none => []
  | some q => if q.1 = 1 then [q.2] else []
def ext2 (ot : Option (Nat × Nat)) : List (Nat × Nat) := match ot with
  | none => []
  | some q => [q]
def mext (mo : Option (Nat × (Nat × Nat))) (ot : Option (Nat × Nat)) : List (Nat × Nat) := ext1 mo ++ ext2 ot
theorem mext_len (mo : Option (Nat × (Nat × Nat))) (ot : Option (Nat × Nat)) : (mext mo ot).length ≤ 2 := by
  unfold mext ext1 ext2
  rw [List.length_append]
  cases mo <;> cases ot <;> simp
  · split <;> simp
  · split <;> simp
def AskOk (S : St) (p : Pb) (m : Int32) (mo : Option (Nat × (Nat × Nat))) (ot : Option (Nat × Nat)) : Prop := MRep S p ∧ S.1 28 31 = m ∧ More S (nT p) mo ∧ Oth S (nT p) ot
theorem finds_m {n l : Nat} {S : St} {p : Pb} {m : Int32} {mo : Option (Nat × (Nat × Nat))} {ot : Option (Nat × Nat)} (hn : 12 ≤ n) (hl : l < 64) (h : AskOk S p m mo ot) :
    (f_X9_findsSplit n S (nI l) = some (0, S) ∧ ∀ c, c ∈ clsM p m (mext mo ot) → clSat c (mV S l)) ∨ ∃ T c, f_X9_findsSplit n S (nI l) = some (1, T) ∧ SplF l S T ∧ c ∈ clsM p m (mext mo ot) ∧ ¬ clSat c (mV S l) ∧ Spl p T l c := by
  obtain ⟨hp, hm, hmo, hot⟩ := h
  obtain ⟨hwf, hsz, hkd, hfs, -, hnl, hlit⟩ := id hp
  have hT10 : nT p ≤ 10 := hwf.2.1
  have hN : nL p ≤ 10 := hwf.2.2.1
  -- an inequality that is broken
  have br0 : ∀ (e : Nat × Nat), e.1 < nT p → e.2 < nT p → ineC e ∈ clsM p m (mext mo ot) → mV S l e.1 = mV S l e.2 → ∃ T c, (bo (f_X9_splits n S (nI l) (0 : Int32) (nI e.1) (nI e.2)) fun (r_49 : Int32) (S_50 : St) => if ¬ (r_49 = 0 ∨ r_49 = 1) then none else some (r_49, S_50)) = some (1, T) ∧ SplF l S T ∧ c ∈ clsM p m (mext mo ot) ∧ ¬ clSat c (mV S l) ∧ Spl p T l c := by
    intro e h1 h2 hc hv
    obtain ⟨T, t1, t2, t3, t4, t5⟩ := splits_m (n := n) (S := S) hl (0 : Int32) (nI e.1) (nI e.2)
    rw [bo_some t1, if_neg (by decide)]
    exact ⟨T, ineC e, rfl, t2, hc, fun h => (ineC_sat.mp h) hv, Or.inl ⟨t3, e, rfl, h1, h2, t4, t5⟩⟩
  -- the pairs
  have pairs : (∀ k, k < nL p → onB m k → (lit p k).1 = 1 → mV S l (lit p k).2.1 ≠ mV S l (lit p k).2.2.1) → (∀ e, e ∈ mext mo ot → mV S l e.1 ≠ mV S l e.2) → (f_X9_findsSplit_155 n S (nI l) = some (0, S) ∧ ∀ c, c ∈ clsM p m (mext mo ot) → clSat c (mV S l)) ∨ ∃ T c, f_X9_findsSplit_155 n S (nI l) = some (1, T) ∧ SplF l S T ∧ c ∈ clsM p m (mext mo ot) ∧ ¬ clSat c (mV S l) ∧ Spl p T l c := by
    intro hA hB
    unfold f_X9_findsSplit_155
    simp only [bd]
    refine for_up (α := Int32 × St) (f_X9_findsSplit_157 n (nI l)) (fun _ _ => none) (nT p) (fun a T => T = S ∧ 5 ≤ a ∧ ∀ x y, 5 ≤ y → y < x → x < a → (tm p x).1 = (tm p y).1 → clSat (conC p (x, y)) (mV S l)) (fun o => (o = some (0, S) ∧ ∀ c, c ∈ clsM p m (mext mo ot) → clSat c (mV S l)) ∨ ∃ T c, o = some (1, T) ∧ SplF l S T ∧ c ∈ clsM p m (mext mo ot) ∧ ¬ clSat c (mV S l) ∧ Spl p T l c) ?_ ?_ n 5 S hwf.1 (by omega) ⟨rfl, by omega, fun x y _ _ _ => by omega⟩
    · rintro a T k ha ⟨rfl, h5, hI⟩
      unfold f_X9_findsSplit_157
      rw [hsz, if_neg (by rw [nI_leI (by omega) (by omega)]; omega)]
      simp only [bd]
      refine for_up (α := Int32 × St) (f_X9_findsSplit_167 n (nI l) (nI a) k) (fun _ _ => none) a (fun b U => U = T ∧ 5 ≤ b ∧ ∀ y, 5 ≤ y → y < b → (tm p a).1 = (tm p y).1 → clSat (conC p (a, y)) (mV T l)) (fun o => ((o = some (0, T) ∧ ∀ c, c ∈ clsM p m (mext mo ot) → clSat c (mV T l)) ∨ ∃ U c, o = some (1, U) ∧ SplF l T U ∧ c ∈ clsM p m (mext mo ot) ∧ ¬ clSat c (mV T l) ∧ Spl p U l c) ∨ ∃ S', (S' = T ∧ 5 ≤ a + 1 ∧ ∀ x y, 5 ≤ y → y < x → x < a + 1 → (tm p x).1 = (tm p y).1 → clSat (conC p (x, y)) (mV T l)) ∧ o = k S' (nI (a + 1))) ?_ ?_ n 5 T (by omega) (by omega) ⟨rfl, by omega, fun y _ _ => by omega⟩
      · rintro b U k2 hb ⟨rfl, h5b, hJ⟩
        unfold f_X9_findsSplit_167
        rw [if_neg (by rw [nI_leI (by omega) (by omega)]; omega)]
        obtain ⟨r, r1, r2⟩ := broken_m (n := n) hp hl h5 ha h5b (by omega)
        rw [bo_some r1]
        rcases r2 with ⟨rfl, ek, hv⟩ | ⟨rfl, hv⟩
        · left; left; right
          rw [if_neg (by decide)]
          obtain ⟨T, t1, t2, t3, t4, t5⟩ := splits_m (n := n) (S := U) hl (1 : Int32) (nI a) (nI b)
          rw [bo_some t1, if_neg (by decide)]
          exact ⟨T, conC p (a, b), rfl, t2, mem_clsM.mpr (Or.inr (Or.inr ⟨(a, b), h5b, hb, by show a < 10; omega, ha, ek, rfl⟩)), hv, Or.inr ⟨t3, (a, b), rfl, h5b, hb, ha, ek, t4, t5⟩⟩
        · right
          rw [if_pos rfl]
          simp only [bd]
          rw [nI_1]
          refine ⟨U, ⟨rfl, by omega, fun y h1 h2 h3 => ?_⟩, rfl⟩
          by_cases e : y = b
          · subst e; exact hv h3
          · exact hJ y h1 (by omega) h3
      · rintro U k2 ⟨rfl, h5b, hJ⟩
        unfold f_X9_findsSplit_167
        rw [if_pos (by rw [nI_leI (by omega) (by omega)]; omega)]
        simp only [bd]
        rw [nI_1]
        right
        refine ⟨U, ⟨rfl, by omega, fun x y h1 h2 h3 h4 => ?_⟩, rfl⟩
        by_cases e : x = a
        · subst e; exact hJ y h1 h2 h4
        · exact hI x y h1 h2 (by omega) h4
    · rintro T k ⟨rfl, h5, hI⟩
      unfold f_X9_findsSplit_157
      rw [hsz, if_pos (by rw [nI_leI (by omega) (by omega)]; omega)]
      left
      refine ⟨rfl, fun c hc => ?_⟩
      rcases mem_clsM.mp hc with ⟨k, a, b, c', rfl⟩ | ⟨e, a, rfl⟩ | ⟨e, a1, a2, a3, a4, a5, rfl⟩
      · exact ineC_sat.mpr (hA k a b c')
      · exact ineC_sat.mpr (hB e a)
      · exact hI e.1 e.2 a1 a2 a4 a5
  -- the two more terms
  have oth : (∀ k, k < nL p → onB m k → (lit p k).1 = 1 → mV S l (lit p k).2.1 ≠ mV S l (lit p k).2.2.1) → (∀ e, e ∈ ext1 mo → mV S l e.1 ≠ mV S l e.2) → (f_X9_findsSplit_115 n S (nI l) = some (0, S) ∧ ∀ c, c ∈ clsM p m (mext mo ot) → clSat c (mV S l)) ∨ ∃ T c, f_X9_findsSplit_115 n S (nI l) = some (1, T) ∧ SplF l S T ∧ c ∈ clsM p m (mext mo ot) ∧ ¬ clSat c (mV S l) ∧ Spl p T l c := by
    intro hA hB
    unfold f_X9_findsSplit_115
    cases hoo : ot with
    | none =>
      rw [hoo] at hot pairs
      rw [show S.1 28 35 = -2000000001 from hot, if_pos rfl]
      exact pairs hA (fun e he => hB e (by unfold mext ext2 at he; simpa using he))
    | some q =>
      rw [hoo] at hot pairs br0
      obtain ⟨q1, q2, q3, q4⟩ := hot
      rw [q3, q4, if_neg (nI_none (by omega))]
      obtain ⟨r, r1, r2⟩ := even_m (n := n) (S := S) hl (a := q.1) (b := q.2) (by omega) (by omega)
      rw [bo_some r1]
      rcases r2 with ⟨rfl, hv⟩ | ⟨rfl, hv⟩
      · right
        rw [if_neg (by decide), q3, q4]
        exact br0 q q1 q2 (mem_clsM.mpr (Or.inr (Or.inl ⟨q, by unfold mext ext2; simp, rfl⟩))) hv
      · rw [if_pos rfl]
        exact pairs hA (fun e he => by
          unfold mext ext2 at he
          rcases List.mem_append.mp he with h | h
          · exact hB e h
          · rw [List.mem_singleton.mp h]; exact hv)
  unfold f_X9_findsSplit
  simp only [bd]
  refine for_up (α := Int32 × St) (f_X9_findsSplit_2 n (nI l)) (fun _ _ => none) (nL p) (fun i T => T = S ∧ ∀ k, k < i → onB m k → (lit p k).1 = 1 → mV S l (lit p k).2.1 ≠ mV S l (lit p k).2.2.1) (fun o => (o = some (0, S) ∧ ∀ c, c ∈ clsM p m (mext mo ot) → clSat c (mV S l)) ∨ ∃ T c, o = some (1, T) ∧ SplF l S T ∧ c ∈ clsM p m (mext mo ot) ∧ ¬ clSat c (mV S l) ∧ Spl p T l c) ?_ ?_ n 0 S (by omega) (by omega) ⟨rfl, fun k hk => absurd hk (Nat.not_lt_zero _)⟩
  · rintro i T k hi ⟨rfl, hI⟩
    have st : ∀ U, f_X9_findsSplit_70 n (nI l) k U (nI i) = k U (nI (i + 1)) := fun U => by unfold f_X9_findsSplit_70; simp only [bd]; rw [nI_1]
    obtain ⟨g1, g2, g3, -, -⟩ := hwf.2.2.2.2.2 i hi
    obtain ⟨l1, l2, l3, -⟩ := hlit i hi
    unfold f_X9_findsSplit_2 f_X9_has
    rw [hnl, if_neg (by rw [nI_leI (by omega) (by omega)]; omega), hm]
    have nx : (onB m i → (lit p i).1 = 1 → mV T l (lit p i).2.1 ≠ mV T l (lit p i).2.2.1) → ∀ j, j < i + 1 → onB m j → (lit p j).1 = 1 → mV T l (lit p j).2.1 ≠ mV T l (lit p j).2.2.1 := by
      intro h j hj
      by_cases e : j = i
      · subst e; exact h
      · exact hI j (by omega)
    by_cases hb : ((m >>> (nI i &&& 31)) &&& (1 : Int32)) = (1 : Int32)
    · rw [if_pos hb]
      simp only [bo]
      rw [if_neg (by decide), if_neg (nI_bad (i := i) (by omega) (by omega)), nI_c (i := i) (by omega), l1]
      by_cases k1 : (lit p i).1 = 1
      · rw [k1, if_pos (by decide), if_neg (fun h => h.elim (nI_pos (by omega)) (by omega)), if_neg (fun h => h.elim (nI_pos (by omega)) (by omega)), l2, l3]
        obtain ⟨r, r1, r2⟩ := even_m (n := n) (S := T) hl (a := (lit p i).2.1) (b := (lit p i).2.2.1) (by omega) (by omega)
        rw [r1]
        simp only []
        rcases r2 with ⟨rfl, hv⟩ | ⟨rfl, hv⟩
        · left; right
          rw [if_neg (by decide), if_neg (fun h => h.elim (nI_pos (by omega)) (by omega)), if_neg (fun h => h.elim (nI_pos (by omega)) (by omega)), l2, l3]
          exact br0 ((lit p i).2.1, (lit p i).2.2.1) g2 g3 (mem_clsM.mpr (Or.inl ⟨i, hi, hb, k1, rfl⟩)) hv
        · right
          rw [if_pos rfl, st]
          exact ⟨T, ⟨rfl, nx (fun _ _ => hv)⟩, rfl⟩
      · right
        rw [if_neg (by rw [show (1 : Int32) = nI 1 from rfl, nI_eq (by omega) (by omega)]; exact k1), st]
        exact ⟨T, ⟨rfl, nx (fun _ h => absurd h k1)⟩, rfl⟩
    · right
      rw [if_neg hb]
      simp only [bo]
      rw [if_pos trivial, st]
      exact ⟨T, ⟨rfl, nx (fun h => absurd h hb)⟩, rfl⟩
  · rintro T k ⟨rfl, hI⟩
    unfold f_X9_findsSplit_2
    rw [hnl, if_pos (by rw [nI_leI (by omega) (by omega)]; omega)]
    cases hmm : mo with
    | none =>
      rw [hmm] at hmo oth
      rw [show T.1 28 32 = -2000000001 from hmo, if_neg (by decide)]
      exact oth hI (fun e he => by cases he)
    | some q =>
      rw [hmm] at hmo oth br0
      obtain ⟨q0, q1, q2, q3, q4, q5⟩ := hmo
      by_cases k1 : q.1 = 1
      · rw [q3, k1, if_pos (by decide), q4, q5]
        obtain ⟨r, r1, r2⟩ := even_m (n := n) (S := T) hl (a := q.2.1) (b := q.2.2) (by omega) (by omega)
        rw [bo_some r1]
        rcases r2 with ⟨rfl, hv⟩ | ⟨rfl, hv⟩
        · right
          rw [if_neg (by decide), q4, q5]
          exact br0 q.2 q1 q2 (mem_clsM.mpr (Or.inr (Or.inl ⟨q.2, by unfold mext ext1; simp [k1], rfl⟩))) hv
        · rw [if_pos rfl]
          refine oth hI (fun e he => ?_)
          unfold ext1 at he
          simp only [if_pos k1] at he
          rw [List.mem_singleton.mp he]; exact hv
      · rw [q3, if_neg (by rw [show (1 : Int32) = nI 1 from rfl, nI_eq (by omega) (by omega)]; exact k1)]
        refine oth hI (fun e he => ?_)
        unfold ext1 at he
        simp only [if_neg k1] at he
        cases he
