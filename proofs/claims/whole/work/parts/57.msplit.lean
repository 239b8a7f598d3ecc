/-! THE REFERENCE'S SPLITS: which clause its values break -/
def PL : List (Nat × Nat) := [(6, 5), (7, 5), (7, 6), (8, 5), (8, 6), (8, 7), (9, 5), (9, 6), (9, 7), (9, 8)]
theorem mem_PL {e : Nat × Nat} : e ∈ PL ↔ 5 ≤ e.2 ∧ e.2 < e.1 ∧ e.1 < 10 := by
  obtain ⟨a, b⟩ := e
  simp only [PL, List.mem_cons, Prod.mk.injEq, List.not_mem_nil, or_false]
  omega
def ineC (e : Nat × Nat) : Cl := (e, (0, 0), none)
def conC (p : Pb) (e : Nat × Nat) : Cl := (((tm p e.1).2.1, (tm p e.2).2.1), (if (tm p e.1).1 = 2 then ((tm p e.1).2.2, (tm p e.2).2.2) else (0, 0)), some e)
def clsM (p : Pb) (m : Int32) (ext : List (Nat × Nat)) : List Cl :=
  ((List.range (nL p)).filterMap (fun k => if ((m >>> (nI k &&& 31)) &&& (1 : Int32)) = (1 : Int32) ∧ (lit p k).1 = 1 then some (ineC ((lit p k).2.1, (lit p k).2.2.1)) else none)) ++ (ext.map ineC ++ PL.filterMap (fun e => if e.1 < nT p ∧ (tm p e.1).1 = (tm p e.2).1 then some (conC p e) else none))
theorem clsM_len {p : Pb} {m : Int32} {ext : List (Nat × Nat)} : (clsM p m ext).length ≤ nL p + ext.length + 10 := by
  unfold clsM
  rw [List.length_append, List.length_append, List.length_map]
  have h1 := List.length_filterMap_le (fun k => if ((m >>> (nI k &&& 31)) &&& (1 : Int32)) = (1 : Int32) ∧ (lit p k).1 = 1 then some (ineC ((lit p k).2.1, (lit p k).2.2.1)) else none) (List.range (nL p))
  have h2 := List.length_filterMap_le (fun e => if e.1 < nT p ∧ (tm p e.1).1 = (tm p e.2).1 then some (conC p e) else none) PL
  rw [List.length_range] at h1
  have h3 : PL.length = 10 := rfl
  omega
theorem mem_clsM {p : Pb} {m : Int32} {ext : List (Nat × Nat)} {c : Cl} : c ∈ clsM p m ext ↔ (∃ k, k < nL p ∧ onB m k ∧ (lit p k).1 = 1 ∧ c = ineC ((lit p k).2.1, (lit p k).2.2.1)) ∨ (∃ e, e ∈ ext ∧ c = ineC e) ∨ (∃ e, 5 ≤ e.2 ∧ e.2 < e.1 ∧ e.1 < 10 ∧ e.1 < nT p ∧ (tm p e.1).1 = (tm p e.2).1 ∧ c = conC p e) := by
  unfold clsM
  rw [List.mem_append, List.mem_append, List.mem_filterMap, List.mem_map, List.mem_filterMap]
  constructor
  · rintro (⟨k, h1, h2⟩ | ⟨e, h1, h2⟩ | ⟨e, h1, h2⟩)
    · left
      by_cases hc : ((m >>> (nI k &&& 31)) &&& (1 : Int32)) = (1 : Int32) ∧ (lit p k).1 = 1
      · rw [if_pos hc] at h2
        exact ⟨k, List.mem_range.mp h1, hc.1, hc.2, (Option.some.inj h2).symm⟩
      · rw [if_neg hc] at h2; cases h2
    · right; left; exact ⟨e, h1, h2.symm⟩
    · right; right
      have hp := mem_PL.mp h1
      by_cases hc : e.1 < nT p ∧ (tm p e.1).1 = (tm p e.2).1
      · rw [if_pos hc] at h2
        exact ⟨e, hp.1, hp.2.1, hp.2.2, hc.1, hc.2, (Option.some.inj h2).symm⟩
      · rw [if_neg hc] at h2; cases h2
  · rintro (⟨k, h1, h2, h3, h4⟩ | ⟨e, h1, h2⟩ | ⟨e, h1, h2, h3, h4, h5, h6⟩)
    · left; exact ⟨k, List.mem_range.mpr h1, by rw [if_pos ⟨h2, h3⟩, h4]⟩
    · right; left; exact ⟨e, h1, h2.symm⟩
    · right; right; exact ⟨e, mem_PL.mpr ⟨h1, h2, h3⟩, by rw [if_pos ⟨h4, h5⟩, h6]⟩
theorem ineC_sat {e : Nat × Nat} {v : Nat → Int} : clSat (ineC e) v ↔ v e.1 ≠ v e.2 := by
  unfold clSat ineC; simp
theorem conC_sat {p : Pb} {e : Nat × Nat} {v : Nat → Int} : clSat (conC p e) v ↔ (v (tm p e.1).2.1 = v (tm p e.2).2.1 → ((tm p e.1).1 = 2 → v (tm p e.1).2.2 = v (tm p e.2).2.2) → v e.1 = v e.2) := by
  unfold clSat conC
  by_cases k2 : (tm p e.1).1 = 2
  · simp only [if_pos k2, k2, true_implies]
    constructor
    · rintro (h | h | ⟨q, hq, h⟩) a b
      · exact absurd a h
      · exact absurd b h
      · cases hq; exact h
    · intro h
      by_cases a : v (tm p e.1).2.1 = v (tm p e.2).2.1
      · by_cases b : v (tm p e.1).2.2 = v (tm p e.2).2.2
        · exact Or.inr (Or.inr ⟨_, rfl, h a b⟩)
        · exact Or.inr (Or.inl b)
      · exact Or.inl a
  · simp only [if_neg k2, k2, false_implies, true_implies]
    constructor
    · rintro (h | h | ⟨q, hq, h⟩) a
      · exact absurd a h
      · exact absurd rfl h
      · cases hq; exact h
    · intro h
      by_cases a : v (tm p e.1).2.1 = v (tm p e.2).2.1
      · exact Or.inr (Or.inr ⟨_, rfl, h a⟩)
      · exact Or.inl a
theorem clsM_sat {p : Pb} (hwf : PbWf p) {m : Int32} {ext : List (Nat × Nat)} {v : Nat → Int} : (∀ c, c ∈ clsM p m ext → clSat c v) ↔ (∀ k, k < nL p → onB m k → (lit p k).1 = 1 → v (lit p k).2.1 ≠ v (lit p k).2.2.1) ∧ (∀ e, e ∈ ext → v e.1 ≠ v e.2) ∧ congSat p v := by
  have hT10 := hwf.2.1
  constructor
  · intro h
    refine ⟨fun k h1 h2 h3 => ?_, fun e he => ?_, fun s t h5 hst ht hk ha hb => ?_⟩
    · have := h _ (mem_clsM.mpr (Or.inl ⟨k, h1, h2, h3, rfl⟩))
      exact ineC_sat.mp this
    · exact ineC_sat.mp (h _ (mem_clsM.mpr (Or.inr (Or.inl ⟨e, he, rfl⟩))))
    · have := h _ (mem_clsM.mpr (Or.inr (Or.inr ⟨(t, s), h5, hst, by show t < 10; omega, ht, hk.symm, rfl⟩)))
      exact ((conC_sat.mp this) ha.symm (fun q => (hb (hk.trans q)).symm)).symm
  · rintro ⟨h1, h2, h3⟩ c hc
    rcases mem_clsM.mp hc with ⟨k, a, b, c', rfl⟩ | ⟨e, a, rfl⟩ | ⟨e, a1, a2, a3, a4, a5, rfl⟩
    · exact ineC_sat.mpr (h1 k a b c')
    · exact ineC_sat.mpr (h2 e a)
    · exact conC_sat.mpr (fun x y => (h3 e.2 e.1 a1 a2 a4 a5.symm x.symm (fun q => (y (a5.trans q)).symm)).symm)
/-- all clauses speak of terms -/
theorem clsM_wf {p : Pb} (hwf : PbWf p) {m : Int32} {ext : List (Nat × Nat)} (he : ∀ e, e ∈ ext → e.1 < nT p ∧ e.2 < nT p) {c : Cl} (hc : c ∈ clsM p m ext) : c.1.1 < nT p ∧ c.1.2 < nT p ∧ c.2.1.1 < nT p ∧ c.2.1.2 < nT p ∧ ∀ q, c.2.2 = some q → q.1 < nT p ∧ q.2 < nT p := by
  have hT5 := hwf.1
  have z : 0 < nT p := by omega
  rcases mem_clsM.mp hc with ⟨k, a, b, c', rfl⟩ | ⟨e, a, rfl⟩ | ⟨e, a1, a2, a3, a4, a5, rfl⟩
  · obtain ⟨-, g2, g3, -⟩ := hwf.2.2.2.2.2 k a
    exact ⟨g2, g3, z, z, fun q hq => by cases hq⟩
  · exact ⟨(he e a).1, (he e a).2, z, z, fun q hq => by cases hq⟩
  · have w1 := hwf.2.2.2.2.1 e.1 (by omega) a4
    have w2 := hwf.2.2.2.2.1 e.2 a1 (by omega)
    refine ⟨?_, ?_, ?_, ?_, fun q hq => ?_⟩
    · show (tm p e.1).2.1 < nT p; omega
    · show (tm p e.2).2.1 < nT p; omega
    · show (if (tm p e.1).1 = 2 then ((tm p e.1).2.2, (tm p e.2).2.2) else (0, 0)).1 < nT p
      by_cases k2 : (tm p e.1).1 = 2
      · rw [if_pos k2]; show (tm p e.1).2.2 < nT p; omega
      · rw [if_neg k2]; exact z
    · show (if (tm p e.1).1 = 2 then ((tm p e.1).2.2, (tm p e.2).2.2) else (0, 0)).2 < nT p
      by_cases k2 : (tm p e.1).1 = 2
      · rw [if_pos k2]; show (tm p e.2).2.2 < nT p; omega
      · rw [if_neg k2]; exact z
    · cases hq; exact ⟨a4, by omega⟩
theorem even_m {n l : Nat} {S : St} (hl : l < 64) {a b : Nat} (ha : a < 10) (hb : b < 10) : ∃ r, f_X9_areEven n S (nI l) (nI a) (nI b) = some (r, S) ∧ ((r = 1 ∧ mV S l a = mV S l b) ∨ (r = 0 ∧ mV S l a ≠ mV S l b)) := by
  unfold f_X9_areEven
  rw [ixv, ixv, if_neg (nI_bad (i := 10 * l + a) (by omega) (by omega)), if_neg (nI_bad (i := 10 * l + b) (by omega) (by omega)), nI_c (i := 10 * l + a) (by omega), nI_c (i := 10 * l + b) (by omega)]
  have e1 : (S.2 44 (10 * l + a)).toInt = mV S l a := rfl
  have e2 : (S.2 44 (10 * l + b)).toInt = mV S l b := rfl
  by_cases h : lg_cmp (S.2 44 (10 * l + a)) (S.2 44 (10 * l + b)) = 0
  · rw [if_pos h]; rw [c_eq, e1, e2] at h; exact ⟨1, rfl, Or.inl ⟨rfl, h⟩⟩
  · rw [if_neg h]; rw [c_eq, e1, e2] at h; exact ⟨0, rfl, Or.inr ⟨rfl, h⟩⟩
theorem broken_m {n l : Nat} {S : St} {p : Pb} (hp : MRep S p) (hl : l < 64) {a b : Nat} (h5a : 5 ≤ a) (ha : a < nT p) (h5b : 5 ≤ b) (hb : b < nT p) : ∃ r, f_X9_isBroken n S (nI l) (nI a) (nI b) = some (r, S) ∧ ((r = 1 ∧ (tm p a).1 = (tm p b).1 ∧ ¬ clSat (conC p (a, b)) (mV S l)) ∨ (r = 0 ∧ ((tm p a).1 = (tm p b).1 → clSat (conC p (a, b)) (mV S l)))) := by
  obtain ⟨hwf, hsz, hkd, hfs, -⟩ := id hp
  have hT10 : nT p ≤ 10 := hwf.2.1
  have wa := hwf.2.2.2.2.1 a h5a ha
  have wb := hwf.2.2.2.2.1 b h5b hb
  obtain ⟨fa1, fa2⟩ := hfs a h5a ha
  obtain ⟨fb1, fb2⟩ := hfs b h5b hb
  have cs := conC_sat (p := p) (e := (a, b)) (v := mV S l)
  dsimp only at cs
  unfold f_X9_isBroken f_X9_isBroken_58
  rw [if_neg (nI_bad (i := a) (by omega) (by omega)), nI_c (i := a) (by omega), hkd a ha, if_neg (by rw [show (0 : Int32) = nI 0 from rfl, nI_leI (by omega) (by omega)]; omega), if_neg (fun h => h.elim (nI_pos (by omega)) (by omega)), if_neg (nI_bad (i := b) (by omega) (by omega)), nI_c (i := b) (by omega), hkd b hb]
  have no : ∀ t0 : Int32, t0 = 0 → f_X9_isBroken_59 n S (nI l) (nI a) (nI b) t0 = some (0, S) := fun t0 h0 => by unfold f_X9_isBroken_59; simp only [bd]; rw [if_pos h0]
  by_cases ek : (tm p a).1 = (tm p b).1
  · rw [ek, if_pos rfl]
    obtain ⟨r, r1, r2⟩ := even_m (n := n) (S := S) hl (a := a) (b := b) (by omega) (by omega)
    rw [bo_some r1]
    rcases r2 with ⟨rfl, hv⟩ | ⟨rfl, hv⟩
    · rw [if_neg (by decide), no 0 rfl]
      exact ⟨0, rfl, Or.inr ⟨rfl, fun _ => cs.mpr (fun _ _ => hv)⟩⟩
    · rw [if_pos rfl, if_neg (fun h => h.elim (nI_pos (by omega)) (by omega)), if_neg (fun h => h.elim (nI_pos (by omega)) (by omega)), fa1, fb1]
      obtain ⟨r, r1, r2⟩ := even_m (n := n) (S := S) hl (a := (tm p a).2.1) (b := (tm p b).2.1) (by omega) (by omega)
      rw [bo_some r1]
      rcases r2 with ⟨rfl, hv1⟩ | ⟨rfl, hv1⟩
      · rw [if_neg (by decide)]
        unfold f_X9_isBroken_59 f_X9_isBroken_96
        simp only [bd]
        rw [if_neg (by decide), if_neg (nI_bad (i := a) (by omega) (by omega)), nI_c (i := a) (by omega), hkd a ha]
        by_cases k1 : (tm p a).1 = 1
        · rw [k1, if_pos (by decide)]
          refine ⟨1, rfl, Or.inl ⟨rfl, trivial, fun h => hv (cs.mp h hv1 (fun q => by omega))⟩⟩
        · rw [if_neg (by rw [show (1 : Int32) = nI 1 from rfl, nI_eq (by omega) (by omega)]; exact k1), if_neg (fun h => h.elim (nI_pos (by omega)) (by omega)), if_neg (nI_bad (i := b) (by omega) (by omega)), nI_c (i := b) (by omega)]
          have k2 : (tm p a).1 = 2 := by omega
          rw [fa2, fb2, if_pos k2, if_pos (ek ▸ k2)]
          obtain ⟨r, r1, r2⟩ := even_m (n := n) (S := S) hl (a := (tm p a).2.2) (b := (tm p b).2.2) (by omega) (by omega)
          rw [bo_some r1]
          rcases r2 with ⟨rfl, hv2⟩ | ⟨rfl, hv2⟩
          · rw [if_neg (by decide)]
            exact ⟨1, rfl, Or.inl ⟨rfl, trivial, fun h => hv (cs.mp h hv1 (fun _ => hv2))⟩⟩
          · rw [if_pos rfl]
            exact ⟨0, rfl, Or.inr ⟨rfl, fun _ => cs.mpr (fun _ h => absurd (h k2) hv2)⟩⟩
      · rw [if_pos rfl, no 0 rfl]
        exact ⟨0, rfl, Or.inr ⟨rfl, fun _ => cs.mpr (fun h _ => absurd h hv1)⟩⟩
  · rw [if_neg (by rw [nI_eq (by omega) (by omega)]; exact ek), no 0 rfl]
    exact ⟨0, rfl, Or.inr ⟨rfl, fun q => absurd q ek⟩⟩
/-- how a split is noted -/
def Spl (p : Pb) (S : St) (l : Nat) (c : Cl) : Prop := (S.1 45 l = 0 ∧ ∃ e : Nat × Nat, c = ineC e ∧ e.1 < nT p ∧ e.2 < nT p ∧ S.1 46 l = nI e.1 ∧ S.1 47 l = nI e.2) ∨ (S.1 45 l = 1 ∧ ∃ e : Nat × Nat, c = conC p e ∧ 5 ≤ e.2 ∧ e.2 < e.1 ∧ e.1 < nT p ∧ (tm p e.1).1 = (tm p e.2).1 ∧ S.1 46 l = nI e.1 ∧ S.1 47 l = nI e.2)
def SplF (l : Nat) (S T : St) : Prop := T.2 = S.2 ∧ ∀ c k, ¬ (45 ≤ c ∧ c ≤ 47 ∧ k = l) → T.1 c k = S.1 c k
theorem splits_m {n l : Nat} {S : St} (hl : l < 64) (a b c : Int32) : ∃ T, f_X9_splits n S (nI l) a b c = some (1, T) ∧ SplF l S T ∧ T.1 45 l = a ∧ T.1 46 l = b ∧ T.1 47 l = c := by
  unfold f_X9_splits
  simp only [bd]
  rw [if_neg (nI_bad (by omega) (by omega)), nI_c (by omega), if_neg (fun h => h.elim (nI_pos (by omega)) (by omega)), if_neg (fun h => h.elim (nI_pos (by omega)) (by omega))]
  refine ⟨_, rfl, ⟨rfl, fun d k h => ?_⟩, by simp [sI], by simp [sI], by simp [sI]⟩
  have h1 : ¬ (d = 45 ∧ k = l) := by omega
  have h2 : ¬ (d = 46 ∧ k = l) := by omega
  have h3 : ¬ (d = 47 ∧ k = l) := by omega
  simp only [sI, h1, h2, h3, if_false]
