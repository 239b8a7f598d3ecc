/-! THE CLASS'S EXCHANGE: joining, equalities, congruence -/
theorem JR.cmono {N : Nat} {Q : (Nat → Nat → Prop) → Prop} {r0 r : Nat → Nat} (h0 : Rp N r0) (h : JR N Q r0 r) : cnt r N ≤ cnt r0 N := by
  refine cnt_mono N (fun t ht e => ?_)
  have a := h0 t ht
  have b := h.2.1 _ _ a.2
  have c := (h.1 (r0 t) (by omega)).1
  omega
theorem JR.cless {N : Nat} {Q : (Nat → Nat → Prop) → Prop} {r0 r : Nat → Nat} (h0 : Rp N r0) (h : JR N Q r0 r) {s t : Nat} (hs : s < N) (ht : t < N) (h1 : r0 s ≠ r0 t) (h2 : r s = r t) : cnt r N < cnt r0 N := by
  have as := h0 s hs
  have at' := h0 t ht
  have bs := h.2.1 _ _ as.2
  have bt := h.2.1 _ _ at'.2
  refine cnt_lt N (fun u hu e => ?_) ?_
  · have a := h0 u hu
    have b := h.2.1 _ _ a.2
    have c := (h.1 (r0 u) (by omega)).1
    omega
  · by_cases c : r (r0 s) = r0 s
    · exact ⟨r0 t, by omega, at'.2, by omega⟩
    · exact ⟨r0 s, by omega, as.2, c⟩
def CSm (S : St) (N : Nat) (rep : Nat → Nat) : Prop := (∀ t, t < 10 → S.1 22 t = nI (rep t)) ∧ ∀ t, N ≤ t → rep t = t
theorem CSm.keep {S T : St} {N : Nat} {rep : Nat → Nat} (h : CSm S N rep) (e : T.1 22 = S.1 22) : CSm T N rep := ⟨fun t ht => by rw [e]; exact h.1 t ht, h.2⟩
theorem CSm.lt {S : St} {N : Nat} {rep : Nat → Nat} (h : CSm S N rep) (hr : Rp N rep) {t : Nat} (ht : t < 10) : rep t < 10 := by
  by_cases c : t < N
  · have := (hr t c).1; omega
  · rw [h.2 t (by omega)]; exact ht
theorem sm_c {n : Nat} {S : St} {N : Nat} {rep : Nat → Nat} (h : CSm S N rep) {t : Nat} (ht : t < 10) : f_X2_smallestSame n S (nI t) = some (nI (rep t), S) := by
  unfold f_X2_smallestSame
  rw [if_neg (nI_pos (by omega)), if_neg (by rw [show (10 : Int32) = nI 10 from rfl, nI_leI (by omega) (by omega)]; omega), if_neg (nI_bad ht (by omega)), nI_c (by omega), h.1 t ht]
theorem sm_none {n : Nat} {S : St} : f_X2_smallestSame n S (-2000000001) = some (-2000000001, S) := by
  unfold f_X2_smallestSame; rw [if_pos (by decide)]
theorem jn_val {rep : Nat → Nat} {a b t : Nat} : jn rep a b t = if rep t = rep a ∨ rep t = rep b then (if rep a < rep b then rep a else rep b) else rep t := by
  unfold jn
  by_cases c : rep a < rep b
  · simp only [if_pos c]
    by_cases e : rep t = rep b
    · rw [if_pos e, if_pos (Or.inr e)]
    · rw [if_neg e]
      by_cases e2 : rep t = rep a
      · rw [if_pos (Or.inl e2), e2]
      · rw [if_neg (by omega)]
  · simp only [if_neg c]
    by_cases e : rep t = rep a
    · rw [if_pos e, if_pos (Or.inl e)]
    · rw [if_neg e]
      by_cases e2 : rep t = rep b
      · rw [if_pos (Or.inr e2), e2]
      · rw [if_neg (by omega)]
theorem jn_out {N : Nat} {rep : Nat → Nat} (hr : Rp N rep) (h : ∀ t, N ≤ t → rep t = t) {a b : Nat} (ha : a < N) (hb : b < N) : ∀ t, N ≤ t → jn rep a b t = t := fun t ht => by
  have h1 := (hr a ha).1
  have h2 := (hr b hb).1
  rw [jn_val, h t ht, if_neg (by omega)]
theorem join_c {n : Nat} {S : St} {N : Nat} {rep : Nat → Nat} (hn : 11 ≤ n) (hN : N ≤ 10) (h : CSm S N rep) (hr : Rp N rep) {a b : Nat} (ha : a < N) (hb : b < N) :
    ∃ r T, f_X2_join n S (nI a) (nI b) = some (r, T) ∧ Keeps wr_X2_join S T ∧ ((r = 0 ∧ T = S ∧ rep a = rep b) ∨ (r = 1 ∧ rep a ≠ rep b ∧ CSm T N (jn rep a b))) := by
  suffices hh : ∃ r T, f_X2_join n S (nI a) (nI b) = some (r, T) ∧ ((r = 0 ∧ T = S ∧ rep a = rep b) ∨ (r = 1 ∧ rep a ≠ rep b ∧ CSm T N (jn rep a b))) by
    obtain ⟨r, T, x, y⟩ := hh
    exact ⟨r, T, x, fr_X2_join n S _ _ r T x, y⟩
  have ra := h.lt hr (t := a) (by omega)
  have rb := h.lt hr (t := b) (by omega)
  unfold f_X2_join
  rw [bo_some (sm_c h (by omega))]
  simp only [bd]
  rw [bo_some (sm_c h (by omega))]
  by_cases e : rep a = rep b
  · rw [if_pos (by rw [e])]
    exact ⟨0, S, rfl, Or.inl ⟨rfl, rfl, e⟩⟩
  · rw [if_neg (by rw [nI_eq (by omega) (by omega)]; exact e)]
    have e5 : (if nI (rep b) < nI (rep a) then nI (rep b) else nI (rep a)) = nI (if rep a < rep b then rep a else rep b) := by
      by_cases c : rep a < rep b
      · rw [if_pos c, if_neg (by rw [nI_ltI (by omega) (by omega)]; omega)]
      · rw [if_neg c, if_pos (by rw [nI_ltI (by omega) (by omega)]; omega)]
    rw [e5]
    refine for_up (α := Int32 × St) (f_X2_join_32 n (nI (rep a)) (nI (rep b)) (nI (if rep a < rep b then rep a else rep b))) (fun _ _ => none) 10 (fun i T => ∀ t, t < 10 → T.1 22 t = nI (if t < i then jn rep a b t else rep t)) (fun o => ∃ r T, o = some (r, T) ∧ ((r = 0 ∧ T = S ∧ rep a = rep b) ∨ (r = 1 ∧ rep a ≠ rep b ∧ CSm T N (jn rep a b)))) ?_ ?_ n 0 S (by omega) (by omega) (fun t ht => by rw [if_neg (by omega)]; exact h.1 t ht)
    · intro i T k hi hI
      right
      have ri := h.lt hr hi
      have st : ∀ T, f_X2_join_71 n (nI (rep a)) (nI (rep b)) (nI (if rep a < rep b then rep a else rep b)) k T (nI i) = k T (nI (i + 1)) := fun T => by unfold f_X2_join_71; simp only [bd]; rw [nI_1]
      have wr : f_X2_join_62 n (nI (rep a)) (nI (rep b)) (nI (if rep a < rep b then rep a else rep b)) k T (nI i) = k (sI T 22 i (nI (if rep a < rep b then rep a else rep b))) (nI (i + 1)) := by
        unfold f_X2_join_62
        rw [if_neg (nI_bad hi (by omega)), nI_c (by omega)]
        simp only [bd]
        exact st _
      have ok : (rep i = rep a ∨ rep i = rep b) → ∀ t, t < 10 → (sI T 22 i (nI (if rep a < rep b then rep a else rep b))).1 22 t = nI (if t < i + 1 then jn rep a b t else rep t) := fun hc t ht => by
        by_cases et : t = i
        · subst et
          rw [if_pos (show t < t + 1 by omega), jn_val, if_pos hc]
          simp [sI]
        · simp only [sI, et, and_false, if_false]
          rw [hI t ht]
          by_cases el : t < i
          · rw [if_pos el, if_pos (by omega)]
          · rw [if_neg el, if_neg (by omega)]
      unfold f_X2_join_32
      rw [if_neg (by rw [show (10 : Int32) = nI 10 from rfl, nI_leI (by omega) (by omega)]; omega), if_neg (nI_bad hi (by omega)), nI_c (by omega), hI i hi, if_neg (Nat.lt_irrefl i)]
      by_cases c1 : rep i = rep a
      · rw [if_pos (by rw [c1]), wr]
        exact ⟨_, ok (Or.inl c1), rfl⟩
      · rw [if_neg (by rw [nI_eq (by omega) (by omega)]; exact c1), if_neg (fun hc => hc.elim (nI_pos (by omega)) (by omega))]
        by_cases c2 : rep i = rep b
        · rw [if_pos (by rw [c2]), wr]
          exact ⟨_, ok (Or.inr c2), rfl⟩
        · rw [if_neg (by rw [nI_eq (by omega) (by omega)]; exact c2), st]
          refine ⟨T, fun t ht => ?_, rfl⟩
          rw [hI t ht]
          by_cases et : t = i
          · subst et
            rw [if_neg (by omega), if_pos (by omega), jn_val, if_neg (by omega)]
          · by_cases el : t < i
            · rw [if_pos el, if_pos (by omega)]
            · rw [if_neg el, if_neg (by omega)]
    · intro T k hI
      unfold f_X2_join_32
      rw [if_pos (by decide)]
      exact ⟨1, T, rfl, Or.inr ⟨rfl, e, ⟨fun t ht => by rw [hI t ht, if_pos ht], jn_out hr h.2 ha hb⟩⟩⟩
/-- the classes that the equalities alone make, literal by literal -/
def eqR (p : Pb) : Nat → Nat → Nat
  | 0 => fun t => t
  | k + 1 => if (lit p k).1 = 0 then jn (eqR p k) (lit p k).2.1 (lit p k).2.2.1 else eqR p k
theorem eqR_rp {p : Pb} (hwf : PbWf p) : ∀ k, k ≤ nL p → Rp (nT p) (eqR p k)
  | 0, _ => fun t _ => ⟨Nat.le_refl _, rfl⟩
  | k + 1, h => by
    have w := hwf.2.2.2.2.2 k (by omega)
    simp only [eqR]
    split
    · exact jn_rp (eqR_rp hwf k (by omega)) w.2.1 w.2.2.1
    · exact eqR_rp hwf k (by omega)
theorem jn_id {rep : Nat → Nat} {a b : Nat} (e : rep a = rep b) : jn rep a b = rep := by
  funext t
  unfold jn
  rw [e, if_neg (Nat.lt_irrefl _)]
  by_cases c : rep t = rep b
  · simp [c]
  · simp [c]
theorem equalities_c {n : Nat} {S : St} {p : Pb} (hn : 30 ≤ n) (hp : CRep S p) : ∃ T, f_X2_joinByEqualities n S = some ((), T) ∧ Keeps wr_X2_joinByEqualities S T ∧ CSm T (nT p) (eqR p (nL p)) := by
  suffices hh : ∃ T, f_X2_joinByEqualities n S = some ((), T) ∧ CSm T (nT p) (eqR p (nL p)) by
    obtain ⟨T, x, y⟩ := hh
    exact ⟨T, x, fr_X2_joinByEqualities n S _ T x, y⟩
  have hwf := hp.1
  have hT10 := hwf.2.1
  have hL10 := hwf.2.2.1
  unfold f_X2_joinByEqualities
  simp only [bd]
  refine for_up (α := Unit × St) (f_X2_joinByEqualities_2 n) (fun _ _ => none) 10 (fun i T => CRep T p ∧ ∀ t, t < i → T.1 22 t = nI t) (fun o => ∃ T, o = some ((), T) ∧ CSm T (nT p) (eqR p (nL p))) ?_ ?_ n 0 S (by omega) (by omega) ⟨hp, fun t ht => absurd ht (Nat.not_lt_zero _)⟩
  · rintro i T k hi ⟨q1, q2⟩
    right
    unfold f_X2_joinByEqualities_2
    rw [if_neg (by rw [show (10 : Int32) = nI 10 from rfl, nI_leI (by omega) (by omega)]; omega), if_neg (nI_bad hi (by omega)), nI_c (by omega)]
    simp only [bd]
    rw [nI_1]
    refine ⟨_, ⟨q1.keep (fun c hc => by funext j; simp only [sI]; rw [if_neg (by omega)]), fun t ht => ?_⟩, rfl⟩
    by_cases e : t = i
    · subst e; simp [sI]
    · simp only [sI, e, and_false, if_false]; exact q2 t (by omega)
  · rintro T k ⟨q1, q2⟩
    unfold f_X2_joinByEqualities_2
    rw [if_pos (by decide)]
    simp only [bd]
    refine for_up (α := Unit × St) (f_X2_joinByEqualities_23 n) (fun _ _ => none) (nL p) (fun i T => CRep T p ∧ CSm T (nT p) (eqR p i)) (fun o => ∃ T, o = some ((), T) ∧ CSm T (nT p) (eqR p (nL p))) ?_ ?_ n 0 T (by omega) (by omega) ⟨q1, ⟨q2, fun t ht => rfl⟩⟩
    · rintro i T k hi ⟨q1, q2⟩
      right
      have w := hwf.2.2.2.2.2 i hi
      have l := q1.2.2.2.2.2.2 i hi
      have hsz := q1.2.2.2.2.2.1
      have st : ∀ T, f_X2_joinByEqualities_66 n k T (nI i) = k T (nI (i + 1)) := fun T => by unfold f_X2_joinByEqualities_66; simp only [bd]; rw [nI_1]
      unfold f_X2_joinByEqualities_23
      rw [bo_some (size3 q1), if_neg (by rw [nI_leI (by omega) (by omega)]; omega), bo_some (kind3 hsz hL10 hi), l.1]
      by_cases e : (lit p i).1 = 0
      · rw [if_pos (by rw [e]; rfl), bo_some (left3 hsz hL10 hi), bo_some (right3 hsz hL10 hi), l.2.1, l.2.2.1]
        obtain ⟨r, U, u1, u2, u3⟩ := join_c (n := n) (by omega) hT10 q2 (eqR_rp hwf i (by omega)) w.2.1 w.2.2.1
        rw [bo_some u1, st]
        refine ⟨U, ⟨q1.keep (fun c hc => (u2 c (by unfold wr_X2_join; omega)).1), ?_⟩, rfl⟩
        simp only [eqR, if_pos e]
        rcases u3 with ⟨-, rfl, u4⟩ | ⟨-, -, u4⟩
        · rw [jn_id u4]; exact q2
        · exact u4
      · rw [if_neg (by rw [show (0 : Int32) = nI 0 from rfl, nI_eq (by omega) (by omega)]; exact e), st]
        refine ⟨T, ⟨q1, ?_⟩, rfl⟩
        simp only [eqR, if_neg e]; exact q2
    · rintro T k ⟨q1, q2⟩
      unfold f_X2_joinByEqualities_23
      rw [bo_some (size3 q1), if_pos (by rw [nI_leI (by omega) (by omega)]; omega)]
      exact ⟨T, rfl, q2⟩
/-- two terms whose parts are the same -/
def Cg (p : Pb) (rep : Nat → Nat) (s t : Nat) : Prop := (tm p s).1 = (tm p t).1 ∧ rep (tm p s).2.1 = rep (tm p t).2.1 ∧ ((tm p s).1 = 2 → rep (tm p s).2.2 = rep (tm p t).2.2)
theorem args_c {n : Nat} {S : St} {p : Pb} {rep : Nat → Nat} (hp : CRep S p) (h : CSm S (nT p) rep) (hr : Rp (nT p) rep) {s t : Nat} (h5 : 5 ≤ s) (hs : s < nT p) (h5t : 5 ≤ t) (ht : t < nT p) : ∃ r, f_X2_haveSameArguments n S (nI s) (nI t) = some (r, S) ∧ ((r = 1 ∧ Cg p rep s t) ∨ (r = 0 ∧ ¬ Cg p rep s t)) := by
  obtain ⟨hwf, hsz, hkd, hfs, -⟩ := id hp
  have hT10 := hwf.2.1
  have ws := hwf.2.2.2.2.1 s h5 hs
  have wt := hwf.2.2.2.2.1 t h5t ht
  obtain ⟨fs1, fs2⟩ := hfs s h5 hs
  obtain ⟨ft1, ft2⟩ := hfs t h5t ht
  have e8s : S.1 (6 + 2) s = nI (tm p s).2.1 := fs1
  have e8t : S.1 (6 + 2) t = nI (tm p t).2.1 := ft1
  have e9s : S.1 (6 + 3) s = _ := fs2
  have e9t : S.1 (6 + 3) t = _ := ft2
  obtain ⟨r, a1, a2⟩ := same7 (n := n) hp h5 hs ht h5t
  unfold f_X2_haveSameArguments
  rw [bo_some a1]
  rcases a2 with ⟨rfl, a2⟩ | ⟨rfl, a2⟩
  · have b1 := h.lt hr (t := (tm p s).2.1) (by omega)
    have b2 := h.lt hr (t := (tm p t).2.1) (by omega)
    rw [if_neg (by decide), bo_some (first7 hsz hT10 hs), e8s, bo_some (sm_c h (by omega)), bo_some (first7 hsz hT10 ht), e8t, bo_some (sm_c h (by omega))]
    by_cases e1 : rep (tm p s).2.1 = rep (tm p t).2.1
    · rw [if_pos (by rw [e1]), bo_some (second7 hsz hT10 hs), e9s]
      by_cases e2 : (tm p s).1 = 2
      · rw [if_pos e2] at e9s ⊢
        rw [if_pos (by omega)] at e9t
        have b3 := h.lt hr (t := (tm p s).2.2) (by omega)
        have b4 := h.lt hr (t := (tm p t).2.2) (by omega)
        rw [bo_some (sm_c h (by omega)), bo_some (second7 hsz hT10 ht), e9t, bo_some (sm_c h (by omega))]
        by_cases e3 : rep (tm p s).2.2 = rep (tm p t).2.2
        · rw [if_pos (by rw [e3])]; exact ⟨1, rfl, Or.inl ⟨rfl, a2, e1, fun _ => e3⟩⟩
        · rw [if_neg (by rw [nI_eq (by omega) (by omega)]; exact e3)]; exact ⟨0, rfl, Or.inr ⟨rfl, fun hc => e3 (hc.2.2 e2)⟩⟩
      · rw [if_neg e2] at e9s ⊢
        rw [if_neg (by omega)] at e9t
        rw [bo_some sm_none, bo_some (second7 hsz hT10 ht), e9t, bo_some sm_none, if_pos rfl]
        exact ⟨1, rfl, Or.inl ⟨rfl, a2, e1, fun hc => absurd hc e2⟩⟩
    · rw [if_neg (by rw [nI_eq (by omega) (by omega)]; exact e1)]; exact ⟨0, rfl, Or.inr ⟨rfl, fun hc => e1 hc.2.1⟩⟩
  · rw [if_pos rfl]; exact ⟨0, rfl, Or.inr ⟨rfl, fun hc => a2 hc.1⟩⟩
