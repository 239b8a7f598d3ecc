/-! THE REFERENCE'S EXCHANGE: joining, congruence -/
def MSm (S : St) (N : Nat) (rep : Nat → Nat) : Prop := ∀ t, t < N → S.1 41 t = nI (rep t)
theorem MSm.keep {S T : St} {N : Nat} {rep : Nat → Nat} (h : MSm S N rep) (e : T.1 41 = S.1 41) : MSm T N rep := fun t ht => by rw [e]; exact h t ht
theorem join_m {n : Nat} {S : St} {N : Nat} {rep : Nat → Nat} (hn : 11 ≤ n) (hN : N ≤ 10) (hT : S.1 28 18 = nI N) (h : MSm S N rep) (hr : Rp N rep) {a b : Nat} (ha : a < N) (hb : b < N) :
    ∃ T, f_X9_join n S (nI a) (nI b) = some ((), T) ∧ Keeps wr_X9_join S T ∧ MSm T N (jn rep a b) := by
  suffices hh : ∃ T, f_X9_join n S (nI a) (nI b) = some ((), T) ∧ MSm T N (jn rep a b) by
    obtain ⟨T, x, y⟩ := hh
    exact ⟨T, x, fr_X9_join n S _ _ _ T x, y⟩
  have ra := (hr a ha).1
  have rb := (hr b hb).1
  have ga : ¬ (nI a < 0 ∨ 10 ≤ a) := fun hc => hc.elim (nI_pos (by omega)) (by omega)
  have gb : ¬ (nI b < 0 ∨ 10 ≤ b) := fun hc => hc.elim (nI_pos (by omega)) (by omega)
  have loop : ∀ hi lo : Nat, hi < 10 → hi = (if rep a < rep b then rep b else rep a) → lo = (if rep a < rep b then rep a else rep b) → ∃ T, fixF (fun _ _ => none) (f_X9_join_66 n (nI lo) (nI hi)) n S (0 : Int32) = some ((), T) ∧ MSm T N (jn rep a b) := by
    intro hi lo hhi ehi elo
    have jv : ∀ t, jn rep a b t = if rep t = hi then lo else rep t := fun t => by rw [ehi, elo]; rfl
    refine for_up (α := Unit × St) (f_X9_join_66 n (nI lo) (nI hi)) (fun _ _ => none) N (fun i T => T.1 28 18 = nI N ∧ ∀ t, t < N → T.1 41 t = nI (if t < i then jn rep a b t else rep t)) (fun o => ∃ T, o = some ((), T) ∧ MSm T N (jn rep a b)) ?_ ?_ n 0 S (by omega) (by omega) ⟨hT, fun t ht => by rw [if_neg (by omega)]; exact h t ht⟩
    · rintro i T k hi' ⟨q1, q2⟩
      right
      have ri := (hr i hi').1
      have wr : ∀ v : Int32, v = nI (jn rep a b i) → ∃ T', (T'.1 28 18 = nI N ∧ ∀ t, t < N → T'.1 41 t = nI (if t < i + 1 then jn rep a b t else rep t)) ∧ f_X9_join_104 n (nI lo) (nI hi) k T (nI i) (nI i) v = k T' (nI (i + 1)) := by
        intro v hv
        unfold f_X9_join_104
        rw [if_neg (nI_bad (by omega) (by omega)), nI_c (by omega)]
        simp only [bd]
        rw [nI_1]
        refine ⟨_, ⟨by simp only [sI]; rw [if_neg (by omega)]; exact q1, fun t ht => ?_⟩, rfl⟩
        by_cases et : t = i
        · subst et
          rw [if_pos (show t < t + 1 by omega), ← hv]; simp [sI]
        · simp only [sI, et, and_false, if_false]
          rw [q2 t ht]
          by_cases el : t < i
          · rw [if_pos el, if_pos (by omega)]
          · rw [if_neg el, if_neg (by omega)]
      unfold f_X9_join_66
      rw [q1, if_neg (by rw [nI_leI (by omega) (by omega)]; omega), if_neg (nI_bad (by omega) (by omega)), nI_c (by omega), q2 i hi', if_neg (Nat.lt_irrefl i)]
      by_cases c : rep i = hi
      · rw [if_pos (by rw [c])]
        exact wr _ (by rw [jv, if_pos c])
      · rw [if_neg (by rw [nI_eq (by omega) (by omega)]; exact c), if_neg (fun hc => hc.elim (nI_pos (by omega)) (by omega))]
        exact wr _ (by rw [jv, if_neg c])
    · rintro T k ⟨q1, q2⟩
      unfold f_X9_join_66
      rw [q1, if_pos (by rw [nI_leI (by omega) (by omega)]; omega)]
      exact ⟨T, rfl, fun t ht => by rw [q2 t ht, if_pos ht]⟩
  unfold f_X9_join f_X9_join_30 f_X9_join_61
  simp only [bd, nI_c (show a < 2 ^ 31 by omega), nI_c (show b < 2 ^ 31 by omega), if_neg ga, if_neg gb, h a ha, h b hb]
  by_cases c : rep a < rep b
  · have e : ¬ nI (rep b) ≤ nI (rep a) := by rw [nI_leI (by omega) (by omega)]; omega
    simp only [if_neg e]
    exact loop (rep b) (rep a) (by omega) (by rw [if_pos c]) (by rw [if_pos c])
  · have e : nI (rep b) ≤ nI (rep a) := by rw [nI_leI (by omega) (by omega)]; omega
    simp only [if_pos e]
    exact loop (rep a) (rep b) (by omega) (by rw [if_neg c]) (by rw [if_neg c])
theorem Cg.symm {p : Pb} {rep : Nat → Nat} {s t : Nat} (h : Cg p rep s t) : Cg p rep t s := ⟨h.1.symm, h.2.1.symm, fun e => (h.2.2 (h.1.trans e)).symm⟩
theorem alike_m {n : Nat} {S : St} {p : Pb} {rep : Nat → Nat} (hp : MRep S p) (h : MSm S (nT p) rep) (hr : Rp (nT p) rep) {a b : Nat} (h5 : 5 ≤ a) (ha : a < nT p) (h5b : 5 ≤ b) (hb : b < nT p) : ∃ r, f_X9_areAlike n S (nI a) (nI b) = some (r, S) ∧ ((r = 1 ∧ Cg p rep a b) ∨ (r = 0 ∧ ¬ Cg p rep a b)) := by
  obtain ⟨hwf, hsz, hkd, hfs, -⟩ := id hp
  have hT10 := hwf.2.1
  have wa := hwf.2.2.2.2.1 a h5 ha
  have wb := hwf.2.2.2.2.1 b h5b hb
  obtain ⟨fa1, fa2⟩ := hfs a h5 ha
  obtain ⟨fb1, fb2⟩ := hfs b h5b hb
  have ga : ¬ (nI a < 0 ∨ 64 ≤ a) := fun hc => hc.elim (nI_pos (by omega)) (by omega)
  have gb : ¬ (nI b < 0 ∨ 64 ≤ b) := fun hc => hc.elim (nI_pos (by omega)) (by omega)
  have g1 : ∀ x : Nat, x < 10 → ¬ (nI x < 0 ∨ 10 ≤ x) := fun x hx hc => hc.elim (nI_pos (by omega)) (by omega)
  have ra1 := (hr (tm p a).2.1 (by omega)).1
  have rb1 := (hr (tm p b).2.1 (by omega)).1
  unfold f_X9_areAlike f_X9_areAlike_53 f_X9_areAlike_54 f_X9_areAlike_94
  simp only [bd]
  rw [if_neg (nI_bad (by omega) (by omega)), nI_c (show a < 2 ^ 31 by omega), nI_c (show b < 2 ^ 31 by omega), hkd a ha, hkd b hb, if_neg (by rw [show (0 : Int32) = nI 0 from rfl, nI_leI (by omega) (by omega)]; omega), if_neg ga, if_neg gb]
  by_cases e : (tm p a).1 = (tm p b).1
  · rw [if_pos (by rw [e])]
    rw [if_neg ga, fa1, fb1, nI_c (show (tm p a).2.1 < 2 ^ 31 by omega), nI_c (show (tm p b).2.1 < 2 ^ 31 by omega), if_neg (g1 _ (by omega)), if_neg gb, if_neg (g1 _ (by omega)), h _ (show (tm p a).2.1 < nT p by omega), h _ (show (tm p b).2.1 < nT p by omega)]
    by_cases e1 : rep (tm p a).2.1 = rep (tm p b).2.1
    · rw [if_pos (by rw [e1]), if_neg (by decide), if_neg ga]
      by_cases e2 : (tm p a).1 = 1
      · rw [if_pos (by rw [e2]; rfl)]
        exact ⟨1, rfl, Or.inl ⟨rfl, e, e1, fun hc => by omega⟩⟩
      · have ek : (tm p a).1 = 2 := by omega
        have ekb : (tm p b).1 = 2 := by omega
        rw [if_neg (by rw [show (1 : Int32) = nI 1 from rfl, nI_eq (by omega) (by omega)]; exact e2), if_neg ga]
        rw [if_pos ek] at fa2
        rw [if_pos ekb] at fb2
        have ra2 := (hr (tm p a).2.2 (by omega)).1
        have rb2 := (hr (tm p b).2.2 (by omega)).1
        rw [fa2, fb2, nI_c (show (tm p a).2.2 < 2 ^ 31 by omega), nI_c (show (tm p b).2.2 < 2 ^ 31 by omega), if_neg (g1 _ (by omega)), if_neg gb, if_neg (g1 _ (by omega)), h _ (show (tm p a).2.2 < nT p by omega), h _ (show (tm p b).2.2 < nT p by omega)]
        by_cases e3 : rep (tm p a).2.2 = rep (tm p b).2.2
        · rw [if_pos (by rw [e3])]; exact ⟨1, rfl, Or.inl ⟨rfl, e, e1, fun _ => e3⟩⟩
        · rw [if_neg (by rw [nI_eq (by omega) (by omega)]; exact e3)]; exact ⟨0, rfl, Or.inr ⟨rfl, fun hc => e3 (hc.2.2 ek)⟩⟩
    · rw [if_neg (by rw [nI_eq (by omega) (by omega)]; exact e1), if_pos trivial]
      exact ⟨0, rfl, Or.inr ⟨rfl, fun hc => e1 hc.2.1⟩⟩
  · rw [if_neg (by rw [nI_eq (by omega) (by omega)]; exact e), if_pos trivial]
    exact ⟨0, rfl, Or.inr ⟨rfl, fun hc => e hc.1⟩⟩
theorem MRep.k41 {S T : St} {p : Pb} (h : MRep S p) (k : Keeps (fun c => c = 41) S T) : MRep T p := h.keep (fun c hc => (k c (by intro e; omega)).1) (by rw [(k 28 (by decide)).1]) (by rw [(k 28 (by decide)).1])
/-- one pass -/
theorem pass_m {n : Nat} {p : Pb} {rep r1 : Nat → Nat} (hn : 30 ≤ n) (k2 : St → Int32 → Option (Unit × St)) {S : St} (hp : MRep S p) (h : MSm S (nT p) r1) (hj : JR (nT p) (Qc p) rep r1) : ∃ T x r2, fixF (fun _ _ _ => none) (f_X9_growSame_10 n k2) n S 0 (5 : Int32) = k2 T x ∧ MRep T p ∧ MSm T (nT p) r2 ∧ JR (nT p) (Qc p) rep r2 ∧ ((x = 1 ∧ cnt r2 (nT p) < cnt r1 (nT p)) ∨ (x = 0 ∧ r2 = r1 ∧ ∀ a b, 5 ≤ b → b < a → a < nT p → Cg p r1 a b → r1 a = r1 b)) := by
  have hwf := hp.1
  have hT5 := hwf.1
  have hT10 := hwf.2.1
  refine for_up2' (α := Unit × St) (β := Int32) (f_X9_growSame_10 n k2) (fun _ _ _ => none) (nT p) (fun s T x => 5 ≤ s ∧ MRep T p ∧ ∃ r2, MSm T (nT p) r2 ∧ JR (nT p) (Qc p) rep r2 ∧ ((x = 1 ∧ cnt r2 (nT p) < cnt r1 (nT p)) ∨ (x = 0 ∧ r2 = r1 ∧ ∀ a b, 5 ≤ b → b < a → a < s → Cg p r1 a b → r1 a = r1 b))) (fun o => ∃ T x r2, o = k2 T x ∧ MRep T p ∧ MSm T (nT p) r2 ∧ JR (nT p) (Qc p) rep r2 ∧ ((x = 1 ∧ cnt r2 (nT p) < cnt r1 (nT p)) ∨ (x = 0 ∧ r2 = r1 ∧ ∀ a b, 5 ≤ b → b < a → a < nT p → Cg p r1 a b → r1 a = r1 b))) ?_ ?_ n 5 S 0 (by omega) (by omega) ⟨by omega, hp, r1, h, hj, Or.inr ⟨rfl, rfl, fun a b _ _ _ => by omega⟩⟩
  · rintro s T x k10 hs ⟨h5, u1, r2, u2, u3, u4⟩
    right
    unfold f_X9_growSame_10
    rw [u1.2.1, if_neg (by rw [nI_leI (by omega) (by omega)]; omega)]
    simp only [bd]
    refine for_up2' (α := Unit × St) (β := Int32) (f_X9_growSame_20 n (nI s) k2 k10) (fun _ _ _ => none) s (fun t T x => 5 ≤ t ∧ MRep T p ∧ ∃ r2, MSm T (nT p) r2 ∧ JR (nT p) (Qc p) rep r2 ∧ ((x = 1 ∧ cnt r2 (nT p) < cnt r1 (nT p)) ∨ (x = 0 ∧ r2 = r1 ∧ (∀ a b, 5 ≤ b → b < a → a < s → Cg p r1 a b → r1 a = r1 b) ∧ ∀ b, 5 ≤ b → b < t → Cg p r1 s b → r1 s = r1 b))) (fun o => ∃ T' x', (5 ≤ s + 1 ∧ MRep T' p ∧ ∃ r2, MSm T' (nT p) r2 ∧ JR (nT p) (Qc p) rep r2 ∧ ((x' = 1 ∧ cnt r2 (nT p) < cnt r1 (nT p)) ∨ (x' = 0 ∧ r2 = r1 ∧ ∀ a b, 5 ≤ b → b < a → a < s + 1 → Cg p r1 a b → r1 a = r1 b))) ∧ o = k10 T' x' (nI (s + 1))) ?_ ?_ n 5 T x (by omega) (by omega) ⟨by omega, u1, r2, u2, u3, u4.imp id (fun ⟨z1, z2, z3⟩ => ⟨z1, z2, z3, fun b _ _ => by omega⟩)⟩
    · rintro t T x k20 hts ⟨h5t, v1, r2, v2, v3, v4⟩
      right
      have st : ∀ T x, f_X9_growSame_57 n (nI s) k2 k10 k20 T x (nI t) = k20 T x (nI (t + 1)) := fun T x => by unfold f_X9_growSame_57; simp only [bd]; rw [nI_1]
      have rs := (v3.1 s hs).1
      have rt := (v3.1 t (by omega)).1
      unfold f_X9_growSame_20
      rw [if_neg (by rw [nI_leI (by omega) (by omega)]; omega), if_neg (nI_bad (by omega) (by omega)), if_neg (nI_bad (by omega) (by omega)), nI_c (by omega), nI_c (by omega), v2 s hs, v2 t (by omega)]
      by_cases c : r2 s = r2 t
      · rw [if_pos (by rw [c]), st]
        refine ⟨_, _, ⟨by omega, v1, r2, v2, v3, v4.imp id (fun ⟨z1, z2, z3, z4⟩ => ⟨z1, z2, z3, fun b hb1 hb2 hb3 => ?_⟩)⟩, rfl⟩
        by_cases e : b = t
        · subst e; rw [← z2]; exact c
        · exact z4 b hb1 (by omega) hb3
      · rw [if_neg (by rw [nI_eq (by omega) (by omega)]; exact c)]
        obtain ⟨r, a1, a2⟩ := alike_m (n := n) v1 v2 v3.1 h5 hs h5t (by omega)
        rw [bo_some a1]
        rcases a2 with ⟨rfl, a2⟩ | ⟨rfl, a2⟩
        · rw [if_neg (by decide)]
          obtain ⟨U, b1, b2, b3⟩ := join_m (n := n) (by omega) hT10 v1.2.1 v2 v3.1 hs (show t < nT p by omega)
          rw [bo_some b1]
          simp only [bd]
          rw [st]
          refine ⟨_, _, ⟨by omega, v1.k41 b2, _, b3, v3.join hs (by omega) (fun R hR hQ hs' => hR.2.1 _ _ (Cg.rel hwf rfl h5t hts hs a2.symm R hR hQ hs')), Or.inl ⟨rfl, ?_⟩⟩, rfl⟩
          have c1 := jn_cnt v3.1 hs (show t < nT p by omega) c
          rcases v4 with ⟨-, z⟩ | ⟨-, rfl, -⟩
          · omega
          · exact c1
        · rw [if_pos rfl, st]
          refine ⟨_, _, ⟨by omega, v1, r2, v2, v3, v4.imp id (fun ⟨z1, z2, z3, z4⟩ => ⟨z1, z2, z3, fun b hb1 hb2 hb3 => ?_⟩)⟩, rfl⟩
          by_cases e : b = t
          · subst e; rw [← z2] at hb3; exact absurd hb3 a2
          · exact z4 b hb1 (by omega) hb3
    · rintro T x k20 ⟨h5t, v1, r2, v2, v3, v4⟩
      unfold f_X9_growSame_20
      rw [if_pos (by rw [nI_leI (by omega) (by omega)]; omega)]
      simp only [bd]
      rw [nI_1]
      refine ⟨_, _, ⟨by omega, v1, r2, v2, v3, v4.imp id (fun ⟨z1, z2, z3, z4⟩ => ⟨z1, z2, fun a b ha hb hc hd => ?_⟩)⟩, rfl⟩
      by_cases e : a = s
      · subst e; exact z4 b ha hb hd
      · exact z3 a b ha hb (by omega) hd
  · rintro T x k10 ⟨h5, u1, r2, u2, u3, u4⟩
    unfold f_X9_growSame_10
    rw [u1.2.1, if_pos (by rw [nI_leI (by omega) (by omega)]; omega)]
    exact ⟨T, x, r2, rfl, u1, u2, u3, u4⟩
theorem grow_m {n : Nat} {S : St} {p : Pb} {rep : Nat → Nat} (hn : 30 ≤ n) (hp : MRep S p) (h : MSm S (nT p) rep) (hr : Rp (nT p) rep) : ∃ T r1, f_X9_growSame n S = some ((), T) ∧ Keeps wr_X9_growSame S T ∧ MSm T (nT p) r1 ∧ JR (nT p) (Qc p) rep r1 ∧ Qc p (Er r1) := by
  suffices hh : ∃ T r1, f_X9_growSame n S = some ((), T) ∧ MSm T (nT p) r1 ∧ JR (nT p) (Qc p) rep r1 ∧ Qc p (Er r1) by
    obtain ⟨T, r1, x, y⟩ := hh
    exact ⟨T, r1, x, fr_X9_growSame n S _ T x, y⟩
  have hwf := hp.1
  have hT10 := hwf.2.1
  have lp : ∀ (d : Nat) (S : St) (r1 : Nat → Nat), cnt r1 (nT p) + 2 ≤ d → MRep S p → MSm S (nT p) r1 → JR (nT p) (Qc p) rep r1 → ∃ T r1, fixF (fun _ _ => none) (f_X9_growSame_2 n) d S 1 = some ((), T) ∧ MSm T (nT p) r1 ∧ JR (nT p) (Qc p) rep r1 ∧ Qc p (Er r1) := by
    intro d
    induction d with
    | zero => intro S r1 h1; omega
    | succ d ih =>
      intro S r1 h1 hp h hj
      rw [fixF_s, f_X9_growSame_2, if_neg (by decide)]
      simp only [bd]
      obtain ⟨T, x, r2, a1, a2, a3, a4, a5⟩ := pass_m hn (fixF (fun _ _ => none) (f_X9_growSame_2 n) d) hp h hj
      rw [a1]
      rcases a5 with ⟨rfl, a5⟩ | ⟨rfl, rfl, a5⟩
      · exact ih T r2 (by omega) a2 a3 a4
      · cases d with
        | zero => omega
        | succ d =>
          rw [fixF_s, f_X9_growSame_2, if_pos rfl]
          exact ⟨T, r2, rfl, a3, a4, fun s t hs hst ht e1 e2 e3 => (a5 t s hs hst ht (Cg.symm ⟨e1, e2, e3⟩)).symm⟩
  unfold f_X9_growSame
  simp only [bd]
  exact lp n S rep (by have := cnt_le rep (nT p); omega) hp h (JR.rf hr)
