/-! THE CLASS'S EXCHANGE: joining by distances, inequalities, the rounds -/
theorem areEqual_c {n q : Nat} {S : St} {s t : Nat} (hs : s < 10) (ht : t < 10) : ∃ r, f_X1_areEqual n q S (nI s) (nI t) = some (r, S) ∧ ((r = 1 ∧ cM S q s t = 0 ∧ cM S q t s = 0) ∨ (r = 0 ∧ ¬ (cM S q s t = 0 ∧ cM S q t s = 0))) := by
  unfold f_X1_areEqual
  have e1 : ∀ s t : Nat, lg_cmp (S.2 (q + 25) (s * 10 + t)) 0 = 0 ↔ cM S q s t = 0 := fun s t => by rw [c_eq, z64]; exact Iff.rfl
  rw [bo_some (between_c hs ht)]
  by_cases c1 : cM S q s t = 0
  · rw [if_pos ((e1 s t).mpr c1), bo_some (between_c ht hs)]
    by_cases c2 : cM S q t s = 0
    · rw [if_pos ((e1 t s).mpr c2)]; exact ⟨1, rfl, Or.inl ⟨rfl, c1, c2⟩⟩
    · rw [if_neg (fun hc => c2 ((e1 t s).mp hc))]; exact ⟨0, rfl, Or.inr ⟨rfl, fun hc => c2 hc.2⟩⟩
  · rw [if_neg (fun hc => c1 ((e1 s t).mp hc))]; exact ⟨0, rfl, Or.inr ⟨rfl, fun hc => c1 hc.1⟩⟩
def Tx (p : Pb) (rep : Nat → Nat) : Prop := ∃ s t, s < nT p ∧ t < nT p ∧ Tight p rep s t ∧ rep s ≠ rep t
theorem Tight.symm {p : Pb} {rep : Nat → Nat} {s t : Nat} (h : Tight p rep s t) : Tight p rep t s := ⟨h.2, h.1⟩
theorem qt_of {p : Pb} {rep r2 : Nat → Nat} (h : ∀ a b, a < nT p → a < b → b < nT p → Tight p rep a b → r2 a = r2 b) : Qt p rep (Er r2) := by
  intro s t hs ht hT
  show r2 s = r2 t
  by_cases c : s = t
  · rw [c]
  · by_cases c2 : s < t
    · exact h s t hs c2 ht hT
    · exact (h t s ht (by omega) hs hT.symm).symm
theorem tight_c {n : Nat} {S : St} {p : Pb} {rep : Nat → Nat} (hn : 30 ≤ n) (hp : CRep S p) (h : CSm S (nT p) rep) (hr : Rp (nT p) rep) (hD : Dist p rep FC (cM S 96)) (hd : ∀ i, i < nT p → 0 ≤ cM S 96 i i) : ∃ r T r2, f_X2_joinByDistances n S = some (r, T) ∧ Keeps wr_X2_joinByDistances S T ∧ CSm T (nT p) r2 ∧ JR (nT p) (Qt p rep) rep r2 ∧ Qt p rep (Er r2) ∧ ((r = 1 ∧ Tx p rep) ∨ (r = 0 ∧ ¬ Tx p rep)) := by
  suffices hh : ∃ r T r2, f_X2_joinByDistances n S = some (r, T) ∧ CSm T (nT p) r2 ∧ JR (nT p) (Qt p rep) rep r2 ∧ Qt p rep (Er r2) ∧ ((r = 1 ∧ Tx p rep) ∨ (r = 0 ∧ ¬ Tx p rep)) by
    obtain ⟨r, T, r2, x, y⟩ := hh
    exact ⟨r, T, r2, x, fr_X2_joinByDistances n S _ T x, y⟩
  have hwf := hp.1
  have hT5 := hwf.1
  have hT10 := hwf.2.1
  have F0 : (0 : Int) < FC := by decide
  unfold f_X2_joinByDistances
  simp only [bd]
  refine for_up2' (α := Int32 × St) (β := Int32) (f_X2_joinByDistances_4 n) (fun _ _ _ => none) (nT p) (fun s T x => CRep T p ∧ T.2 121 = S.2 121 ∧ ∃ r2, CSm T (nT p) r2 ∧ JR (nT p) (Qt p rep) rep r2 ∧ (∀ a b, a < s → a < b → b < nT p → Tight p rep a b → r2 a = r2 b) ∧ ((x = 1 ∧ Tx p rep) ∨ (x = 0 ∧ r2 = rep))) (fun o => ∃ r T r2, o = some (r, T) ∧ CSm T (nT p) r2 ∧ JR (nT p) (Qt p rep) rep r2 ∧ Qt p rep (Er r2) ∧ ((r = 1 ∧ Tx p rep) ∨ (r = 0 ∧ ¬ Tx p rep))) ?_ ?_ n 0 S 0 (by omega) (by omega) ⟨hp, rfl, rep, h, JR.rf hr, fun a b ha => absurd ha (Nat.not_lt_zero _), Or.inr ⟨rfl, rfl⟩⟩
  · rintro s T x k4 hs ⟨u1, u2, r2, u3, u4, u5, u6⟩
    right
    unfold f_X2_joinByDistances_4
    rw [bo_some (size7 u1), if_neg (by rw [nI_leI (by omega) (by omega)]; omega)]
    simp only [bd]
    rw [nI_1]
    refine for_up2' (α := Int32 × St) (β := Int32) (f_X2_joinByDistances_19 n (nI s) k4) (fun _ _ _ => none) (nT p) (fun t T x => s < t ∧ CRep T p ∧ T.2 121 = S.2 121 ∧ ∃ r2, CSm T (nT p) r2 ∧ JR (nT p) (Qt p rep) rep r2 ∧ (∀ a b, a < s → a < b → b < nT p → Tight p rep a b → r2 a = r2 b) ∧ (∀ b, s < b → b < t → Tight p rep s b → r2 s = r2 b) ∧ ((x = 1 ∧ Tx p rep) ∨ (x = 0 ∧ r2 = rep))) (fun o => ∃ T' x', (CRep T' p ∧ T'.2 121 = S.2 121 ∧ ∃ r2, CSm T' (nT p) r2 ∧ JR (nT p) (Qt p rep) rep r2 ∧ (∀ a b, a < s + 1 → a < b → b < nT p → Tight p rep a b → r2 a = r2 b) ∧ ((x' = 1 ∧ Tx p rep) ∨ (x' = 0 ∧ r2 = rep))) ∧ o = k4 T' x' (nI (s + 1))) ?_ ?_ n (s + 1) T x (by omega) (by omega) ⟨by omega, u1, u2, r2, u3, u4, u5, fun b _ _ => by omega, u6⟩
    · rintro t T x k19 ht ⟨hst, v1, v2, r2, v3, v4, v5, v6, v7⟩
      right
      have st : ∀ T x, f_X2_joinByDistances_53 n (nI s) k4 k19 T x (nI t) = k19 T x (nI (t + 1)) := fun T x => by unfold f_X2_joinByDistances_53; simp only [bd]; rw [nI_1]
      unfold f_X2_joinByDistances_19
      rw [bo_some (size7 v1), if_neg (by rw [nI_leI (by omega) (by omega)]; omega)]
      have eM : cM T 96 = cM S 96 := by unfold cM; rw [show (96 + 25) = 121 from rfl, v2]
      have eT := Dist.tight F0 hD hd hs ht
      obtain ⟨r, a1, a2⟩ := areEqual_c (n := n) (q := 96) (S := T) (s := s) (t := t) (by omega) (by omega)
      rw [eM, ← eT] at a2
      rw [bo_some a1]
      rcases a2 with ⟨rfl, a2⟩ | ⟨rfl, a2⟩
      · rw [if_neg (by decide)]
        obtain ⟨r, U, b1, b2, b3⟩ := join_c (n := n) (by omega) hT10 v3 v4.1 hs ht
        rw [bo_some b1]
        rcases b3 with ⟨rfl, rfl, b3⟩ | ⟨rfl, b3, b4⟩
        · rw [if_pos rfl, st]
          refine ⟨_, _, ⟨by omega, v1, v2, r2, v3, v4, v5, fun b hb1 hb2 hb3 => ?_, v7⟩, rfl⟩
          by_cases e : b = t
          · subst e; exact b3
          · exact v6 b hb1 (by omega) hb3
        · rw [if_neg (by decide)]
          simp only [bd]
          rw [st]
          refine ⟨_, _, ⟨by omega, v1.keep (fun c hc => (b2 c (by unfold wr_X2_join; omega)).1), by rw [(b2 121 (by unfold wr_X2_join; omega)).2, v2], _, b4, v4.join hs ht (fun R hR hQ _ => hQ s t hs ht a2), fun a b ha hb hc hd => jn_keep (v5 a b ha hb hc hd), fun b hb1 hb2 hb3 => ?_, Or.inl ⟨rfl, s, t, hs, ht, a2, fun e => b3 (v4.2.1 _ _ e)⟩⟩, rfl⟩
          by_cases e : b = t
          · subst e; exact jn_same
          · exact jn_keep (v6 b hb1 (by omega) hb3)
      · rw [if_pos rfl, st]
        refine ⟨_, _, ⟨by omega, v1, v2, r2, v3, v4, v5, fun b hb1 hb2 hb3 => ?_, v7⟩, rfl⟩
        by_cases e : b = t
        · subst e; exact absurd hb3 a2
        · exact v6 b hb1 (by omega) hb3
    · rintro T x k19 ⟨hst, v1, v2, r2, v3, v4, v5, v6, v7⟩
      unfold f_X2_joinByDistances_19
      rw [bo_some (size7 v1), if_pos (by rw [nI_leI (by omega) (by omega)]; omega)]
      simp only [bd]
      rw [nI_1]
      refine ⟨_, _, ⟨v1, v2, r2, v3, v4, fun a b ha hb hc hd => ?_, v7⟩, rfl⟩
      by_cases e : a = s
      · subst e; exact v6 b hb hc hd
      · exact v5 a b (by omega) hb hc hd
  · rintro T x k4 ⟨u1, u2, r2, u3, u4, u5, u6⟩
    unfold f_X2_joinByDistances_4
    rw [bo_some (size7 u1), if_pos (by rw [nI_leI (by omega) (by omega)]; omega), if_neg (by rcases u6 with ⟨rfl, -⟩ | ⟨rfl, -⟩ <;> decide)]
    have hq := qt_of u5
    refine ⟨x, T, r2, rfl, u3, u4, hq, u6.imp id (fun ⟨z1, z2⟩ => ⟨z1, ?_⟩)⟩
    rintro ⟨s, t, h1, h2, h3, h4⟩
    subst z2
    exact h4 (hq s t h1 h2 h3)
def Vi (p : Pb) (rep : Nat → Nat) : Prop := ∃ i, i < nL p ∧ (lit p i).1 = 1 ∧ rep (lit p i).2.1 = rep (lit p i).2.2.1
theorem violates_c {n : Nat} {S : St} {p : Pb} {rep : Nat → Nat} (hn : 30 ≤ n) (hp : CRep S p) (h : CSm S (nT p) rep) (hr : Rp (nT p) rep) : ∃ r, f_X2_violatesInequality n S = some (r, S) ∧ ((r = 1 ∧ Vi p rep) ∨ (r = 0 ∧ ¬ Vi p rep)) := by
  have hwf := hp.1
  have hT10 := hwf.2.1
  have hL10 := hwf.2.2.1
  have hsz := hp.2.2.2.2.2.1
  unfold f_X2_violatesInequality
  simp only [bd]
  refine for_up (α := Int32 × St) (f_X2_violatesInequality_2 n) (fun _ _ => none) (nL p) (fun i T => T = S ∧ ∀ k, k < i → (lit p k).1 = 1 → rep (lit p k).2.1 ≠ rep (lit p k).2.2.1) (fun o => ∃ r, o = some (r, S) ∧ ((r = 1 ∧ Vi p rep) ∨ (r = 0 ∧ ¬ Vi p rep))) ?_ ?_ n 0 S (by omega) (by omega) ⟨rfl, fun k hk => absurd hk (Nat.not_lt_zero _)⟩
  · rintro i T k hi ⟨rfl, q2⟩
    have w := hwf.2.2.2.2.2 i hi
    have l := hp.2.2.2.2.2.2 i hi
    have b1 := h.lt hr (t := (lit p i).2.1) (by omega)
    have b2 := h.lt hr (t := (lit p i).2.2.1) (by omega)
    have st : ∀ T, f_X2_violatesInequality_54 n k T (nI i) = k T (nI (i + 1)) := fun T => by unfold f_X2_violatesInequality_54; simp only [bd]; rw [nI_1]
    have ok : ¬ ((lit p i).1 = 1 ∧ rep (lit p i).2.1 = rep (lit p i).2.2.1) → ∀ k, k < i + 1 → (lit p k).1 = 1 → rep (lit p k).2.1 ≠ rep (lit p k).2.2.1 := fun hc j hj hj2 hj3 => by
      by_cases e : j = i
      · subst e; exact hc ⟨hj2, hj3⟩
      · exact q2 j (by omega) hj2 hj3
    unfold f_X2_violatesInequality_2
    rw [bo_some (size3 hp), if_neg (by rw [nI_leI (by omega) (by omega)]; omega), bo_some (kind3 hsz hL10 hi), l.1]
    by_cases e : (lit p i).1 = 1
    · rw [if_pos (by rw [e]; rfl), bo_some (left3 hsz hL10 hi), l.2.1, bo_some (sm_c h (by omega)), bo_some (right3 hsz hL10 hi), l.2.2.1, bo_some (sm_c h (by omega))]
      by_cases e2 : rep (lit p i).2.1 = rep (lit p i).2.2.1
      · left
        rw [if_pos (by rw [e2])]
        exact ⟨1, rfl, Or.inl ⟨rfl, i, hi, e, e2⟩⟩
      · right
        rw [if_neg (by rw [nI_eq (by omega) (by omega)]; exact e2), st]
        exact ⟨_, ⟨rfl, ok (fun hc => e2 hc.2)⟩, rfl⟩
    · right
      rw [if_neg (by rw [show (1 : Int32) = nI 1 from rfl, nI_eq (by omega) (by omega)]; exact e), st]
      exact ⟨_, ⟨rfl, ok (fun hc => e hc.1)⟩, rfl⟩
  · rintro T k ⟨rfl, q2⟩
    unfold f_X2_violatesInequality_2
    rw [bo_some (size3 hp), if_pos (by rw [nI_leI (by omega) (by omega)]; omega)]
    exact ⟨0, rfl, Or.inr ⟨rfl, fun ⟨i, h1, h2, h3⟩ => q2 i h1 h2 h3⟩⟩
/-- what the exchange leaves in the class -/
def CEx (p : Pb) (rep0 : Nat → Nat) (b : Nat) (T : St) : Prop := ∃ k repf, ExR p k rep0 (T.1 21 5 = 1) repf ∧ T.1 21 4 = nI (b + k) ∧ b + k ≤ 10 ∧ CSm T (nT p) repf ∧ Rp (nT p) repf ∧ (T.1 21 5 = 0 ∨ T.1 21 5 = 1) ∧ (T.1 21 5 = 0 → Dist p repf FC (cM T 96) ∧ Fin10 (cM T 96))
theorem Dist.congr {p : Pb} {r r' : Nat → Nat} {F : Int} {M : Mx} (h : Dist p r F M) (e : ∀ t, t < nT p → r t = r' t) : Dist p r' F M := by unfold Dist at *; rw [← exE_congr e]; exact h
theorem noTx_eq {p : Pb} {r1 r2 : Nat → Nat} (h1 : Rp (nT p) r1) (h : JR (nT p) (Qt p r1) r1 r2) (q : Qt p r1 (Er r2)) (hx : ¬ Tx p r1) : ∀ t, t < nT p → r1 t = r2 t := JR.uniq (JR.rf h1) h (fun _ _ => rfl) h1 h1 (fun s t hs ht hT => Classical.byContradiction (fun hc => hx ⟨s, t, hs, ht, hT, hc⟩)) q
theorem cloop {n : Nat} {p : Pb} (hn : 110 ≤ n) (hwf : PbWf p) : ∀ (d x : Nat) (S : St) (rep : Nat → Nat), 1 ≤ x → cnt rep (nT p) + x ≤ 11 → 13 ≤ d + x → CRep S p → CSm S (nT p) rep → Rp (nT p) rep → ∃ T, fixF (fun _ _ _ => none) (f_X2_run_8 n) d S 1 (nI x) = some ((), T) ∧ CEx p rep (x - 1) T := by
  have hT5 := hwf.1
  have hT10 := hwf.2.1
  intro d
  induction d with
  | zero => intro x S rep h1 h2 h3; omega
  | succ d ih =>
    intro x S rep h1 h2 h3 hp h hr
    have hc0 := cnt_pos hr (by omega)
    rw [fixF_s]
    rw [f_X2_run_8]
    rw [if_neg (by rw [show (10 : Int32) = nI 10 from rfl, nI_ltI (by omega) (by omega)]; omega), if_neg (by decide)]
    simp only [bd]
    have p1 : CRep (sI S 21 4 (nI x)) p := hp.keep (fun c hc => by funext j; simp only [sI]; rw [if_neg (by omega)])
    have c1 : CSm (sI S 21 4 (nI x)) (nT p) rep := h.keep (by funext j; simp [sI])
    have e1 : (sI S 21 4 (nI x)).1 21 4 = nI x := by simp [sI]
    generalize sI S 21 4 (nI x) = S1 at p1 c1 e1 ⊢
    obtain ⟨S2, r1, a1, a2, a3, a4, a5⟩ := congruence_c (n := n) (by omega) p1 c1 hr
    have p2 : CRep S2 p := p1.keep (fun c hc => (a2 c (by unfold wr_X2_joinByCongruence; omega)).1)
    rw [bo_some a1]
    obtain ⟨r, S3, b1, b2, b3⟩ := measure_c (n := n) hn p2 a3 a4.1
    have p3 : CRep S3 p := p2.keep (fun c hc => (b2 c (by unfold wr_X2_measure; omega)).1)
    have c3 : CSm S3 (nT p) r1 := a3.keep ((b2 22 (by unfold wr_X2_measure; omega)).1)
    have e3 : S3.1 21 = S1.1 21 := ((b2 21 (by unfold wr_X2_measure; omega)).1).trans ((a2 21 (by unfold wr_X2_joinByCongruence; omega)).1)
    rw [bo_some b1]
    rcases b3 with ⟨rfl, b3⟩ | ⟨rfl, b3, b4, b5⟩
    · rw [if_pos rfl]
      refine ⟨_, rfl, 1, r1, ⟨r1, a4, a5, Or.inl ⟨b3, rfl, by simp [sI], fun _ _ => rfl⟩⟩, ?_, by omega, c3.keep (by funext j; simp [sI]), a4.1, Or.inr (by simp [sI]), fun hc => ?_⟩
      · have : x - 1 + 1 = x := by omega
        rw [this, ← e1, ← e3]; simp [sI]
      · simp [sI] at hc
    · rw [if_neg (by decide)]
      obtain ⟨r, S4, r2, d1, d2, d3, d4, d5, d6⟩ := tight_c (n := n) (by omega) p3 c3 a4.1 b3 b4
      have p4 : CRep S4 p := p3.keep (fun c hc => (d2 c (by unfold wr_X2_joinByDistances; omega)).1)
      have e4 : S4.1 21 = S1.1 21 := ((d2 21 (by unfold wr_X2_joinByDistances; omega)).1).trans e3
      have m4 : cM S4 96 = cM S3 96 := by unfold cM; rw [(d2 (96 + 25) (by unfold wr_X2_joinByDistances; omega)).2]
      rw [bo_some d1, nI_1]
      have nN := Dist.noneg b3 b4
      rcases d6 with ⟨rfl, d6⟩ | ⟨rfl, d6⟩
      · have k1 : cnt r2 (nT p) < cnt r1 (nT p) := by
          obtain ⟨s, t, g1, g2, g3, g4⟩ := d6
          exact d4.cless a4.1 g1 g2 g4 (d5 s t g1 g2 g3)
        have k2 := a4.cmono hr
        obtain ⟨T, f1, k, repf, f2, f3, f4, f5⟩ := ih (x + 1) S4 r2 (by omega) (by omega) (by omega) p4 d3 d4.1
        exact ⟨T, f1, k + 1, repf, ⟨r1, a4, a5, Or.inr ⟨nN, r2, d4, d5, Or.inr ⟨d6, f2⟩⟩⟩, by rw [f3]; congr 1; omega, by omega, f5⟩
      · cases d with
        | zero => omega
        | succ d =>
          rw [fixF_s, f_X2_run_8]
          have e51 : (if (10 : Int32) < nI (x + 1) then f_X2_run_51 n S4 else if (0 : Int32) = 0 then f_X2_run_51 n S4 else bd (sI S4 21 4 (nI (x + 1))) fun (S_8 : St) => bo (f_X2_joinByCongruence n S_8) fun (_ : Unit) (S_10 : St) => bo (f_X2_measure n S_10) fun (r_12 : Int32) (S_13 : St) => if r_12 = 0 then (bd (sI S_13 21 5 (1 : Int32)) fun (S_21 : St) => some ((), S_21)) else (bo (f_X2_joinByDistances n S_13) fun (r_16 : Int32) (S_17 : St) => bd (r_16) fun (x1_19 : Int32) => bd (nI (x + 1) + (1 : Int32)) fun (x2_20 : Int32) => fixF (fun _ _ _ => none) (f_X2_run_8 n) d S_17 x1_19 x2_20)) = f_X2_run_51 n S4 := by
            split
            · rfl
            · rw [if_pos rfl]
          rw [e51]
          unfold f_X2_run_51
          obtain ⟨r, g1, g2⟩ := violates_c (n := n) (by omega) p4 d3 d4.1
          rw [bo_some g1, if_neg (by rcases g2 with ⟨rfl, -⟩ | ⟨rfl, -⟩ <;> decide)]
          simp only [bd]
          have e5 : (sI S4 21 5 r).1 21 5 = r := by simp [sI]
          refine ⟨_, rfl, 1, r2, ⟨r1, a4, a5, Or.inr ⟨nN, r2, d4, d5, Or.inl ⟨d6, rfl, ?_, fun _ _ => rfl⟩⟩⟩, ?_, by omega, d3.keep (by funext j; simp [sI]), d4.1, ?_, fun _ => ⟨?_, ?_⟩⟩
          · rw [e5]
            rcases g2 with ⟨rfl, g2⟩ | ⟨rfl, g2⟩
            · exact ⟨fun _ => g2, fun _ => rfl⟩
            · exact ⟨fun hc => absurd hc (by decide), fun hc => absurd hc g2⟩
          · have : x - 1 + 1 = x := by omega
            rw [this, ← e1, ← e4]; simp [sI]
          · rw [e5]; rcases g2 with ⟨rfl, -⟩ | ⟨rfl, -⟩
            · exact Or.inr rfl
            · exact Or.inl rfl
          · have : cM (sI S4 21 5 r) 96 = cM S4 96 := rfl
            rw [this, m4]
            exact b3.congr (noTx_eq a4.1 d4 d5 d6)
          · have : cM (sI S4 21 5 r) 96 = cM S4 96 := rfl
            rw [this, m4]
            exact b5
theorem run_c {n : Nat} {S : St} {p : Pb} (hn : 110 ≤ n) (hp : CRep S p) : ∃ T, f_X2_run n S = some ((), T) ∧ CRep T p ∧ CEx p (eqR p (nL p)) 0 T := by
  have hwf := hp.1
  unfold f_X2_run
  obtain ⟨S1, a1, a2, a3⟩ := equalities_c (n := n) (by omega) hp
  rw [bo_some a1]
  simp only [bd]
  obtain ⟨T, b1, b2⟩ := cloop hn hwf n 1 S1 (eqR p (nL p)) (by omega) (by have := cnt_le (eqR p (nL p)) (nT p); have := hwf.2.1; omega) (by omega) (hp.keep (fun c hc => (a2 c (by unfold wr_X2_joinByEqualities; omega)).1)) a3 (eqR_rp hwf _ (by omega))
  refine ⟨T, b1, ?_, b2⟩
  have hf : f_X2_run n S = some ((), T) := by
    unfold f_X2_run; rw [bo_some a1]; simp only [bd]; exact b1
  exact hp.keep (fun c hc => (fr_X2_run n S _ T hf c (by unfold wr_X2_run; omega)).1)
