/-! NUMBERS ANEW: a former term's new number is what its symbols build -/
theorem anew_c {n : Nat} (hn : 12 ≤ n) {F : Tb} (hF : TbWf F) (hF10 : F.1 ≤ 10) : ∀ (e t x : Nat) (S : St) (tb : Tb) (φ : Nat → Nat), t < e → x + t ≤ 9 → t < F.1 → CT S 11 F → CT S 6 tb → Emb F tb φ →
    ∃ r T tb2 ψ, fixF (fun _ _ _ => none) (f_X8_numberAnew n) e S (nI t) (nI x) = some (nI r, T) ∧ CT T 6 tb2 ∧ Emb F tb2 ψ ∧ ψ r = t ∧ r < tb2.1 ∧ Ext tb tb2 ∧ (∀ i, i < tb.1 → ψ i = φ i) ∧ ∀ st, bl (U F t) (tb, st) = (tb2, r :: st) := by
  intro e
  induction e with
  | zero => intro t x S tb φ h; omega
  | succ e ih =>
    intro t x S tb φ he hx ht h11 h6 hE
    rw [fixF_s]
    generalize hK : fixF (fun _ _ _ => none) (f_X8_numberAnew n) e = K at ih
    unfold f_X8_numberAnew
    have h65 := h6.1.1
    by_cases c5 : t < 5
    · rw [if_pos (by rw [show (5 : Int32) = nI 5 from rfl, nI_ltI (by omega) (by omega)]; exact c5)]
      exact ⟨t, S, tb, φ, rfl, h6, hE, hE.2.2.1 t c5, by omega, Ext.rf, fun _ _ => rfl, fun st => by rw [U_name c5]; simp only [bl]; rw [bs_name c5]⟩
    · rw [if_neg (by rw [show (5 : Int32) = nI 5 from rfl, nI_ltI (by omega) (by omega)]; exact c5), if_pos (by rw [show (10 : Int32) = nI 10 from rfl, nI_leI (by omega) (by omega)]; omega)]
      have s11 := h11.2.2.1
      obtain ⟨g1, g2, -⟩ := h11.2.2.2.2.1 t (by omega) ht
      have gk := h11.2.2.2.1 t ht
      have eo := hF.2.2.1 t (by omega) ht
      have el := eo.lt (by omega)
      rw [bo_some (first7 s11 hF10 ht), g1, nI_1]
      obtain ⟨r1, T1, tb1, φ1, a1, a2, a3, a4, a5, a6, a7, a8⟩ := ih (F.2 t).2.1 (x + 1) S tb φ (by omega) (by omega) (by omega) h11 h6 hE
      rw [bo_some a1]
      simp only [bd]
      have k1 := fr_X8_numberAnew n e S _ _ _ T1 (by rw [hK]; exact a1)
      have keep : ∀ {V W : St}, Keeps wr_X8_numberAnew V W → CT V 11 F → CT W 11 F := fun {V W} k h => h.keep (by rw [(k 11 (by unfold wr_X8_numberAnew; omega)).1]) (k 12 (by unfold wr_X8_numberAnew; omega)).1 (k 13 (by unfold wr_X8_numberAnew; omega)).1 (k 14 (by unfold wr_X8_numberAnew; omega)).1 (k 15 (by unfold wr_X8_numberAnew; omega)).1
      have t11 := keep k1 h11
      rw [bo_some (kind7 t11.2.2.1 hF10 ht), t11.2.2.2.1 t ht]
      -- the term itself, its arguments numbered
      have last : ∀ (V : St) (tb2 : Tb) (φ2 : Nat → Nat) (a b : Nat), CT V 11 F → CT V 6 tb2 → Emb F tb2 φ2 → EOk tb2.1 ((F.2 t).1, a, b) → F.2 t = ((F.2 t).1, φ2 a, φ2 b) → ∃ r T ψ, f_X8_numberAnew_63 n K V (nI t) (nI a) (sec ((F.2 t).1, a, b)) = some (nI r, T) ∧ r = (num tb2 ((F.2 t).1, a, b)).2 ∧ CT T 6 (num tb2 ((F.2 t).1, a, b)).1 ∧ Emb F (num tb2 ((F.2 t).1, a, b)).1 ψ ∧ ψ r = t ∧ ∀ i, i < tb2.1 → ψ i = φ2 i := by
        intro V tb2 φ2 a b v11 v6 vE vo ve
        unfold f_X8_numberAnew_63
        rw [bo_some (kind7 v11.2.2.1 hF10 ht), v11.2.2.2.1 t ht]
        obtain ⟨r, T, n1, n2⟩ := numberFor_c (n := n) (x := ((F.2 t).1, a, b)) hn v6 vo
        obtain ⟨ψ, p1, p2, p3⟩ := emb_num hF v6.1 vE vo (by omega) ht ve
        have p4 := p1.le
        rw [bo_some n1]
        rcases n2 with ⟨m1, m2, m3⟩ | ⟨m1, -⟩
        · rw [m2]
          exact ⟨_, T, ψ, rfl, rfl, m3, p1, p2, p3⟩
        · omega
      by_cases c2 : (F.2 t).1 = 2
      · rw [if_pos (by rw [c2]; rfl), bo_some (second7 t11.2.2.1 hF10 ht), (t11.2.2.2.2.1 t (by omega) ht).2.1]
        have es : sec (F.2 t) = nI (F.2 t).2.2 := by unfold sec; rw [if_pos c2]
        rw [es]
        obtain ⟨r2, T2, tb2, φ2, b1, b2, b3, b4, b5, b6, b7, b8⟩ := ih (F.2 t).2.2 (x + 1) T1 tb1 φ1 (by omega) (by omega) (by omega) t11 a2 a3
        rw [bo_some b1]
        have k2 := fr_X8_numberAnew n e T1 _ _ _ T2 (by rw [hK]; exact b1)
        have r1lt : r1 < tb2.1 := Nat.lt_of_lt_of_le a5 b6.1
        have e1 : φ2 r1 = (F.2 t).2.1 := (b7 r1 a5).trans a4
        obtain ⟨r, T, ψ, l1, l2, l3, l4, l5, l6⟩ := last T2 tb2 φ2 r1 r2 (keep k2 t11) b2 b3 (Or.inr ⟨c2, r1lt, b5⟩) (by rw [e1, b4])
        have es2 : sec ((F.2 t).1, r1, r2) = nI r2 := by unfold sec; rw [if_pos c2]
        rw [es2] at l1
        have nk := num_ok b2.1 (x := ((F.2 t).1, r1, r2)) (Or.inr ⟨c2, r1lt, b5⟩)
        refine ⟨r, T, _, ψ, l1, l3, l4, l5, by rw [l2]; exact nk.2.2.2.1, (a6.trans b6).trans nk.2.1, fun i hi => ?_, fun st => ?_⟩
        · have h1 : i < tb1.1 := Nat.lt_of_lt_of_le hi a6.1
          rw [l6 i (Nat.lt_of_lt_of_le h1 b6.1), b7 i h1, a7 i hi]
        · rw [U_g hF (by omega) ht (show F.2 t = (2, (F.2 t).2.1, (F.2 t).2.2) by rw [← c2])]
          simp only [bl]
          rw [bl_app, a8 st, b8 (r1 :: st), bs_g, c2, l2, c2]
      · have c1 : (F.2 t).1 = 1 := by rcases eo with ⟨a, -⟩ | ⟨a, -⟩ <;> omega
        have c0 : (F.2 t).2.2 = 0 := by rcases eo with ⟨-, -, a⟩ | ⟨a, -⟩ <;> omega
        rw [if_neg (by rw [show (2 : Int32) = nI 2 from rfl, nI_eq (by omega) (by omega)]; exact c2)]
        have z0 : φ1 0 = 0 := a3.2.2.1 0 (by omega)
        obtain ⟨r, T, ψ, l1, l2, l3, l4, l5, l6⟩ := last T1 tb1 φ1 r1 0 t11 a2 a3 (Or.inl ⟨c1, a5, rfl⟩) (by rw [a4, z0, ← c0])
        have es2 : sec ((F.2 t).1, r1, 0) = -2000000001 := by unfold sec; rw [if_neg c2]
        rw [es2] at l1
        have nk := num_ok a2.1 (x := ((F.2 t).1, r1, 0)) (Or.inl ⟨c1, a5, rfl⟩)
        refine ⟨r, T, _, ψ, l1, l3, l4, l5, by rw [l2]; exact nk.2.2.2.1, a6.trans nk.2.1, fun i hi => ?_, fun st => ?_⟩
        · rw [l6 i (Nat.lt_of_lt_of_le hi a6.1), a7 i hi]
        · rw [U_f hF (by omega) ht (show F.2 t = (1, (F.2 t).2.1, 0) by rw [← c1, ← c0])]
          simp only [bl]
          rw [a8 st, bs_f, c1, l2, c1]
