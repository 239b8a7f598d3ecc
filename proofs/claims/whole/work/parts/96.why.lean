/-! implied, why -/
theorem mo1 {s t : Nat} {v : Nat → Int} : moSat (some (1, (s, t))) v := by
  unfold moSat
  exact ⟨fun q => by simp at q, fun q => by simp at q⟩
theorem mo2 {s t : Nat} {v : Nat → Int} (h : v s - v t ≤ -1) : moSat (some (2, (s, t))) v := by
  unfold moSat
  exact ⟨fun q => by simp at q, fun _ => h⟩
theorem mo0 {s t : Nat} {v : Nat → Int} (h : v s = v t) : moSat (some (0, (s, t))) v := by
  unfold moSat
  exact ⟨fun _ => h, fun q => by simp at q⟩
theorem PM1 {p : Pb} {m : Int32} {s t : Nat} (v : Nat → Int) : PM p m (some (1, (s, t))) none v ↔ Sol p m v ∧ v s ≠ v t := by
  unfold PM
  constructor
  · rintro ⟨h, h2, -⟩; exact ⟨h, h2 (s, t) (by simp [mext, ext1, ext2])⟩
  · rintro ⟨h, h2⟩
    refine ⟨h, fun e he => ?_, mo1⟩
    simp [mext, ext1, ext2] at he
    rw [he]; exact h2
theorem PM2 {p : Pb} {m : Int32} {s t : Nat} (v : Nat → Int) : PM p m (some (0, (s, t))) none v ↔ Sol p m v ∧ v s = v t := by
  unfold PM
  constructor
  · rintro ⟨h, -, h2⟩; exact ⟨h, h2.1 rfl⟩
  · rintro ⟨h, h2⟩
    exact ⟨h, fun e he => by simp [mext, ext1, ext2] at he, mo0 h2⟩
theorem PM3 {p : Pb} {m : Int32} {s t : Nat} (v : Nat → Int) : PM p m (some (2, (s, t))) none v ↔ Sol p m v ∧ v s - v t ≤ -1 := by
  unfold PM
  constructor
  · rintro ⟨h, -, h2⟩; exact ⟨h, h2.2 rfl⟩
  · rintro ⟨h, h2⟩
    exact ⟨h, fun e he => by simp [mext, ext1, ext2] at he, mo2 h2⟩
theorem more_q {n : Nat} {S : St} {g : Gh} (hn : NB ≤ n) (hg : Gd g) (h : MI S g) {j l r : Nat} (hj : j ≤ 2) (hl : l < nT (gP g)) (hr : r < nT (gP g)) : ∃ x T, f_X9_holdsMore n S (nI j) (nI l) (nI r) = some (x, T) ∧ MI T g ∧ T.2 28 47 = S.2 28 47 ∧ ((x = 0 ∧ ¬ ∃ v, PM (gP g) (allM g.1.1) (some (j, (l, r))) none v) ∨ (x = 1 ∧ ∃ v, PM (gP g) (allM g.1.1) (some (j, (l, r))) none v)) := by
  obtain ⟨p1, p2, p3, p4⟩ := plain_f S
  generalize hU1 : sI (sI (sI (plain S) 28 32 (nI j)) 28 33 (nI l)) 28 34 (nI r) = U1
  have k1 : MKeep S U1 := by rw [← hU1]; exact ((plain_k.trans (fld_mk (by omega))).trans (fld_mk (by omega))).trans (fld_mk (by omega))
  have e1 : U1.1 28 32 = nI j ∧ U1.1 28 33 = nI l ∧ U1.1 28 34 = nI r ∧ U1.1 28 35 = -2000000001 ∧ U1.1 28 37 = -2000000001 ∧ U1.1 28 38 = -2000000001 := by
    rw [← hU1]
    refine ⟨?_, ?_, ?_, ?_, ?_, ?_⟩
    · simp [sI]
    · simp [sI]
    · simp [sI]
    · rw [← p2]; simp [sI]
    · rw [← p3]; simp [sI]
    · rw [← p4]; simp [sI]
  have hm2 := (h.mk k1).1
  obtain ⟨W, w1, w2, w3⟩ := seek_q (n := n) (S := U1) (mo := some (j, (l, r))) (ot := none) (w := none) (allM g.1.1) hn hg hm2 ⟨hj, hl, hr, e1.1, e1.2.1, e1.2.2.1⟩ e1.2.2.2.1 ⟨e1.2.2.2.2.1, e1.2.2.2.2.2⟩
  have hmW := h.mk (k1.trans w2)
  unfold f_X9_holdsMore
  rw [bo_some plain_e]
  simp only [bd]
  rw [hU1, bo_some (all_m hm2), bo_some w1, if_neg (by rcases w3 with ⟨e, -⟩ | ⟨e, -⟩ <;> rw [e] <;> decide)]
  refine ⟨_, W, rfl, hmW.1, hmW.2, ?_⟩
  rcases w3 with ⟨e, f⟩ | ⟨e, f, -⟩
  · exact Or.inl ⟨e, f⟩
  · exact Or.inr ⟨e, f⟩
/-- one more demand, as the sort has it -/
def dem (j s t : Nat) (v : Nat → Int) : Prop := if j = 0 then v s ≠ v t else if j = 1 then v s = v t else v t - v s ≤ -1
theorem imp_c {n : Nat} {S : St} {g : Gh} (hn : 110 ≤ n) (hg : Gd g) (h : CI S g) {s t j : Nat} (hs : s < nT (gP g)) (ht : t < nT (gP g)) (hj : j < 3) : ∃ T, CI T g ∧ ((¬ (∃ v, Sol (gP g) (allM g.1.1) v) ∧ f_X8_implied n S (nI s) (nI t) (nI j) = some (-2000000004, T)) ∨ ((∃ v, Sol (gP g) (allM g.1.1) v) ∧ ((f_X8_implied n S (nI s) (nI t) (nI j) = some (1, T) ∧ ¬ ∃ v, Sol (gP g) (allM g.1.1) v ∧ dem j s t v) ∨ (f_X8_implied n S (nI s) (nI t) (nI j) = some (0, T) ∧ ∃ v, Sol (gP g) (allM g.1.1) v ∧ dem j s t v)))) := by
  have h10 := hg.wf.2.1
  have s6 := h.1.1.2.2.1
  obtain ⟨r1, T1, a1, a2, a3⟩ := solvable_c hn hg h
  have pre : f_X8_implied n S (nI s) (nI t) (nI j) = (if r1 = 0 then some ((-2000000004 : Int32), T1) else bo (f_X3_all n T1) fun (r_19 : Int32) (S_20 : St) => bo (f_X6_load n S_20 r_19) fun (_ : Unit) (S_23 : St) => if nI j = 0 then (bo (f_X6_demandDifferent n S_23 (nI s) (nI t)) fun (_ : Unit) (S_34 : St) => f_X8_implied_104 n S_34) else if nI j = (1 : Int32) then (bo (f_X6_demandEqual n S_23 (nI s) (nI t)) fun (_ : Unit) (S_31 : St) => f_X8_implied_104 n S_31) else bo (f_X6_demandAtMost n S_23 (nI t) (nI s) (-1 : Int32)) fun (_ : Unit) (S_28 : St) => f_X8_implied_104 n S_28) := by
    unfold f_X8_implied
    rw [bo_some (has7 s6 h10 hs), if_neg (by decide), bo_some (has7 s6 h10 ht), if_neg (by decide), if_neg (nI_pos (by omega)), if_pos (by rw [show (2 : Int32) = nI 2 from rfl, nI_leI (by omega) (by omega)]; omega), bo_some a1]
  rcases a3 with ⟨e, hno⟩ | ⟨e, hyes⟩
  · exact ⟨T1, a2, Or.inl ⟨hno, by rw [pre, if_pos e]⟩⟩
  · obtain ⟨T2, cc, b1, b2, b3, b4, b5, b6, b7⟩ := loadC hn hg a2 (allM g.1.1)
    rw [if_neg (by rw [e]; decide), bo_some (all_c a2), bo_some b1] at pre
    -- behind the demand
    have fin : ∀ (T3 : St) (cc2 : Nat) (Q : (Nat → Int) → Prop), Keeps wS T2 T3 → Go T2 T3 → Ld T3 cc2 (fun v => Sol (gP g) (allM g.1.1) v ∧ Q v) → f_X8_implied n S (nI s) (nI t) (nI j) = f_X8_implied_104 n T3 → (∀ v, Q v ↔ dem j s t v) → ∃ T, CI T g ∧ ((f_X8_implied n S (nI s) (nI t) (nI j) = some (1, T) ∧ ¬ ∃ v, Sol (gP g) (allM g.1.1) v ∧ dem j s t v) ∨ (f_X8_implied n S (nI s) (nI t) (nI j) = some (0, T) ∧ ∃ v, Sol (gP g) (allM g.1.1) v ∧ dem j s t v)) := by
      intro T3 cc2 Q k3 go l3 he hQ
      have c3 : CI T3 g := b3.kp k3 wS_ci
      obtain ⟨r4, T4, d1, d2, d3, d4⟩ := askC (n := n) (by omega) c3 (go.1.trans b5) (go.2.trans b6) l3
      refine ⟨T4, d3, ?_⟩
      unfold f_X8_implied_104 at he
      rw [bo_some d1] at he
      rcases d4 with ⟨x, y⟩ | ⟨x, v, y⟩
      · left
        rw [if_pos x] at he
        exact ⟨he, fun ⟨v, z1, z2⟩ => y ⟨v, z1, (hQ v).mpr z2⟩⟩
      · right
        rw [if_neg (by rw [x]; decide)] at he
        exact ⟨he, v, y.1, (hQ v).mp y.2⟩
    have hj' : j = 0 ∨ j = 1 ∨ j = 2 := by omega
    have done : ∀ {A : St → Prop} {X : Prop}, (∃ T, CI T g ∧ A T) → X → ∃ T, CI T g ∧ ((¬ X ∧ f_X8_implied n S (nI s) (nI t) (nI j) = some (-2000000004, T)) ∨ (X ∧ A T)) := fun ⟨T, x, y⟩ hX => ⟨T, x, Or.inr ⟨hX, y⟩⟩
    rcases hj' with rfl | rfl | rfl
    · obtain ⟨T3, c1, c2, c3⟩ := differ_c (n := n) b7 (by omega) (s := s) (t := t) (by omega) (by omega)
      rw [if_pos (by decide), bo_some c1] at pre
      exact done (fin T3 _ _ ((fq_X6_demandDifferent n T2 _ _ () T3 c1).mono (fun c h => h)) c2 c3 pre (fun v => by unfold dem; rw [if_pos rfl])) hyes
    · obtain ⟨T3, c1, c2, c3⟩ := equal_c (n := n) (by omega) b7 (s := s) (t := t) (by omega) (by omega)
      rw [if_neg (by decide), if_pos (by decide), bo_some c1] at pre
      exact done (fin T3 _ _ ((fq_X6_demandEqual n T2 _ _ () T3 c1).mono (fun c h => h)) c2 c3 pre (fun v => by unfold dem; rw [if_neg (by decide), if_pos rfl])) hyes
    · obtain ⟨T3, c1, c2, c3⟩ := atMost_c (n := n) (by omega) b7 (s := t) (t := s) (by omega) (by omega) (w := (-1 : Int32)) (by decide)
      rw [if_neg (by decide), if_neg (by decide), bo_some c1] at pre
      exact done (fin T3 _ _ ((fq_X6_demandAtMost n T2 _ _ _ () T3 c1).mono (fun c h => h)) c2 c3 pre (fun v => by unfold dem; rw [if_neg (by decide), if_neg (by decide), show (-1 : Int32).toInt = -1 by decide])) hyes
theorem imp_m {n : Nat} {S : St} {g : Gh} (hn : NB ≤ n) (hg : Gd g) (h : MI S g) {s t j : Nat} (hs : s < nT (gP g)) (ht : t < nT (gP g)) (hj : j < 3) : ∃ T, MI T g ∧ T.2 28 47 = S.2 28 47 ∧ ((¬ (∃ v, Sol (gP g) (allM g.1.1) v) ∧ f_X9_implied n S (nI s) (nI t) (nI j) = some (-2000000004, T)) ∨ ((∃ v, Sol (gP g) (allM g.1.1) v) ∧ ((f_X9_implied n S (nI s) (nI t) (nI j) = some (1, T) ∧ ¬ ∃ v, Sol (gP g) (allM g.1.1) v ∧ dem j s t v) ∨ (f_X9_implied n S (nI s) (nI t) (nI j) = some (0, T) ∧ ∃ v, Sol (gP g) (allM g.1.1) v ∧ dem j s t v)))) := by
  have h10 := hg.wf.2.1
  have c2 : nI 3 - 1 = (2 : Int32) := by decide
  have w1 := wi_in (n := n) (S := S) (t := j) (N := 3) hj (by omega)
  rw [c2] at w1
  obtain ⟨r1, T1, a1, a2, a2', a3⟩ := with_q (n := n) (allM g.1.1) hn hg h
  have pre : f_X9_implied n S (nI s) (nI t) (nI j) = bo (if r1 = 0 then some ((-2000000004 : Int32), T1) else if nI j = 0 then (bo (f_X9_holdsMore n T1 (nI 1) (nI s) (nI t)) fun (r_18 : Int32) (S_19 : St) => f_X9_impliedNow_50 n S_19 r_18) else if nI j = (1 : Int32) then (bo (f_X9_holdsMore n T1 (nI 0) (nI s) (nI t)) fun (r_15 : Int32) (S_16 : St) => f_X9_impliedNow_50 n S_16 r_15) else bo (f_X9_holdsMore n T1 (nI 2) (nI t) (nI s)) fun (r_12 : Int32) (S_13 : St) => f_X9_impliedNow_50 n S_13 r_12) (fun (r_9 : Int32) (S_10 : St) => some (r_9, S_10)) := by
    unfold f_X9_implied
    rw [bo_some (two_in h.1.2.2.1 h10 hs ht), if_neg (by decide), bo_some w1, if_neg (by decide)]
    unfold f_X9_impliedNow
    rw [bo_some (all_m h), bo_some a1]
    rfl
  rcases a3 with ⟨e, hno⟩ | ⟨e, hyes⟩
  · exact ⟨T1, a2, a2', Or.inl ⟨hno, by rw [pre, if_pos e]; rfl⟩⟩
  · rw [if_neg (by rw [e]; decide)] at pre
    have fin : ∀ (x : Int32) (T2 : St) (Q : (Nat → Int) → Prop), MI T2 g → T2.2 28 47 = T1.2 28 47 → f_X9_implied n S (nI s) (nI t) (nI j) = bo (f_X9_impliedNow_50 n T2 x) (fun (r_9 : Int32) (S_10 : St) => some (r_9, S_10)) → ((x = 0 ∧ ¬ ∃ v, Q v) ∨ (x = 1 ∧ ∃ v, Q v)) → (∀ v, Q v ↔ Sol (gP g) (allM g.1.1) v ∧ dem j s t v) → ∃ T, MI T g ∧ T.2 28 47 = S.2 28 47 ∧ ((¬ (∃ v, Sol (gP g) (allM g.1.1) v) ∧ f_X9_implied n S (nI s) (nI t) (nI j) = some (-2000000004, T)) ∨ ((∃ v, Sol (gP g) (allM g.1.1) v) ∧ ((f_X9_implied n S (nI s) (nI t) (nI j) = some (1, T) ∧ ¬ ∃ v, Sol (gP g) (allM g.1.1) v ∧ dem j s t v) ∨ (f_X9_implied n S (nI s) (nI t) (nI j) = some (0, T) ∧ ∃ v, Sol (gP g) (allM g.1.1) v ∧ dem j s t v)))) := by
      intro x T2 Q m2 m3 he hx hQ
      refine ⟨T2, m2, m3.trans a2', Or.inr ⟨hyes, ?_⟩⟩
      unfold f_X9_impliedNow_50 at he
      simp only [bd] at he
      rcases hx with ⟨x0, y⟩ | ⟨x1, v, y⟩
      · left
        rw [if_pos x0] at he
        exact ⟨he, fun ⟨v, z⟩ => y ⟨v, (hQ v).mpr z⟩⟩
      · right
        rw [if_neg (by rw [x1]; decide)] at he
        exact ⟨he, v, (hQ v).mp y⟩
    have hj' : j = 0 ∨ j = 1 ∨ j = 2 := by omega
    rcases hj' with rfl | rfl | rfl
    · obtain ⟨x, T2, d1, d2, d3, d4⟩ := more_q (n := n) hn hg a2 (j := 1) (by omega) hs ht
      rw [if_pos (by decide), bo_some d1] at pre
      exact fin x T2 _ d2 d3 pre d4 (fun v => by rw [PM1]; unfold dem; rw [if_pos rfl])
    · obtain ⟨x, T2, d1, d2, d3, d4⟩ := more_q (n := n) hn hg a2 (j := 0) (by omega) hs ht
      rw [if_neg (by decide), if_pos (by decide), bo_some d1] at pre
      exact fin x T2 _ d2 d3 pre d4 (fun v => by rw [PM2]; unfold dem; rw [if_neg (by decide), if_pos rfl])
    · obtain ⟨x, T2, d1, d2, d3, d4⟩ := more_q (n := n) hn hg a2 (j := 2) (by omega) ht hs
      rw [if_neg (by decide), if_neg (by decide), bo_some d1] at pre
      exact fin x T2 _ d2 d3 pre d4 (fun v => by rw [PM3]; unfold dem; rw [if_neg (by decide), if_neg (by decide)])
theorem op_implied {n : Nat} {S : St} (hn : NB ≤ n) (hI : Inv S) (a b w : Int32) : OpOk (fun S => f_X8_implied n S a b w) (fun S => f_X9_implied n S a b w) S := by
  obtain ⟨g, hg, hc, hm⟩ := hI
  have hn1 := NB110 hn
  have h10 := hg.1.2.2.2
  have s6 := hc.1.1.2.2.1
  have c2 : nI 3 - 1 = (2 : Int32) := by decide
  have hwc : ∀ c, 28 ≤ c ∧ c ≤ 39 → ¬ wr_X8_implied c := fun c hc h => by unfold wr_X8_implied at h; omega
  have hwm : ∀ c, c ≤ 22 ∨ c = 26 ∨ c = 121 → ¬ wr_X9_implied c := fun c hc h => by unfold wr_X9_implied at h; omega
  rcases two a b h10 with ⟨s, t, hs, ht, rfl, rfl⟩ | ho
  · rcases rng w 3 (by omega) with ⟨j, hj, rfl⟩ | hw
    · have fin : ∀ v, cqA g (fun S => f_X8_implied n S (nI s) (nI t) (nI j)) v → mqA g (fun S => f_X9_implied n S (nI s) (nI t) (nI j)) v → OpOk (fun S => f_X8_implied n S (nI s) (nI t) (nI j)) (fun S => f_X9_implied n S (nI s) (nI t) (nI j)) S := fun v q1 q2 => query hg hc hm q1 q2 (fun S r T h => fr_X8_implied n S _ _ _ r T h) hwc (fun S r T h => fr_X9_implied n S _ _ _ r T h) hwm
      rcases Classical.em (∃ v, Sol (gP g) (allM g.1.1) v) with hy | hy
      · rcases Classical.em (∃ v, Sol (gP g) (allM g.1.1) v ∧ dem j s t v) with hz | hz
        · refine fin 0 (fun U hU => ?_) (fun U hU => ?_)
          · obtain ⟨T, x, y⟩ := imp_c hn1 hg hU hs ht hj
            obtain ⟨-, y⟩ := y.resolve_left (fun q => q.1 hy)
            exact ⟨T, (y.resolve_left (fun q => q.2 hz)).1, x⟩
          · obtain ⟨T, x, x2, y⟩ := imp_m hn hg hU hs ht hj
            obtain ⟨-, y⟩ := y.resolve_left (fun q => q.1 hy)
            exact ⟨T, (y.resolve_left (fun q => q.2 hz)).1, x, x2⟩
        · refine fin 1 (fun U hU => ?_) (fun U hU => ?_)
          · obtain ⟨T, x, y⟩ := imp_c hn1 hg hU hs ht hj
            obtain ⟨-, y⟩ := y.resolve_left (fun q => q.1 hy)
            exact ⟨T, (y.resolve_right (fun q => hz q.2)).1, x⟩
          · obtain ⟨T, x, x2, y⟩ := imp_m hn hg hU hs ht hj
            obtain ⟨-, y⟩ := y.resolve_left (fun q => q.1 hy)
            exact ⟨T, (y.resolve_right (fun q => hz q.2)).1, x, x2⟩
      · refine fin (-2000000004) (fun U hU => ?_) (fun U hU => ?_)
        · obtain ⟨T, x, y⟩ := imp_c hn1 hg hU hs ht hj
          exact ⟨T, (y.resolve_right (fun q => hy q.1)).2, x⟩
        · obtain ⟨T, x, x2, y⟩ := imp_m hn hg hU hs ht hj
          exact ⟨T, (y.resolve_right (fun q => hy q.1)).2, x, x2⟩
    · refine ⟨-2000000003, S, S, ?_, ?_, g, hg, hc, hm⟩
      · show f_X8_implied n S (nI s) (nI t) w = _
        unfold f_X8_implied
        rw [bo_some (has7 s6 h10 hs), if_neg (by decide), bo_some (has7 s6 h10 ht), if_neg (by decide)]
        by_cases c : w < 0
        · rw [if_pos c]
        · rw [if_neg c, if_neg (fun q => ?_)]
          obtain ⟨j, hj, rfl⟩ := nI_of c
          have := hw.resolve_left c
          rw [nI_leI (by omega) hj] at this
          rw [show (2 : Int32) = nI 2 from rfl, nI_leI hj (by omega)] at q
          omega
      · show f_X9_implied n S (nI s) (nI t) w = _
        unfold f_X9_implied
        have w1 := wi_out (n := n) (S := S) (N := 3) hw (by omega)
        rw [c2] at w1
        rw [bo_some (two_in hm.1.2.2.1 h10 hs ht), if_neg (by decide), bo_some w1, if_pos rfl]
  · refine ⟨-2000000002, S, S, ?_, ?_, g, hg, hc, hm⟩
    · show f_X8_implied n S a b w = _
      unfold f_X8_implied
      rcases ho with h | ⟨s, hs, rfl, h⟩
      · rw [bo_some (has7_out s6 h), if_pos rfl]
      · rw [bo_some (has7 s6 h10 hs), if_neg (by decide), bo_some (has7_out s6 h), if_pos rfl]
    · show f_X9_implied n S a b w = _
      unfold f_X9_implied
      rw [bo_some (two_out hm.1.2.2.1 h10 ho), if_pos rfl]
/-! why -/
theorem m1 (x : Int32) : x + (-1 : Int32) = x - 1 := by rw [Int32.sub_eq_add_neg]
theorem why_lp {n : Nat} {g : Gh} (hn : NB ≤ n) (hg : Gd g) : ∀ (j : Nat) (m : Int32), j < 2 ^ 31 → ∃ v, (∀ d, j < d → cqA g (fun S => fixF (fun _ _ _ => none) (f_X8_why_28 n) d S m (nI j - 1)) v) ∧ ∀ d, j < d → mqA g (fun S => fixF (fun _ _ _ => none) (f_X9_whyNow_12 n) d S m (nI j - 1)) v := by
  have hn1 := NB110 hn
  intro j
  induction j with
  | zero =>
    intro m _
    refine ⟨m, fun d hd S h => ⟨S, ?_, h⟩, fun d hd S h => ⟨S, ?_, h, rfl⟩⟩
    · obtain ⟨e, rfl⟩ : ∃ e, d = e + 1 := ⟨d - 1, by omega⟩
      show f_X8_why_28 n _ S m (nI 0 - 1) = _
      unfold f_X8_why_28
      rw [if_pos (by decide)]
    · obtain ⟨e, rfl⟩ : ∃ e, d = e + 1 := ⟨d - 1, by omega⟩
      show f_X9_whyNow_12 n _ S m (nI 0 - 1) = _
      unfold f_X9_whyNow_12
      rw [if_pos (by decide)]
  | succ j ih =>
    intro m hj
    generalize hw : (m &&& (((1 : Int32) <<< (nI j &&& 31)) ^^^ (-1 : Int32))) = w
    rcases Classical.em (∃ v, Sol (gP g) w v) with hs | hs
    · obtain ⟨v, i1, i2⟩ := ih m (by omega)
      refine ⟨v, fun d hd S h => ?_, fun d hd S h => ?_⟩
      · obtain ⟨e, rfl⟩ : ∃ e, d = e + 1 := ⟨d - 1, by omega⟩
        obtain ⟨T, cc, a1, a2, a3, a4, a5, a6, a7⟩ := loadC hn1 hg h w
        obtain ⟨r, V, b1, b2, b3, b4⟩ := askC (n := n) (by omega) a3 a5 a6 a7
        obtain ⟨b4, -⟩ := b4.resolve_left (fun q => q.2 hs)
        obtain ⟨U, c1, c2⟩ := i1 e (by omega) V b3
        refine ⟨U, ?_, c2⟩
        show f_X8_why_28 n (fixF (fun _ _ _ => none) (f_X8_why_28 n) e) S m (nI (j + 1) - 1) = _
        unfold f_X8_why_28 f_X8_why_60
        rw [nI_pred, if_neg (nI_pos (by omega)), hw]
        simp only [bd]
        rw [bo_some a1, bo_some b1, if_neg (by rw [b4]; decide), m1]
        exact c1
      · obtain ⟨e, rfl⟩ : ∃ e, d = e + 1 := ⟨d - 1, by omega⟩
        obtain ⟨r, V, b1, b2, b3, b4⟩ := with_q (n := n) w hn hg h
        obtain ⟨b4, -⟩ := b4.resolve_left (fun q => q.2 hs)
        obtain ⟨U, c1, c2, c3⟩ := i2 e (by omega) V b2
        refine ⟨U, ?_, c2, c3.trans b3⟩
        show f_X9_whyNow_12 n (fixF (fun _ _ _ => none) (f_X9_whyNow_12 n) e) S m (nI (j + 1) - 1) = _
        unfold f_X9_whyNow_12 f_X9_whyNow_41
        rw [nI_pred, if_neg (nI_pos (by omega)), hw]
        simp only [bd]
        rw [bo_some b1, if_neg (by rw [b4]; decide), m1]
        exact c1
    · obtain ⟨v, i1, i2⟩ := ih w (by omega)
      refine ⟨v, fun d hd S h => ?_, fun d hd S h => ?_⟩
      · obtain ⟨e, rfl⟩ : ∃ e, d = e + 1 := ⟨d - 1, by omega⟩
        obtain ⟨T, cc, a1, a2, a3, a4, a5, a6, a7⟩ := loadC hn1 hg h w
        obtain ⟨r, V, b1, b2, b3, b4⟩ := askC (n := n) (by omega) a3 a5 a6 a7
        obtain ⟨b4, -⟩ := b4.resolve_right (fun q => hs q.2)
        obtain ⟨U, c1, c2⟩ := i1 e (by omega) V b3
        refine ⟨U, ?_, c2⟩
        show f_X8_why_28 n (fixF (fun _ _ _ => none) (f_X8_why_28 n) e) S m (nI (j + 1) - 1) = _
        unfold f_X8_why_28 f_X8_why_60
        rw [nI_pred, if_neg (nI_pos (by omega)), hw]
        simp only [bd]
        rw [bo_some a1, bo_some b1, if_pos b4, m1]
        exact c1
      · obtain ⟨e, rfl⟩ : ∃ e, d = e + 1 := ⟨d - 1, by omega⟩
        obtain ⟨r, V, b1, b2, b3, b4⟩ := with_q (n := n) w hn hg h
        obtain ⟨b4, -⟩ := b4.resolve_right (fun q => hs q.2)
        obtain ⟨U, c1, c2, c3⟩ := i2 e (by omega) V b2
        refine ⟨U, ?_, c2, c3.trans b3⟩
        show f_X9_whyNow_12 n (fixF (fun _ _ _ => none) (f_X9_whyNow_12 n) e) S m (nI (j + 1) - 1) = _
        unfold f_X9_whyNow_12 f_X9_whyNow_41
        rw [nI_pred, if_neg (nI_pos (by omega)), hw]
        simp only [bd]
        rw [bo_some b1, if_pos b4, m1]
        exact c1
theorem op_why {n : Nat} {S : St} (hn : NB ≤ n) (hI : Inv S) : OpOk (fun S => f_X8_why n S) (fun S => f_X9_why n S) S := by
  obtain ⟨g, hg, hc, hm⟩ := hI
  have hn1 := NB110 hn
  have hL := hg.1.1
  have hwc : ∀ c, 28 ≤ c ∧ c ≤ 39 → ¬ wr_X8_why c := fun c hc h => by unfold wr_X8_why at h; omega
  have hwm : ∀ c, c ≤ 22 ∨ c = 26 ∨ c = 121 → ¬ wr_X9_why c := fun c hc h => by unfold wr_X9_why at h; omega
  have fin : ∀ v, cqA g (fun S => f_X8_why n S) v → mqA g (fun S => f_X9_why n S) v → OpOk (fun S => f_X8_why n S) (fun S => f_X9_why n S) S := fun v q1 q2 => query hg hc hm q1 q2 (fun S r T h => fr_X8_why n S r T h) hwc (fun S r T h => fr_X9_why n S r T h) hwm
  rcases Classical.em (∃ v, Sol (gP g) (allM g.1.1) v) with hy | hy
  · refine fin (-2000000004) (fun U hU => ?_) (fun U hU => ?_)
    · obtain ⟨r, T, a, b, c⟩ := solvable_c hn1 hg hU
      obtain ⟨c, -⟩ := c.resolve_left (fun q => q.2 hy)
      refine ⟨T, ?_, b⟩
      show f_X8_why n U = _
      unfold f_X8_why
      rw [bo_some a, if_neg (by rw [c]; decide)]
    · obtain ⟨r, T, a, b, d, c⟩ := with_q (n := n) (allM g.1.1) hn hg hU
      obtain ⟨c, -⟩ := c.resolve_left (fun q => q.2 hy)
      refine ⟨T, ?_, b, d⟩
      show f_X9_why n U = _
      unfold f_X9_why
      rw [bo_some (all_m hU), bo_some a, if_neg (by rw [c]; decide)]
  · obtain ⟨v, i1, i2⟩ := why_lp (n := n) hn hg g.1.1 (allM g.1.1) (by omega)
    refine fin v (fun U hU => ?_) (fun U hU => ?_)
    · obtain ⟨r, T, a, b, c⟩ := solvable_c hn1 hg hU
      obtain ⟨c, -⟩ := c.resolve_right (fun q => hy q.2)
      obtain ⟨V, d1, d2⟩ := i1 n (by omega) T b
      refine ⟨V, ?_, d2⟩
      show f_X8_why n U = _
      unfold f_X8_why f_X3_size
      rw [bo_some a, if_pos c, bo_some (all_c b)]
      simp only [bd, bo]
      rw [b.1.2.1.1]
      exact d1
    · obtain ⟨r, T, a, b, d, c⟩ := with_q (n := n) (allM g.1.1) hn hg hU
      obtain ⟨c, -⟩ := c.resolve_right (fun q => hy q.2)
      obtain ⟨V, d1, d2, d3⟩ := i2 n (by omega) T b
      refine ⟨V, ?_, d2, d3.trans d⟩
      show f_X9_why n U = _
      unfold f_X9_why f_X9_whyNow
      rw [bo_some (all_m hU), bo_some a, if_pos c, bo_some (all_m b)]
      simp only [bd]
      rw [b.2.1.1]
      rw [bo_some d1]
