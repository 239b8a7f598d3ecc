/-! QUESTIONS on solutions -/
theorem W0a : -(10 * W0) = -20000000000 ∧ 10 * W0 = 20000000000 := by decide
/-- the solver's cells -/
def wS : Nat → Prop := fun c => (50 ≤ c ∧ c < 121) ∨ c = 23
theorem wS_ci (c : Nat) (h : c ≤ 22 ∨ c = 26 ∨ c = 121) : ¬ wS c := fun q => by unfold wS at q; omega
theorem wS_mi (c : Nat) (h : 28 ≤ c ∧ c ≤ 39) : ¬ wS c := fun q => by unfold wS at q; omega
/-- load, and ask -/
theorem loadC {n : Nat} {S : St} {g : Gh} (hn : 110 ≤ n) (hg : Gd g) (h : CI S g) (m : Int32) : ∃ T cc, f_X6_load n S m = some ((), T) ∧ Keeps wS S T ∧ CI T g ∧ cc ≤ 20 ∧ T.1 23 8 = nI 0 ∧ T.1 23 9 = nI 0 ∧ Ld T cc (Sol (gP g) m) := by
  obtain ⟨T, cc, a, -, b, c, d, e⟩ := load_c hn (h.rep hg) m
  have k : Keeps wS S T := (fq_X6_load n S m () T a).mono (fun c h => h)
  exact ⟨T, cc, a, k, h.kp k wS_ci, b, c, d, e⟩
theorem askC {n cc : Nat} {S : St} {g : Gh} {P : (Nat → Int) → Prop} (hn : 30 ≤ n) (h : CI S g) (h8 : S.1 23 8 = nI 0) (h9 : S.1 23 9 = nI 0) (hl : Ld S cc P) : ∃ r T, f_X6_hasSolution n S = some (r, T) ∧ Keeps wS S T ∧ CI T g ∧ ((r = 0 ∧ ¬ ∃ v, P v) ∨ (r = 1 ∧ ∃ v, P v)) := by
  obtain ⟨r, T, a, b⟩ := ask1 (n := n) hn (gl := 0) (gr := 0) (by omega) (by omega) h8 h9 hl
  have k : Keeps wS S T := (fq_X6_hasSolution n S r T a).mono (fun c h => h)
  exact ⟨r, T, a, k, h.kp k wS_ci, b⟩
theorem solvable_c {n : Nat} {S : St} {g : Gh} (hn : 110 ≤ n) (hg : Gd g) (h : CI S g) : ∃ r T, f_X8_isSolvable n S = some (r, T) ∧ CI T g ∧ ((r = 0 ∧ ¬ ∃ v, Sol (gP g) (allM g.1.1) v) ∨ (r = 1 ∧ ∃ v, Sol (gP g) (allM g.1.1) v)) := by
  unfold f_X8_isSolvable
  by_cases c : S.1 0 13 = 0
  · rw [if_pos c]
    have ea : f_X3_all n S = some (allM g.1.1, S) := by unfold f_X3_all allM; rw [h.1.2.1.1]
    obtain ⟨T, cc, a1, a2, a3, a4, a5, a6, a7⟩ := loadC hn hg h (allM g.1.1)
    obtain ⟨r, V, b1, b2, b3, b4⟩ := askC (n := n) (by omega) a3 a5 a6 a7
    rw [bo_some ea, bo_some a1, bo_some b1, if_neg (by rcases b4 with ⟨e, -⟩ | ⟨e, -⟩ <;> rw [e] <;> decide)]
    simp only [bd]
    have e14 : (sI (sI V 0 14 r) 0 13 1).1 0 14 = r := by simp [sI]
    rw [e14, if_neg (by rcases b4 with ⟨e, -⟩ | ⟨e, -⟩ <;> rw [e] <;> decide)]
    refine ⟨r, _, rfl, ?_, b4⟩
    obtain ⟨x1, x2, -, x4⟩ := b3
    refine ⟨x1.keep (fun c hc => ?_) (fun j hj => ?_), ?_, Or.inr ?_, ?_⟩
    · funext j; have : c ≠ 0 := by omega
      simp [sI, this]
    · have y1 : j ≠ 13 := by omega
      have y2 : j ≠ 14 := by omega
      simp [sI, y1, y2]
    · have e12 : (sI (sI V 0 14 r) 0 13 1).1 0 12 = V.1 0 12 := by simp [sI]
      rw [e12]
      exact x2.imp id (fun h => h.keep (by funext j; simp [sI]) (by funext j; simp [sI]) rfl)
    · unfold SoC
      rw [e14]
      rcases b4 with ⟨e, f⟩ | ⟨e, f⟩
      · exact Or.inr ⟨e, f⟩
      · exact Or.inl ⟨e, f⟩
    · unfold PaC at *
      have e15 : (sI (sI V 0 14 r) 0 13 1).1 0 15 = V.1 0 15 := by simp [sI]
      have e26 : ∀ j, (sI (sI V 0 14 r) 0 13 1).1 26 j = V.1 26 j := fun j => by simp [sI]
      rw [e15, e26, e26]; exact x4
  · rw [if_neg c]
    rcases h.2.2.1.resolve_left c with ⟨e, f⟩ | ⟨e, f⟩
    · rw [e, if_neg (by decide)]
      exact ⟨1, S, rfl, h, Or.inr ⟨rfl, f⟩⟩
    · rw [e, if_neg (by decide)]
      exact ⟨0, S, rfl, h, Or.inl ⟨rfl, f⟩⟩
theorem solv_mi {n : Nat} {S T : St} {g : Gh} {r : Int32} (h : MI S g) (e : f_X8_isSolvable n S = some (r, T)) : MI T g := h.kp (fr_X8_isSolvable n S r T e) (fun c hc h => by unfold wr_X8_isSolvable at h; omega)
/-! the reference asks -/
theorem MI.mk {S T : St} {g : Gh} (h : MI S g) (k : MKeep S T) : MI T g ∧ T.2 28 47 = S.2 28 47 :=
  ⟨h.keep (fun c hc h4 => by funext j; exact k.1 c j (by omega) (by omega)) (fun j hj => k.1 28 j (by omega) (by omega)), k.2 28 47 (by omega) (by omega) (by omega)⟩
/-- the fields of a question -/
theorem fld_mk {S : St} {k : Nat} {v : Int32} (h : 31 ≤ k ∧ k ≤ 40) : MKeep S (sI S 28 k v) := ⟨fun c j a b => by
  have : ¬ (c = 28 ∧ j = k) := by omega
  simp only [sI, this, if_false], fun _ _ _ _ _ => rfl⟩
def plain (S : St) : St := sI (sI (sI (sI S 28 32 (-2000000001)) 28 35 (-2000000001)) 28 37 (-2000000001)) 28 38 (-2000000001)
theorem plain_e {n : Nat} {S : St} : f_X9_asksPlain n S = some ((), plain S) := rfl
theorem plain_k {S : St} : MKeep S (plain S) := (((fld_mk (by omega)).trans (fld_mk (by omega))).trans (fld_mk (by omega))).trans (fld_mk (by omega))
theorem plain_f (S : St) : (plain S).1 28 32 = -2000000001 ∧ (plain S).1 28 35 = -2000000001 ∧ (plain S).1 28 37 = -2000000001 ∧ (plain S).1 28 38 = -2000000001 := by
  unfold plain; simp [sI]
theorem seek_q {n : Nat} {S : St} {g : Gh} (m : Int32) {mo : Option (Nat × (Nat × Nat))} {ot w : Option (Nat × Nat)} (hn : NB ≤ n) (hg : Gd g) (h : MI S g) (hmo : More S (nT (gP g)) mo) (hot : Oth S (nT (gP g)) ot) (hw : Want S (nT (gP g)) w) :
    ∃ T, f_X9_seek n S m = some ((), T) ∧ MKeep S T ∧ ((T.1 28 39 = 0 ∧ ¬ ∃ v, PM (gP g) m mo ot v) ∨ (T.1 28 39 = 1 ∧ (∃ v, PM (gP g) m mo ot v) ∧ ∀ q, w = some q → (T.1 28 40 = 0 ∧ isSup (PM (gP g) m mo ot) q.1 q.2 (some (T.2 28 41).toInt)) ∨ (T.1 28 40 = 1 ∧ isSup (PM (gP g) m mo ot) q.1 q.2 none))) := by
  obtain ⟨T, a, b, c, d⟩ := seek_m (n := n) m hn (h.rep hg) hmo hot hw
  exact ⟨T, a, ⟨fun c k h1 h2 => b c k (by omega) h2, c⟩, d⟩
theorem PM0 {p : Pb} {m : Int32} : PM p m none none = Sol p m := by
  funext v
  apply propext
  unfold PM
  constructor
  · rintro ⟨h, -, -⟩; exact h
  · intro h
    exact ⟨h, fun e he => by simp [mext, ext1, ext2] at he, trivial⟩
theorem with_q {n : Nat} {S : St} {g : Gh} (m : Int32) (hn : NB ≤ n) (hg : Gd g) (h : MI S g) : ∃ r T, f_X9_holdsWith n S m = some (r, T) ∧ MI T g ∧ T.2 28 47 = S.2 28 47 ∧ ((r = 0 ∧ ¬ ∃ v, Sol (gP g) m v) ∨ (r = 1 ∧ ∃ v, Sol (gP g) m v)) := by
  obtain ⟨p1, p2, p3, p4⟩ := plain_f S
  obtain ⟨T, a, b, c⟩ := seek_q (n := n) (S := plain S) (mo := none) (ot := none) (w := none) m hn hg (h.mk plain_k).1 p1 p2 ⟨p3, p4⟩
  have hm := h.mk (plain_k.trans b)
  rw [PM0] at c
  unfold f_X9_holdsWith
  rw [bo_some plain_e, bo_some a, if_neg (by rcases c with ⟨e, -⟩ | ⟨e, -⟩ <;> rw [e] <;> decide)]
  refine ⟨_, T, rfl, hm.1, hm.2, ?_⟩
  rcases c with ⟨e, f⟩ | ⟨e, f, -⟩
  · exact Or.inl ⟨e, f⟩
  · exact Or.inr ⟨e, f⟩
theorem all_m {n : Nat} {S : St} {g : Gh} (h : MI S g) : f_X9_all n S = some (allM g.1.1, S) := by unfold f_X9_all allM; rw [h.2.1.1]
theorem all_c {n : Nat} {S : St} {g : Gh} (h : CI S g) : f_X3_all n S = some (allM g.1.1, S) := by unfold f_X3_all allM; rw [h.1.2.1.1]
theorem q_holds {n : Nat} {g : Gh} (hn : NB ≤ n) (hg : Gd g) : ∃ v, cqA g (fun S => f_X8_holds n S) v ∧ mqA g (fun S => f_X9_holds n S) v := by
  have hn1 := NB110 hn
  rcases Classical.em (∃ v, Sol (gP g) (allM g.1.1) v) with hs | hs
  · refine ⟨1, fun S h => ?_, fun S h => ?_⟩
    · obtain ⟨r, T, a, b, c⟩ := solvable_c hn1 hg h
      have c := (c.resolve_left (fun q => q.2 hs)).1
      refine ⟨T, ?_, b⟩
      show f_X8_holds n S = _
      unfold f_X8_holds
      rw [bo_some a, c, if_neg (by decide)]
    · obtain ⟨r, T, a, b, d, c⟩ := with_q (n := n) (allM g.1.1) hn hg h
      have c := (c.resolve_left (fun q => q.2 hs)).1
      refine ⟨T, ?_, b, d⟩
      show f_X9_holds n S = _
      unfold f_X9_holds
      rw [bo_some (all_m h), bo_some a, c, if_neg (by decide)]
  · refine ⟨0, fun S h => ?_, fun S h => ?_⟩
    · obtain ⟨r, T, a, b, c⟩ := solvable_c hn1 hg h
      have c := (c.resolve_right (fun q => hs q.2)).1
      refine ⟨T, ?_, b⟩
      show f_X8_holds n S = _
      unfold f_X8_holds
      rw [bo_some a, c, if_pos rfl]
    · obtain ⟨r, T, a, b, d, c⟩ := with_q (n := n) (allM g.1.1) hn hg h
      have c := (c.resolve_right (fun q => hs q.2)).1
      refine ⟨T, ?_, b, d⟩
      show f_X9_holds n S = _
      unfold f_X9_holds
      rw [bo_some (all_m h), bo_some a, c, if_pos rfl]
theorem op_holds {n : Nat} {S : St} (hn : NB ≤ n) (hI : Inv S) : OpOk (fun S => f_X8_holds n S) (fun S => f_X9_holds n S) S := by
  obtain ⟨g, hg, hc, hm⟩ := hI
  obtain ⟨v, q1, q2⟩ := q_holds (n := n) hn hg
  have hw : ∀ c, 28 ≤ c ∧ c ≤ 39 → ¬ wr_X8_holds c := fun c hc h => by unfold wr_X8_holds at h; omega
  exact query hg hc hm q1 q2 (fun S r T h => fr_X8_holds n S r T h) hw (fun S r T h => fr_X9_holds n S r T h) (fun c hc h => by unfold wr_X9_holds at h; omega)
/-! apart -/
theorem op_apart {n : Nat} {S : St} (hn : NB ≤ n) (hI : Inv S) (a b : Int32) : OpOk (fun S => f_X8_apart n S a b) (fun S => f_X9_apart n S a b) S := by
  obtain ⟨g, hg, hc, hm⟩ := hI
  have hn1 := NB110 hn
  have hwf := hg.wf
  have h10 := hg.1.2.2.2
  have s6 := hc.1.1.2.2.1
  rcases two a b h10 with ⟨s, t, hs, ht, rfl, rfl⟩ | ho
  · obtain ⟨r1, T1, a1, a2, a3⟩ := solvable_c hn1 hg hc
    have hm1 := solv_mi hm a1
    -- the reference, from any state that holds g
    have ref : ∀ U, MI U g → ∃ W, f_X9_apart n U (nI s) (nI t) = (if (W.1 28 39) = 0 then some ((-2000000004 : Int32), W) else if (W.1 28 40) = 0 then bo (f_X9_told n W (W.2 28 41)) (fun (r_14 : Int32) (S_15 : St) => some (r_14, S_15)) else some ((-2000000001 : Int32), W)) ∧ Keeps wr_X9_seek U W ∧ MI W g ∧ ((W.1 28 39 = 0 ∧ ¬ ∃ v, Sol (gP g) (allM g.1.1) v) ∨ (W.1 28 39 = 1 ∧ (∃ v, Sol (gP g) (allM g.1.1) v) ∧ ((W.1 28 40 = 0 ∧ isSup (Sol (gP g) (allM g.1.1)) s t (some (W.2 28 41).toInt)) ∨ (W.1 28 40 = 1 ∧ isSup (Sol (gP g) (allM g.1.1)) s t none)))) := by
      intro U hU
      obtain ⟨p1, p2, p3, p4⟩ := plain_f U
      generalize hU1 : sI (sI (plain U) 28 37 (nI s)) 28 38 (nI t) = U1
      have k1 : MKeep U U1 := by rw [← hU1]; exact (plain_k.trans (fld_mk (by omega))).trans (fld_mk (by omega))
      have e1 : U1.1 28 32 = -2000000001 ∧ U1.1 28 35 = -2000000001 ∧ U1.1 28 37 = nI s ∧ U1.1 28 38 = nI t := by
        rw [← hU1]
        refine ⟨?_, ?_, ?_, ?_⟩
        · rw [← p1]; simp [sI]
        · rw [← p2]; simp [sI]
        · simp [sI]
        · simp [sI]
      have hm2 := (hU.mk k1).1
      obtain ⟨W, w1, w2, w3⟩ := seek_q (n := n) (S := U1) (mo := none) (ot := none) (w := some (s, t)) (allM g.1.1) hn hg hm2 e1.1 e1.2.1 ⟨hs, ht, e1.2.2.1, e1.2.2.2⟩
      rw [PM0] at w3
      have kU : Keeps wr_X9_seek U U1 := by
        intro c hc
        have hc' : c ≠ 28 := by unfold wr_X9_seek at hc; omega
        rw [← hU1]
        unfold plain
        exact ⟨by funext j; simp [sI, hc'], rfl⟩
      refine ⟨W, ?_, kU.trans (fr_X9_seek n U1 _ () W w1), (hU.mk (k1.trans w2)).1, ?_⟩
      · unfold f_X9_apart f_X9_apartNow
        rw [bo_some (two_in hU.1.2.2.1 h10 hs ht), if_neg (by decide), bo_some plain_e]
        simp only [bd]
        rw [hU1, bo_some (all_m hm2), bo_some w1]
        by_cases c1 : W.1 28 39 = 0
        · simp only [if_pos c1]; rfl
        · simp only [if_neg c1]
          by_cases c2 : W.1 28 40 = 0
          · simp only [if_pos c2]
            cases f_X9_told n W (W.2 28 41) <;> rfl
          · simp only [if_neg c2]; rfl
      · rcases w3 with ⟨x, y⟩ | ⟨x, y, z⟩
        · exact Or.inl ⟨x, y⟩
        · exact Or.inr ⟨x, y, z (s, t) rfl⟩
    have ck : ∀ {U W : St}, CI U g → Keeps wr_X9_seek U W → CI W g := fun {U W} h k => h.kp k (fun c hc q => by unfold wr_X9_seek at q; omega)
    rcases a3 with ⟨e, hno⟩ | ⟨e, hyes⟩
    · obtain ⟨W, w1, w2, w3, w4⟩ := ref T1 hm1
      have x := (w4.resolve_right (fun q => hno q.2.1)).1
      refine ⟨-2000000004, T1, W, ?_, ?_, g, hg, ck a2 w2, w3⟩
      · show f_X8_apart n S (nI s) (nI t) = _
        unfold f_X8_apart
        rw [bo_some (has7 s6 h10 hs), if_neg (by decide), bo_some (has7 s6 h10 ht), if_neg (by decide), bo_some a1, e, if_pos rfl]
      · show f_X9_apart n T1 (nI s) (nI t) = _
        rw [w1, if_pos x]
    · obtain ⟨T2, cc, b1, b2, b3, b4, b5, b6, b7⟩ := loadC hn1 hg a2 (allM g.1.1)
      generalize hT3 : sI (sI T2 23 8 (nI s)) 23 9 (nI t) = T3
      have k3 : Keeps wS T2 T3 := by
        intro c hc
        have hc' : c ≠ 23 := by unfold wS at hc; omega
        rw [← hT3]
        exact ⟨by funext j; simp [sI, hc'], rfl⟩
      have l3 : Ld T3 cc (Sol (gP g) (allM g.1.1)) := by
        obtain ⟨C, E, l1, l2, l3, l4⟩ := b7
        have f3 : ∀ j, j ≠ 8 → j ≠ 9 → T3.1 23 j = T2.1 23 j := fun j h1 h2 => by rw [← hT3]; simp [sI, h1, h2]
        refine ⟨C, E, l1.keep (f3 3 (by omega) (by omega)) (fun k hk => ?_), l2.keep (by rw [← hT3]; rfl), (f3 7 (by omega) (by omega)).trans l3, ?_⟩
        · rw [← hT3]; funext j; have : 50 + k ≠ 23 := by omega
          simp [sI, this]
        · rw [f3 6 (by omega) (by omega)]; exact l4
      obtain ⟨r4, T4, c1, c2⟩ := askG (n := n) (gl := s) (gr := t) (S := T3) (by omega) (by omega) (by omega) (by rw [← hT3]; simp [sI]) (by rw [← hT3]; simp [sI]) l3
      obtain ⟨c3, -, c5, c6⟩ := c2.resolve_left (fun q => q.2 hyes)
      have k4 : Keeps wS T1 T4 := (b2.trans k3).trans ((fq_X6_hasSolution n T3 r4 T4 c1).mono (fun c h => h))
      have hc4 : CI T4 g := a2.kp k4 wS_ci
      have hm4 : MI T4 g := hm1.kp k4 wS_mi
      have lc : f_X8_apart n S (nI s) (nI t) = f_X8_asAnswer n T4 (T4.2 120 (s * 10 + t)) := by
        unfold f_X8_apart f_X6_aimAt
        rw [bo_some (has7 s6 h10 hs), if_neg (by decide), bo_some (has7 s6 h10 ht), if_neg (by decide), bo_some a1, e, if_neg (by decide), bo_some (all_c a2), bo_some b1]
        simp only [bd]
        rw [hT3]
        have e0 : ∀ k : Unit → St → Option (Int32 × St), bo (some ((), T3)) k = k () T3 := fun _ => rfl
        rw [e0, bo_some c1, c3, if_neg (by decide), bo_some c5]
        cases f_X8_asAnswer n T4 (T4.2 120 (s * 10 + t)) <;> rfl
      obtain ⟨W, w1, w2, w3, w4⟩ := ref T4 hm4
      obtain ⟨x, -, z⟩ := w4.resolve_left (fun q => q.2 hyes)
      have hcW := ck hc4 w2
      have FCv : FC = 1000000000000000 := rfl
      obtain ⟨wa, wb⟩ := W0a
      rcases c6 with ⟨d1, d2⟩ | ⟨d1, d2, d3⟩
      · rcases z with ⟨z1, z2⟩ | ⟨z1, z2⟩
        · exact absurd (isSup_uniq d2 z2) (by simp)
        · refine ⟨-2000000001, T4, W, ?_, ?_, g, hg, hcW, w3⟩
          · show f_X8_apart n S (nI s) (nI t) = _
            rw [lc]; exact ans_none d1
          · show f_X9_apart n T4 (nI s) (nI t) = _
            rw [w1, if_neg (by rw [x]; decide), if_neg (by rw [z1]; decide)]
      · rcases z with ⟨z1, z2⟩ | ⟨z1, z2⟩
        · have ee := Option.some.inj (isSup_uniq d3 z2)
          have ex : T4.2 120 (s * 10 + t) = W.2 28 41 := Int64.toInt_inj.mp ee
          obtain ⟨v, v1, v2⟩ := ans_told (n := n) (S := T4) (T := W) (x := W.2 28 41) (by rw [← ex]; omega)
          refine ⟨v, T4, W, ?_, ?_, g, hg, hcW, w3⟩
          · show f_X8_apart n S (nI s) (nI t) = _
            rw [lc, ex]; exact v1
          · show f_X9_apart n T4 (nI s) (nI t) = _
            rw [w1, if_neg (by rw [x]; decide), if_pos z1, bo_some v2]
        · exact absurd (isSup_uniq d3 z2) (by simp)
  · refine ⟨-2000000002, S, S, ?_, ?_, g, hg, hc, hm⟩
    · show f_X8_apart n S a b = _
      unfold f_X8_apart
      rcases ho with h | ⟨s, hs, rfl, h⟩
      · rw [bo_some (has7_out s6 h), if_pos rfl]
      · rw [bo_some (has7 s6 h10 hs), if_neg (by decide), bo_some (has7_out s6 h), if_pos rfl]
    · show f_X9_apart n S a b = _
      unfold f_X9_apart
      rw [bo_some (two_out hm.1.2.2.1 h10 ho), if_pos rfl]
