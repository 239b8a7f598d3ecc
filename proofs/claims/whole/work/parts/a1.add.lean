/-! add -/
theorem ar_app : ∀ {p s : List Nat}, OkL p → ar (p ++ s) = ar p + ar s
  | [], s, _ => by simp [ar]
  | x :: p, s, h => by
    have ih := ar_app (p := p) (s := s) h.1
    have h1 := h.2.2.2
    simp only [List.cons_append, ar]
    rw [ih]
    by_cases c : x < 5
    · rw [if_pos c, if_pos c]; omega
    · rw [if_neg c, if_neg c]
      by_cases c5 : x = 5
      · rw [if_pos c5, if_pos c5]
      · rw [if_neg c5, if_neg c5]
        have := h1 (by have := h.2.1; omega)
        omega
theorem OkL_cat : ∀ {p s : List Nat}, OkL p → OkL s → OkL (p ++ s)
  | [], _, _, h => h
  | x :: p, s, h, hs => by
    have e := ar_app (p := p) (s := s) h.1
    refine ⟨OkL_cat h.1 hs, h.2.1, fun q => ?_, fun q => ?_⟩
    · show 1 ≤ ar (p ++ s)
      have := h.2.2.1 q; omega
    · show 2 ≤ ar (p ++ s)
      have := h.2.2.2 q; omega
/-- what a whole literal is -/
theorem gwh.ok {pg : Nat → Nat} {P : Nat} {z : Gs} (h : grun pg P = some z) (hw : gwh z) (hP : P ≤ 40) : SOk z.2.1.1 ∧ SOk z.2.1.2 ∧ z.1.2.2 ≤ 2 ∧ z.2.2.1 ≤ 1 ∧ z.2.2.2 < 1000000 ∧ ∃ z2, gse pg P ≤ P ∧ grun pg (gse pg P) = some z2 ∧ z2.1.1 = 2 ∧ z2.1.2.1 = [] ∧ z2.1.2.2 ≠ 3 ∧ z2.2.1 = (z.2.1.1, z.2.1.2) := by
  obtain ⟨w1, w2, w3⟩ := hw
  have ok := grun_ok h
  obtain ⟨a1, a2, -, a4⟩ := grun_ar h
  obtain ⟨b1, b2⟩ := a4 w1
  have hb : ar z.2.1.2 = 1 := by
    rw [b2, w2, if_pos (by omega)]; rfl
  have len := ok.2.1
  have kd := ok.2.2.2.1
  refine ⟨⟨a1, b1, by omega⟩, ⟨a2, hb, by omega⟩, by omega, ok.2.2.2.2.1, ok.2.2.1, ?_⟩
  obtain ⟨g1, g2⟩ := gse_ok P z h
  by_cases c : z.1.1 = 3
  · obtain ⟨g3, z2, g4, g5, g6, g7, g8⟩ := g2 c
    exact ⟨z2, by omega, g4, g5, g6, by rw [g7]; exact w1, by rw [g8]⟩
  · have e := g1 c
    refine ⟨z, by omega, by rw [e]; exact h, by omega, w2, w1, rfl⟩
def addG (G : Gl) (L : Nat) (x : Nat × List Nat × List Nat × Int) : Gl := fun k => if k = L then x else G k
theorem addG_t {G : Gl} {L : Nat} {x : Nat × List Nat × List Nat × Int} : tbl (addG G L x) L = tbl G L := tbl_congr (fun j hj => by unfold addG; rw [if_neg (by omega)])
theorem addG_s {G : Gl} {L : Nat} {x : Nat × List Nat × List Nat × Int} : tbl (addG G L x) (L + 1) = (lay1 (tbl G L) x.2.1 x.2.2.1).1 ∧ lft (addG G L x) L = (lay1 (tbl G L) x.2.1 x.2.2.1).2.1 ∧ rgt (addG G L x) L = (lay1 (tbl G L) x.2.1 x.2.2.1).2.2 := by
  have e : addG G L x L = x := by unfold addG; rw [if_pos rfl]
  refine ⟨?_, ?_, ?_⟩
  · show (lay1 (tbl (addG G L x) L) (addG G L x L).2.1 (addG G L x L).2.2.1).1 = _
    rw [addG_t, e]
  · unfold lft; rw [addG_t, e]
  · unfold rgt; rw [addG_t, e]
theorem addG_l {G : Gl} {L k : Nat} {x : Nat × List Nat × List Nat × Int} (hk : k < L) : addG G L x k = G k ∧ lft (addG G L x) k = lft G k ∧ rgt (addG G L x) k = rgt G k := by
  obtain ⟨a, b⟩ := lft_congr (G := addG G L x) (H := G) (k := k) (fun j hj => by unfold addG; rw [if_neg (by omega)])
  exact ⟨by unfold addG; rw [if_neg (by omega)], a, b⟩
/-- the number that was read -/
def numZ (z : Gs) : Int := if z.2.2.1 = 0 then (z.2.2.2 : Int) else -(z.2.2.2 : Int)
def litZ (z : Gs) : Nat × List Nat × List Nat × Int := (z.1.2.2, z.2.1.1, z.2.1.2, numZ z)
def gAdd (g : Gh) (z : Gs) : Gh := ((g.1.1 + 1, addG g.1.2 g.1.1 (litZ z)), (0, g.2.1.2), (g.2.2.1 + 1, g.2.2.2.1, g.2.2.2.2))
theorem neg_nI {a : Nat} (h : a < 1000000) : (-(nI a)).toInt = -(a : Int) := by
  rw [Int32.toInt_neg, nI_toInt (by omega)]; exact Int.bmod_eq_of_le (by omega) (by omega)
/-- the class adds -/
theorem add_C {n : Nat} {S : St} {g : Gh} {z : Gs} (hn : 110 ≤ n) (hg : Gd g) (h : CI S g) (hL : g.1.1 < 10) (hz : grun g.2.1.2 g.2.1.1 = some z) (hw : gwh z) (hcg : CG S z) :
    ∃ r T, (bo (f_X7_size n 6 S) fun (r_13 : Int32) (S_14 : St) => bd (r_13) fun (x1_16 : Int32) => bo (f_X5_buildIn n S_14 6) fun (r_17 : Int32) (S_18 : St) => if r_17 = 0 then (bo (f_X7_shrinkTo n 6 S_18 x1_16) fun (_ : Unit) (S_45 : St) => some ((-2000000005 : Int32), S_45)) else (bo (f_X5_kind n S_18) fun (r_21 : Int32) (S_22 : St) => bo (f_X5_left n S_22) fun (r_24 : Int32) (S_25 : St) => bo (f_X5_right n S_25) fun (r_27 : Int32) (S_28 : St) => bo (f_X5_number n S_28) fun (r_30 : Int32) (S_31 : St) => bo (f_X3_append n S_31 r_21 r_24 r_27 r_30) fun (_ : Unit) (S_34 : St) => bd (sI S_34 0 1 (0 : Int32)) fun (S_36 : St) => bd (sI S_36 0 9 ((S_36.1 0 9) + (1 : Int32))) fun (S_37 : St) => bo (f_X8_forgetResults n S_37) fun (_ : Unit) (S_39 : St) => bo (f_X3_size n S_39) fun (r_41 : Int32) (S_42 : St) => some ((r_41 - (1 : Int32)), S_42))) = some (r, T) ∧ ((r = -2000000005 ∧ 10 < (lay1 (tbl g.1.2 g.1.1) z.2.1.1 z.2.1.2).1.1 ∧ CI T g) ∨ (r = nI g.1.1 ∧ (lay1 (tbl g.1.2 g.1.1) z.2.1.1 z.2.1.2).1.1 ≤ 10 ∧ CI T (gAdd g z))) := by
  obtain ⟨s1, s2, kd2, ng1, nm6, -⟩ := gwh.ok hz hw hg.2.1.1
  have hwt := tbl_wf hg.1.2.1
  have h5 := hwt.1
  have h10 := hg.1.2.2.2
  obtain ⟨tb1, a', tb2, b', l1, l2, l3⟩ := lay1_ok hwt s1 s2
  have ok := grun_ok hz
  have len := ok.2.1
  have hP := hg.2.1.1
  have hc6 := h.1.1
  obtain ⟨g0, g2, g3, g4, g5, gk, gn, gd⟩ := hcg
  obtain ⟨r, T, b1, b2, b3⟩ := build_c (n := n) (by omega) hc6 (l := z.2.1.2 ++ z.2.1.1) (by rw [List.length_append]; omega) g4 g5 (OkL_cat s2.1 s1.1) (by rw [ar_app s2.1, s1.2.1, s2.2.1])
  have kB := fr_X5_buildIn n S 6 r T b1
  have kc : ∀ c, ¬ (c = 2 ∨ c = 5 ∨ (6 ≤ c ∧ c ≤ 10)) → T.1 c = S.1 c ∧ T.2 c = S.2 c := fun c hc => kB c (fun q => by unfold wr_X5_buildIn at q; omega)
  have ebl : bl (z.2.1.2 ++ z.2.1.1) (tbl g.1.2 g.1.1, []) = (tb2, [b', a']) := by
    rw [bl_app, l1.1 [], List.append_nil, l2.1 [a']]; rfl
  unfold f_X7_size
  simp only [bo, bd]
  rw [b1]
  simp only []
  rcases b3 with ⟨r1, tb, a, b, c1, c2, c3, c4, c5⟩ | ⟨r0, d1, tb, d2, d3⟩
  · have e := c1.1 []
    rw [ebl, List.append_nil] at e
    have et : tb2 = tb := congrArg Prod.fst e
    have es := congrArg Prod.snd e
    simp only [List.cons.injEq, and_true] at es
    obtain ⟨eb, ea⟩ := es
    subst et; subst eb; subst ea
    rw [if_neg (by rw [r1]; decide)]
    have k5 : T.1 2 5 = nI z.1.2.2 := by rw [b2.2 5 (by omega), gk, if_neg hw.1]
    have k6 : T.1 2 6 = nI z.2.2.1 := by rw [b2.2 6 (by omega)]; exact gn
    have k7 : T.1 2 7 = nI z.2.2.2 := by rw [b2.2 7 (by omega)]; exact gd
    have enum : ∃ v : Int32, f_X5_number n T = some (v, T) ∧ v.toInt = numZ z := by
      unfold f_X5_number numZ
      rw [k6, k7]
      by_cases q : z.2.2.1 = 0
      · rw [if_pos (by rw [q]; rfl), if_pos q]
        exact ⟨_, rfl, nI_toInt (by omega)⟩
      · have q1 : z.2.2.1 = 1 := by omega
        rw [if_neg (by rw [q1]; decide), if_neg q]
        exact ⟨_, rfl, neg_nI nm6⟩
    obtain ⟨v, v1, v2⟩ := enum
    have el : f_X5_left n T = some (nI a', T) := by
      unfold f_X5_left
      rw [if_pos (by rw [c3]; rfl), if_neg (by decide), show ((0 : Int32)).toNatClampNeg = 0 by decide, c4]
    have er : f_X5_right n T = some (nI b', T) := by
      unfold f_X5_right
      rw [if_pos (by rw [c3]; rfl), if_neg (by decide), show ((1 : Int32)).toNatClampNeg = 1 by decide, c5]
    have ek : f_X5_kind n T = some (nI z.1.2.2, T) := by unfold f_X5_kind; rw [k5]
    have s16 : T.1 16 4 = nI g.1.1 := by rw [(kc 16 (by omega)).1]; exact h.1.2.1.1
    generalize hU : sI (sI (sI (sI (sI T 17 g.1.1 (nI z.1.2.2)) 18 g.1.1 (nI a')) 19 g.1.1 (nI b')) 20 g.1.1 v) 16 4 (nI (g.1.1 + 1)) = U
    have eap : f_X3_append n T (nI z.1.2.2) (nI a') (nI b') v = some ((), U) := by
      unfold f_X3_append
      have i1 : ∀ (V : St), V.1 16 4 = nI g.1.1 → ¬ (V.1 16 4 < 0 ∨ 10 ≤ (V.1 16 4).toNatClampNeg) := fun V hV => by rw [hV]; exact nI_bad hL (by omega)
      rw [if_neg (by rw [s16]; exact nI_pos (by omega)), if_pos (by rw [s16, show (10 : Int32) = nI 10 from rfl, nI_ltI (by omega) (by omega)]; exact hL), if_neg (i1 T s16), s16, nI_c (by omega)]
      simp only [bd]
      have u1 : (sI T 17 g.1.1 (nI z.1.2.2)).1 16 4 = nI g.1.1 := by rw [← s16]; simp [sI]
      rw [if_neg (i1 _ u1), u1, nI_c (by omega)]
      have u2 : (sI (sI T 17 g.1.1 (nI z.1.2.2)) 18 g.1.1 (nI a')).1 16 4 = nI g.1.1 := by rw [← s16]; simp [sI]
      rw [if_neg (i1 _ u2), u2, nI_c (by omega)]
      have u3 : (sI (sI (sI T 17 g.1.1 (nI z.1.2.2)) 18 g.1.1 (nI a')) 19 g.1.1 (nI b')).1 16 4 = nI g.1.1 := by rw [← s16]; simp [sI]
      rw [if_neg (i1 _ u3), u3, nI_c (by omega)]
      have u4 : (sI (sI (sI (sI T 17 g.1.1 (nI z.1.2.2)) 18 g.1.1 (nI a')) 19 g.1.1 (nI b')) 20 g.1.1 v).1 16 4 = nI g.1.1 := by rw [← s16]; simp [sI]
      rw [u4, nI_1, hU]
    rw [ek]
    simp only []
    rw [el]
    simp only []
    rw [er]
    simp only []
    rw [v1]
    simp only []
    rw [eap]
    simp only []
    rw [forg_e]
    unfold f_X3_size
    simp only []
    have U16 : U.1 16 4 = nI (g.1.1 + 1) := by rw [← hU]; simp [sI]
    have Uc : ∀ c, ¬ (c = 16 ∨ c = 17 ∨ c = 18 ∨ c = 19 ∨ c = 20) → U.1 c = T.1 c := fun c hc => by
      have x1 : c ≠ 16 := by omega
      have x2 : c ≠ 17 := by omega
      have x3 : c ≠ 18 := by omega
      have x4 : c ≠ 19 := by omega
      have x5 : c ≠ 20 := by omega
      rw [← hU]; funext k; simp [sI, x1, x2, x3, x4, x5]
    generalize hW : sI (sI U 0 1 0) 0 9 ((sI U 0 1 0).1 0 9 + 1) = W
    have Wc : ∀ c, c ≠ 0 → W.1 c = U.1 c := fun c hc => by rw [← hW]; funext k; simp [sI, hc]
    have e16 : (forg W).1 16 4 = nI (g.1.1 + 1) := by rw [forg_c (by omega), Wc 16 (by omega)]; exact U16
    rw [e16, nI_pred]
    have le10 : tb2.1 ≤ 10 := c2.2.1
    refine ⟨_, _, rfl, Or.inr ⟨rfl, by rw [l3]; exact le10, CCo.forg ?_⟩⟩
    obtain ⟨as1, as2, as3⟩ := addG_s (G := g.1.2) (L := g.1.1) (x := litZ z)
    have l3' : lay1 (tbl g.1.2 g.1.1) (litZ z).2.1 (litZ z).2.2.1 = (tb2, a', b') := l3
    rw [l3'] at as1 as2 as3
    have T0 : T.1 0 = S.1 0 := (kc 0 (by omega)).1
    refine ⟨?_, ⟨?_, fun k hk => ?_⟩, ⟨?_, fun i hi => absurd hi (Nat.not_lt_zero _)⟩, ?_, ?_, ?_⟩
    · show CT W 6 (tbl (addG g.1.2 g.1.1 (litZ z)) (g.1.1 + 1))
      rw [as1]
      exact c2.keep (by rw [Wc 6 (by omega), Uc 6 (by omega)]) (by rw [Wc 7 (by omega), Uc 7 (by omega)]) (by rw [Wc 8 (by omega), Uc 8 (by omega)]) (by rw [Wc 9 (by omega), Uc 9 (by omega)]) (by rw [Wc 10 (by omega), Uc 10 (by omega)])
    · rw [Wc 16 (by omega)]; exact U16
    · rw [Wc 17 (by omega), Wc 18 (by omega), Wc 19 (by omega), Wc 20 (by omega)]
      have hk' : k < g.1.1 + 1 := hk
      by_cases e : k = g.1.1
      · show U.1 17 k = nI (addG g.1.2 g.1.1 (litZ z) k).1 ∧ U.1 18 k = nI (lft (addG g.1.2 g.1.1 (litZ z)) k) ∧ U.1 19 k = nI (rgt (addG g.1.2 g.1.1 (litZ z)) k) ∧ (U.1 20 k).toInt = (addG g.1.2 g.1.1 (litZ z) k).2.2.2
        have eg : addG g.1.2 g.1.1 (litZ z) k = litZ z := by unfold addG; rw [if_pos e]
        rw [eg, e, as2, as3, ← hU]
        refine ⟨by simp [sI, litZ], by simp [sI], by simp [sI], ?_⟩
        have : (sI (sI (sI (sI (sI T 17 g.1.1 (nI z.1.2.2)) 18 g.1.1 (nI a')) 19 g.1.1 (nI b')) 20 g.1.1 v) 16 4 (nI (g.1.1 + 1))).1 20 g.1.1 = v := by simp [sI]
        rw [this, v2]; rfl
      · obtain ⟨x1, x2, x3⟩ := addG_l (G := g.1.2) (L := g.1.1) (k := k) (x := litZ z) (by omega)
        show U.1 17 k = nI (addG g.1.2 g.1.1 (litZ z) k).1 ∧ U.1 18 k = nI (lft (addG g.1.2 g.1.1 (litZ z)) k) ∧ U.1 19 k = nI (rgt (addG g.1.2 g.1.1 (litZ z)) k) ∧ (U.1 20 k).toInt = (addG g.1.2 g.1.1 (litZ z) k).2.2.2
        rw [x1, x2, x3]
        have hl := h.1.2.1.2 k (by omega)
        have y : ∀ c, 17 ≤ c → c ≤ 20 → U.1 c k = S.1 c k := fun c h1 h2 => by
          rw [← (kc c (by omega)).1, ← hU]; have x16 : c ≠ 16 := by omega
          simp [sI, e, x16]
        rw [y 17 (by omega) (by omega), y 18 (by omega) (by omega), y 19 (by omega) (by omega), y 20 (by omega) (by omega)]
        exact hl
    · rw [← hW]; simp [sI]; rfl
    · have : W.1 0 9 = U.1 0 9 + 1 := by rw [← hW]; simp [sI]
      rw [this, Uc 0 (by omega), T0, h.1.2.2.2.1]; rfl
    · have : W.1 0 10 = U.1 0 10 := by rw [← hW]; simp [sI]
      rw [this, Uc 0 (by omega), T0, h.1.2.2.2.2.1]; rfl
    · have : W.1 0 11 = U.1 0 11 := by rw [← hW]; simp [sI]
      rw [this, Uc 0 (by omega), T0, h.1.2.2.2.2.2]; rfl
  · rw [ebl] at d1
    rw [if_pos r0, hc6.2.2.1]
    have fin : ∀ V : St, V.1 6 4 = nI (tbl g.1.2 g.1.1).1 → (∀ c, c ≠ 6 → V.1 c = T.1 c) → V.2 = T.2 → CI V g := by
      intro V v6 vc v2
      have ct : CT V 6 (tbl g.1.2 g.1.1) := CT.cut hwt d3 d2 v6 (vc 7 (by omega)) (vc 8 (by omega)) (vc 9 (by omega)) (vc 10 (by omega))
      obtain ⟨⟨-, y2, y3, y4, y5, y6⟩, x2, x3, x4⟩ := h
      have e : ∀ c, ¬ (c = 2 ∨ c = 5 ∨ (6 ≤ c ∧ c ≤ 10)) → V.1 c = S.1 c := fun c hc => (vc c (by omega)).trans (kc c hc).1
      refine ⟨⟨ct, ?_, ?_, ?_, ?_, ?_⟩, ?_, ?_, ?_⟩
      · rw [e 16 (by omega), e 17 (by omega), e 18 (by omega), e 19 (by omega), e 20 (by omega)]; exact y2
      · rw [e 0 (by omega), e 1 (by omega)]; exact y3
      · rw [e 0 (by omega)]; exact y4
      · rw [e 0 (by omega)]; exact y5
      · rw [e 0 (by omega)]; exact y6
      · rw [e 0 (by omega)]
        exact x2.imp id (fun q => q.keep (e 21 (by omega)) (e 22 (by omega)) (by rw [v2]; exact (kc 121 (by omega)).2))
      · unfold SoC at *
        rw [e 0 (by omega)]; exact x3
      · unfold PaC at *
        rw [e 0 (by omega), e 26 (by omega)]; exact x4
    have t64 : T.1 6 4 = nI tb.1 := d3.2.2.1
    have tb10 : tb.1 ≤ 10 := d3.2.1
    have tle := d2.1
    unfold f_X7_shrinkTo
    rw [if_neg (by rw [show (5 : Int32) = nI 5 from rfl, nI_ltI (by omega) (by omega)]; omega), t64]
    by_cases q : tb.1 ≤ (tbl g.1.2 g.1.1).1
    · rw [if_pos (by rw [nI_leI (by omega) (by omega)]; exact q)]
      exact ⟨_, T, rfl, Or.inl ⟨rfl, by rw [l3]; exact d1, fin T (by rw [t64]; congr 1; omega) (fun _ _ => rfl) rfl⟩⟩
    · rw [if_neg (by rw [nI_leI (by omega) (by omega)]; exact q)]
      simp only [bd]
      exact ⟨_, _, rfl, Or.inl ⟨rfl, by rw [l3]; exact d1, fin _ (by simp [sI]) (fun c hc => by funext k; simp [sI, hc]) rfl⟩⟩
