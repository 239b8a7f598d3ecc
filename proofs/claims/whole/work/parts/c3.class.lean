/-! THE CLASS'S CONSTRUCTOR (made by genclass.py) -/
def s0F (c k : Nat) : Int32 := if c = 6 then (if k = 4 then 5 else 0) else if c = 11 then (if k = 4 then 5 else 0) else if c = 8 then (if k < 5 then -2000000001 else 0) else if c = 9 then (if k < 5 then -2000000001 else 0) else if c = 13 then (if k < 5 then -2000000001 else 0) else if c = 14 then (if k < 5 then -2000000001 else 0) else if c = 10 then (if k < 5 then 1 else 0) else if c = 15 then (if k < 5 then 1 else 0) else if c = 26 then (if k = 2 then -2000000001 else if k = 3 then -2000000001 else 0) else 0
def S0 : St := (s0F, fun _ _ => 0)
theorem s0_big {c : Nat} (h : 27 ≤ c) (k : Nat) : S0.1 c k = 0 := by
  show s0F c k = 0
  unfold s0F
  rw [if_neg (by omega), if_neg (by omega), if_neg (by omega), if_neg (by omega), if_neg (by omega), if_neg (by omega), if_neg (by omega), if_neg (by omega), if_neg (by omega)]
def clsF (k : Nat) : Nat := if k < 28 then k else k + 22
/-- where a cell of the class lies in the list of its world -/
def ixc (c : Nat) : Nat := if c < 28 then ([0, 1, 2, 3, 4, 5, 6, 7, 8, 9, 10, 11, 12, 13, 14, 15, 16, 17, 18, 19, 20, 21, 24, 25, 26, 27, 98, 99] : List Nat).getD c 0 else if c < 72 then 30 + (c - 50) else if c < 95 then 52 + 2 * (c - 72) else if c = 95 then 28 else if c = 96 then 22 else if c < 120 then 53 + 2 * (c - 97) else if c = 120 then 29 else 23
theorem ixc_inj : ∀ i, i < 100 → ∀ j, j < 100 → ixc (clsF i) = ixc (clsF j) → i = j := by decide +kernel
theorem arrV_congr {cI : ClassId} {N : Nat} {f g : Nat → Value} (h : ∀ j, j < N → f j = g j) : arrV cI N f = arrV cI N g := by
  unfold arrV
  congr 2
  funext j
  exact h j.1 j.2
def adC (q : List Nat) (x : Nat × Nat × Nat × Nat) (ka kd ke : Nat → Nat) (c : Nat) : Nat := if c < 28 then q.getD c 0 else if c < 72 then ka (c - 50) else if c < 95 then kd (c - 72) else if c = 95 then x.1 else if c = 96 then x.2.1 else if c < 120 then ke (c - 97) else if c = 120 then x.2.2.1 else x.2.2.2
/-- the cells of the class -/
def wlc (y : y4) (ad : Nat → Nat) (S : St) : va_W := (List.range 100).map (fun k => (ad (clsF k), lyE y ad S (clsF k)))
set_option maxHeartbeats 4000000 in
set_option maxRecDepth 100000 in
theorem asm_c {D : va_G} {y : y4} {A : Nat → Prop} {H : Heap} {h0 q_1 q_2 r_1 r_2 r_3 q_3 t_1 t_2 t_3 t_4 q_4 f_1 f_2 f_3 f_4 q_5 l_1 l_2 l_3 l_4 q_6 v_1 v_2 v_3 q_7 s_1 s_2 s_3 s_4 q_8 p_1 : Nat} {pl : va_W} {ka kd ke : Nat → Nat} (hp : SvP y ((s_1, s_2, s_3, s_4), pl, ka, kd, ke)) (hP : va_P D vwCl ([(h0, .inr (8, [.ref q_1, .int 0, .ref q_2, .ref q_3, .ref q_4, .ref q_5, .ref q_6, .ref q_7, .ref q_8, .int 0, .int 0, .int 0, .int 0, .int 0, .int 0, .int 0])), (q_1, .inl (y.1, 40, .inl (fun _ => 0))), (q_2, .inr (5, [.int 0, .ref r_1, .int 0, .ref r_2, .int 0, .int 0, .int 0, .int 0, .ref r_3, .int 0])), (r_1, .inl (y.1, 40, .inl (fun _ => 0))), (r_2, .inl (y.1, 40, .inl (fun _ => 0))), (r_3, .inl (y.1, 40, .inl (fun _ => 0))), (q_3, .inr (7, [.ref t_1, .ref t_2, .ref t_3, .ref t_4, .int 5])), (t_1, .inl (y.1, 10, .inl (fun _ => 0))), (t_2, .inl (y.1, 10, .inl (fun j => if j < 5 then (-2000000001 : Int32) else 0))), (t_3, .inl (y.1, 10, .inl (fun j => if j < 5 then (-2000000001 : Int32) else 0))), (t_4, .inl (y.1, 10, .inl (fun j => if j < 5 then (1 : Int32) else 0))), (q_4, .inr (7, [.ref f_1, .ref f_2, .ref f_3, .ref f_4, .int 5])), (f_1, .inl (y.1, 10, .inl (fun _ => 0))), (f_2, .inl (y.1, 10, .inl (fun j => if j < 5 then (-2000000001 : Int32) else 0))), (f_3, .inl (y.1, 10, .inl (fun j => if j < 5 then (-2000000001 : Int32) else 0))), (f_4, .inl (y.1, 10, .inl (fun j => if j < 5 then (1 : Int32) else 0))), (q_5, .inr (3, [.ref l_1, .ref l_2, .ref l_3, .ref l_4, .int 0])), (l_1, .inl (y.1, 10, .inl (fun _ => 0))), (l_2, .inl (y.1, 10, .inl (fun _ => 0))), (l_3, .inl (y.1, 10, .inl (fun _ => 0))), (l_4, .inl (y.1, 10, .inl (fun _ => 0))), (q_6, .inr (2, [.ref q_3, .ref q_5, .ref v_1, .ref v_3, .int 0, .int 0])), (v_1, .inr (1, [.ref v_2])), (v_2, .inl (y.2.1, 100, .inr (.inl (fun _ => 0)))), (v_3, .inl (y.1, 10, .inl (fun _ => 0))), (q_7, .inr (6, [.ref q_3, .ref q_5, .ref s_1, .int 0, .ref s_2, .ref s_3, .int 0, .int 0, .int 0, .int 0])), (s_1, .inl (y.2.2.1, 22, .inr (.inr (.inr (.inr (fun j => if j < 22 then some (ka j) else none)))))), (s_2, .inl (y.2.2.2, 23, .inr (.inr (.inr (.inr (fun j => if j < 23 then some (kd j) else none)))))), (s_3, .inr (1, [.ref s_4])), (s_4, .inl (y.2.1, 100, .inr (.inl (fun _ => 0))))] ++ (pl ++ [(q_8, .inr (4, [.ref q_7, .ref p_1, .int (-2000000001), .int (-2000000001)])), (p_1, .inl (y.1, 10, .inl (fun _ => 0)))])) H) (hD : va_D A ([(h0, .inr (8, [.ref q_1, .int 0, .ref q_2, .ref q_3, .ref q_4, .ref q_5, .ref q_6, .ref q_7, .ref q_8, .int 0, .int 0, .int 0, .int 0, .int 0, .int 0, .int 0])), (q_1, .inl (y.1, 40, .inl (fun _ => 0))), (q_2, .inr (5, [.int 0, .ref r_1, .int 0, .ref r_2, .int 0, .int 0, .int 0, .int 0, .ref r_3, .int 0])), (r_1, .inl (y.1, 40, .inl (fun _ => 0))), (r_2, .inl (y.1, 40, .inl (fun _ => 0))), (r_3, .inl (y.1, 40, .inl (fun _ => 0))), (q_3, .inr (7, [.ref t_1, .ref t_2, .ref t_3, .ref t_4, .int 5])), (t_1, .inl (y.1, 10, .inl (fun _ => 0))), (t_2, .inl (y.1, 10, .inl (fun j => if j < 5 then (-2000000001 : Int32) else 0))), (t_3, .inl (y.1, 10, .inl (fun j => if j < 5 then (-2000000001 : Int32) else 0))), (t_4, .inl (y.1, 10, .inl (fun j => if j < 5 then (1 : Int32) else 0))), (q_4, .inr (7, [.ref f_1, .ref f_2, .ref f_3, .ref f_4, .int 5])), (f_1, .inl (y.1, 10, .inl (fun _ => 0))), (f_2, .inl (y.1, 10, .inl (fun j => if j < 5 then (-2000000001 : Int32) else 0))), (f_3, .inl (y.1, 10, .inl (fun j => if j < 5 then (-2000000001 : Int32) else 0))), (f_4, .inl (y.1, 10, .inl (fun j => if j < 5 then (1 : Int32) else 0))), (q_5, .inr (3, [.ref l_1, .ref l_2, .ref l_3, .ref l_4, .int 0])), (l_1, .inl (y.1, 10, .inl (fun _ => 0))), (l_2, .inl (y.1, 10, .inl (fun _ => 0))), (l_3, .inl (y.1, 10, .inl (fun _ => 0))), (l_4, .inl (y.1, 10, .inl (fun _ => 0))), (q_6, .inr (2, [.ref q_3, .ref q_5, .ref v_1, .ref v_3, .int 0, .int 0])), (v_1, .inr (1, [.ref v_2])), (v_2, .inl (y.2.1, 100, .inr (.inl (fun _ => 0)))), (v_3, .inl (y.1, 10, .inl (fun _ => 0))), (q_7, .inr (6, [.ref q_3, .ref q_5, .ref s_1, .int 0, .ref s_2, .ref s_3, .int 0, .int 0, .int 0, .int 0])), (s_1, .inl (y.2.2.1, 22, .inr (.inr (.inr (.inr (fun j => if j < 22 then some (ka j) else none)))))), (s_2, .inl (y.2.2.2, 23, .inr (.inr (.inr (.inr (fun j => if j < 23 then some (kd j) else none)))))), (s_3, .inr (1, [.ref s_4])), (s_4, .inl (y.2.1, 100, .inr (.inl (fun _ => 0))))] ++ (pl ++ [(q_8, .inr (4, [.ref q_7, .ref p_1, .int (-2000000001), .int (-2000000001)])), (p_1, .inl (y.1, 10, .inl (fun _ => 0)))]))) : va_P D vwCl (wlc y (adC [h0, q_1, q_2, r_1, r_2, r_3, q_3, t_1, t_2, t_3, t_4, q_4, f_1, f_2, f_3, f_4, q_5, l_1, l_2, l_3, l_4, q_6, v_3, q_7, s_1, s_2, q_8, p_1] (s_3, v_1, s_4, v_2) ka kd ke) S0) H ∧ va_D A (wlc y (adC [h0, q_1, q_2, r_1, r_2, r_3, q_3, t_1, t_2, t_3, t_4, q_4, f_1, f_2, f_3, f_4, q_5, l_1, l_2, l_3, l_4, q_6, v_3, q_7, s_1, s_2, q_8, p_1] (s_3, v_1, s_4, v_2) ka kd ke) S0) := by
  generalize hAD : adC [h0, q_1, q_2, r_1, r_2, r_3, q_3, t_1, t_2, t_3, t_4, q_4, f_1, f_2, f_3, f_4, q_5, l_1, l_2, l_3, l_4, q_6, v_3, q_7, s_1, s_2, q_8, p_1] (s_3, v_1, s_4, v_2) ka kd ke = ad
  generalize hWL : [(h0, .inr (8, [.ref q_1, .int 0, .ref q_2, .ref q_3, .ref q_4, .ref q_5, .ref q_6, .ref q_7, .ref q_8, .int 0, .int 0, .int 0, .int 0, .int 0, .int 0, .int 0])), (q_1, .inl (y.1, 40, .inl (fun _ => 0))), (q_2, .inr (5, [.int 0, .ref r_1, .int 0, .ref r_2, .int 0, .int 0, .int 0, .int 0, .ref r_3, .int 0])), (r_1, .inl (y.1, 40, .inl (fun _ => 0))), (r_2, .inl (y.1, 40, .inl (fun _ => 0))), (r_3, .inl (y.1, 40, .inl (fun _ => 0))), (q_3, .inr (7, [.ref t_1, .ref t_2, .ref t_3, .ref t_4, .int 5])), (t_1, .inl (y.1, 10, .inl (fun _ => 0))), (t_2, .inl (y.1, 10, .inl (fun j => if j < 5 then (-2000000001 : Int32) else 0))), (t_3, .inl (y.1, 10, .inl (fun j => if j < 5 then (-2000000001 : Int32) else 0))), (t_4, .inl (y.1, 10, .inl (fun j => if j < 5 then (1 : Int32) else 0))), (q_4, .inr (7, [.ref f_1, .ref f_2, .ref f_3, .ref f_4, .int 5])), (f_1, .inl (y.1, 10, .inl (fun _ => 0))), (f_2, .inl (y.1, 10, .inl (fun j => if j < 5 then (-2000000001 : Int32) else 0))), (f_3, .inl (y.1, 10, .inl (fun j => if j < 5 then (-2000000001 : Int32) else 0))), (f_4, .inl (y.1, 10, .inl (fun j => if j < 5 then (1 : Int32) else 0))), (q_5, .inr (3, [.ref l_1, .ref l_2, .ref l_3, .ref l_4, .int 0])), (l_1, .inl (y.1, 10, .inl (fun _ => 0))), (l_2, .inl (y.1, 10, .inl (fun _ => 0))), (l_3, .inl (y.1, 10, .inl (fun _ => 0))), (l_4, .inl (y.1, 10, .inl (fun _ => 0))), (q_6, .inr (2, [.ref q_3, .ref q_5, .ref v_1, .ref v_3, .int 0, .int 0])), (v_1, .inr (1, [.ref v_2])), (v_2, .inl (y.2.1, 100, .inr (.inl (fun _ => 0)))), (v_3, .inl (y.1, 10, .inl (fun _ => 0))), (q_7, .inr (6, [.ref q_3, .ref q_5, .ref s_1, .int 0, .ref s_2, .ref s_3, .int 0, .int 0, .int 0, .int 0])), (s_1, .inl (y.2.2.1, 22, .inr (.inr (.inr (.inr (fun j => if j < 22 then some (ka j) else none)))))), (s_2, .inl (y.2.2.2, 23, .inr (.inr (.inr (.inr (fun j => if j < 23 then some (kd j) else none)))))), (s_3, .inr (1, [.ref s_4])), (s_4, .inl (y.2.1, 100, .inr (.inl (fun _ => 0))))] ++ (pl ++ [(q_8, .inr (4, [.ref q_7, .ref p_1, .int (-2000000001), .int (-2000000001)])), (p_1, .inl (y.1, 10, .inl (fun _ => 0)))]) = WL at hP hD
  obtain ⟨p1, p2, p3⟩ := hp
  have hpl : pl.length = 68 := p1
  -- the address at each place
  have inpl : ∀ (j : Nat) (x : Nat × va_E), pl[j]? = some x → WL[30 + j]? = some x := by
    intro j x hx
    have hj : j < pl.length := (List.getElem?_eq_some_iff.mp hx).1
    rw [← hWL, List.getElem?_append_right (by simp), List.getElem?_append_left (by simp; omega)]
    rw [← hx]; congr 1; simp
  have small : ∀ c, c < 28 → c ≠ 24 → c ≠ 25 → WL[ixc c]? = some (ad c, lyE y ad S0 c) := by
    intro c hc h24 h25
    rw [← hWL, ← hAD]
    have : c = 0 ∨ c = 1 ∨ c = 2 ∨ c = 3 ∨ c = 4 ∨ c = 5 ∨ c = 6 ∨ c = 7 ∨ c = 8 ∨ c = 9 ∨ c = 10 ∨ c = 11 ∨ c = 12 ∨ c = 13 ∨ c = 14 ∨ c = 15 ∨ c = 16 ∨ c = 17 ∨ c = 18 ∨ c = 19 ∨ c = 20 ∨ c = 21 ∨ c = 22 ∨ c = 23 ∨ c = 26 ∨ c = 27 := by omega
    rcases this with rfl | rfl | rfl | rfl | rfl | rfl | rfl | rfl | rfl | rfl | rfl | rfl | rfl | rfl | rfl | rfl | rfl | rfl | rfl | rfl | rfl | rfl | rfl | rfl | rfl | rfl
    · rfl
    · rfl
    · rfl
    · rfl
    · rfl
    · rfl
    · rfl
    · rfl
    · rfl
    · rfl
    · rfl
    · rfl
    · rfl
    · rfl
    · rfl
    · rfl
    · rfl
    · rfl
    · rfl
    · rfl
    · rfl
    · rfl
    · rfl
    · rfl
    · have e : ixc 26 = 30 + 68 := by decide
      rw [e, List.getElem?_append_right (by simp), List.getElem?_append_right (by simp; omega)]
      simp only [List.length_cons, List.length_nil, hpl]
      rfl
    · have e : ixc 27 = 30 + 69 := by decide
      rw [e, List.getElem?_append_right (by simp), List.getElem?_append_right (by simp; omega)]
      simp only [List.length_cons, List.length_nil, hpl]
      rfl
  have a50 : ∀ j, j < 22 → ad (50 + j) = ka j := fun j hj => by
    rw [← hAD]; unfold adC; rw [if_neg (by omega), if_pos (by omega)]; congr 1; omega
  have a72 : ∀ j, j < 23 → ad (72 + j) = kd j := fun j hj => by
    rw [← hAD]; unfold adC; rw [if_neg (by omega), if_neg (by omega), if_pos (by omega)]; congr 1; omega
  have a97 : ∀ j, j < 23 → ad (97 + j) = ke j := fun j hj => by
    rw [← hAD]; unfold adC; rw [if_neg (by omega), if_neg (by omega), if_neg (by omega), if_neg (by omega), if_neg (by omega), if_pos (by omega)]; congr 1; omega
  have cl : ∀ j, j < 22 → WL[ixc (50 + j)]? = some (ad (50 + j), lyE y ad S0 (50 + j)) := by
    intro j hj
    have e : ixc (50 + j) = 30 + j := by unfold ixc; rw [if_neg (by omega), if_pos (by omega)]; omega
    rw [e, inpl j _ (p2 j hj), a50 j hj, lyE_obj (tC ⟨by omega, by omega⟩).2]
    simp only [lyO, List.length_cons, List.length_nil]
    show some (ka j, Sum.inr (0, _)) = some (ka j, Sum.inr (0, [Value.int (S0.1 (50 + j) 0), Value.int (S0.1 (50 + j) 1), Value.int (S0.1 (50 + j) 2), Value.int (S0.1 (50 + j) 3), Value.int (S0.1 (50 + j) 4), Value.int (S0.1 (50 + j) 5), Value.int (S0.1 (50 + j) 6)]))
    simp only [s0_big (show 27 ≤ 50 + j by omega)]
  have dl : ∀ j, j < 23 → WL[ixc (72 + j)]? = some (ad (72 + j), lyE y ad S0 (72 + j)) := by
    intro j hj
    have e : ixc (72 + j) = 30 + (22 + 2 * j) := by unfold ixc; rw [if_neg (by omega), if_neg (by omega), if_pos (by omega)]; omega
    have hr : lyR (72 + j) 0 = 97 + j := by unfold lyR; rw [if_pos (by omega)]; omega
    rw [e, inpl _ _ (p3 j hj).1, a72 j hj, lyE_obj (tD ⟨by omega, by omega⟩).2]
    show some (kd j, Sum.inr (1, [Value.ref (ke j)])) = some (kd j, Sum.inr (1, [Value.ref (ad (lyR (72 + j) 0))]))
    rw [hr, a97 j hj]
  have el : ∀ j, j < 23 → WL[ixc (97 + j)]? = some (ad (97 + j), lyE y ad S0 (97 + j)) := by
    intro j hj
    have e : ixc (97 + j) = 30 + (22 + 2 * j + 1) := by unfold ixc; rw [if_neg (by omega), if_neg (by omega), if_neg (by omega), if_neg (by omega), if_neg (by omega), if_pos (by omega)]; omega
    rw [e, inpl _ _ (p3 j hj).2, a97 j hj, lyE_J (tA ⟨by omega, by omega⟩).2]
    rfl
  have rest : WL[ixc 95]? = some (ad 95, lyE y ad S0 95) ∧ WL[ixc 96]? = some (ad 96, lyE y ad S0 96) ∧ WL[ixc 120]? = some (ad 120, lyE y ad S0 120) ∧ WL[ixc 121]? = some (ad 121, lyE y ad S0 121) := by
    rw [← hWL, ← hAD]
    exact ⟨rfl, rfl, rfl, rfl⟩
  have all : ∀ k, k < 100 → k ≠ 24 → k ≠ 25 → WL[ixc (clsF k)]? = some (ad (clsF k), lyE y ad S0 (clsF k)) := by
    intro k hk h1 h2
    unfold clsF
    by_cases c1 : k < 28
    · rw [if_pos c1]; exact small k c1 h1 h2
    · rw [if_neg c1]
      by_cases c2 : k + 22 < 72
      · have := cl (k + 22 - 50) (by omega)
        rw [show 50 + (k + 22 - 50) = k + 22 by omega] at this; exact this
      · by_cases c3 : k + 22 < 95
        · have := dl (k + 22 - 72) (by omega)
          rw [show 72 + (k + 22 - 72) = k + 22 by omega] at this; exact this
        · by_cases c4 : k + 22 = 95
          · rw [c4]; exact rest.1
          · by_cases c5 : k + 22 = 96
            · rw [c5]; exact rest.2.1
            · by_cases c6 : k + 22 < 120
              · have := el (k + 22 - 97) (by omega)
                rw [show 97 + (k + 22 - 97) = k + 22 by omega] at this; exact this
              · by_cases c7 : k + 22 = 120
                · rw [c7]; exact rest.2.2.1
                · rw [show k + 22 = 121 by omega]; exact rest.2.2.2
  have w24 : WL[ixc 24]? = some (s_1, .inl (y.2.2.1, 22, .inr (.inr (.inr (.inr (fun j => if j < 22 then some (ka j) else none)))))) := by rw [← hWL]; rfl
  have w25 : WL[ixc 25]? = some (s_2, .inl (y.2.2.2, 23, .inr (.inr (.inr (.inr (fun j => if j < 23 then some (kd j) else none)))))) := by rw [← hWL]; rfl
  have ad24 : ad 24 = s_1 := by rw [← hAD]; rfl
  have ad25 : ad 25 = s_2 := by rw [← hAD]; rfl
  have adr : ∀ k, k < 100 → ∃ e, WL[ixc (clsF k)]? = some (ad (clsF k), e) := by
    intro k hk
    by_cases h1 : k = 24
    · subst h1; exact ⟨_, by rw [show clsF 24 = 24 from rfl, ad24]; exact w24⟩
    · by_cases h2 : k = 25
      · subst h2; exact ⟨_, by rw [show clsF 25 = 25 from rfl, ad25]; exact w25⟩
      · exact ⟨_, all k hk h1 h2⟩
  have ent : ∀ (k : Nat) (x : Nat × va_E), (wlc y ad S0)[k]? = some x → k < 100 ∧ x = (ad (clsF k), lyE y ad S0 (clsF k)) := by
    intro k x hx
    have hk : k < 100 := by
      have := (List.getElem?_eq_some_iff.mp hx).1
      simpa [wlc] using this
    unfold wlc at hx
    rw [List.getElem?_map, List.getElem?_range hk] at hx
    exact ⟨hk, (Option.some.inj hx).symm⟩
  refine ⟨fun k x hx => ?_, fun i j x z hx hz he => ?_, fun k x hx => ?_⟩
  · obtain ⟨hk, rfl⟩ := ent k x hx
    by_cases h1 : k = 24
    · subst h1
      have h := hP _ _ w24
      show va_at D vwCl (ad 24, lyE y ad S0 24) H
      rw [lyE_C (c := 24) (n := 22) (ts := []) rfl, ad24]
      show H[s_1]? = some (vp_cell _ _)
      rw [vp_cell_q, ← arrV_congr (f := fun j => va_rf (if j < 22 then some (ka j) else none)) (fun j hj => by rw [if_pos hj, a50 j hj])]
      exact h
    · by_cases h2 : k = 25
      · subst h2
        have h := hP _ _ w25
        show va_at D vwCl (ad 25, lyE y ad S0 25) H
        rw [lyE_D (c := 25) (n := 23) (ts := []) rfl, ad25]
        show H[s_2]? = some (vp_cell _ _)
        rw [vp_cell_q, ← arrV_congr (f := fun j => va_rf (if j < 23 then some (kd j) else none)) (fun j hj => by rw [if_pos hj, a72 j hj])]
        exact h
      · exact hP _ _ (all k hk h1 h2)
  · obtain ⟨hi, rfl⟩ := ent i x hx
    obtain ⟨hj, rfl⟩ := ent j z hz
    obtain ⟨e1, w1⟩ := adr i hi
    obtain ⟨e2, w2⟩ := adr j hj
    exact ixc_inj i hi j hj (hD.1 _ _ _ _ w1 w2 he)
  · obtain ⟨hk, rfl⟩ := ent k x hx
    obtain ⟨e1, w1⟩ := adr k hk
    have h9 := hD.2 _ _ w1
    exact h9
theorem wlc_cons {y : y4} {ad : Nat → Nat} {S : St} : wlc y ad S = (ad 0, lyE y ad S 0) :: (List.range 99).map (fun k => (ad (clsF (k + 1)), lyE y ad S (clsF (k + 1)))) := by
  unfold wlc
  rw [List.range_succ_eq_map (n := 99), List.map_cons, List.map_map]
  rfl
