/-! bound over tables with small edges; the ways of a clause taken -/
def Wd (W : Int) (E : Ed) : Prop := ∀ i j w, E i j w → -W ≤ w ∧ w ≤ W
/-- the table of the cell q, with its edges -/
def MOK (W : Int) (E : Ed) (S : St) (q : Nat) : Prop := Mat FC 10 E (cM S q) ∧ Fin10 (cM S q) ∧ Wd W E
theorem Wd.ad {W : Int} {E : Ed} (h : Wd W E) {s t : Nat} {w : Int} (hw : -W ≤ w ∧ w ≤ W) : Wd W (adE E s t w) := by
  intro i j x hx
  rcases hx with hx | ⟨-, -, rfl⟩
  · exact h i j x hx
  · exact hw
theorem MOK.lim {W : Int} {E : Ed} {S : St} {q : Nat} (h : MOK W E S q) (h0 : 0 ≤ W) : Lim (10 * W) (cM S q) := by
  intro i j hi hj hf
  have := h.1.small (by decide) h.2.2 h0 hi hj hf
  exact this
theorem bound_w {n q : Nat} {S : St} (hn : 11 ≤ n) {E : Ed} {W : Int} (h0 : 0 ≤ W) (hW : 30 * W < FC) (h : MOK W E S q) {s t : Nat} (hs : s < 10) (ht : t < 10) {w : Int64} (hw : -W ≤ w.toInt ∧ w.toInt ≤ W) :
    ∃ r S', f_X1_bound n q S (nI s) (nI t) w = some (r, S') ∧ Keeps (wr_X1_bound q) S S' ∧ ((r = 0 ∧ S' = S ∧ cM S q t s < FC ∧ cM S q t s + w.toInt < 0) ∨ (r = 1 ∧ MOK W (adE E s t w.toInt) S' q ∧ ∀ a b, a < 10 → b < 10 → cM S' q a b = adM FC (cM S q) s t w.toInt a b)) := by
  obtain ⟨r, S', h1, h2⟩ := bound_c hn (B := 10 * W) (by omega) (by omega) h.1 h.2.1 (h.lim h0) hs ht (w := w) (by omega)
  refine ⟨r, S', h1, fr_X1_bound n q S _ _ _ r S' h1, ?_⟩
  rcases h2 with h2 | ⟨a, b, c, d⟩
  · exact Or.inl h2
  · exact Or.inr ⟨a, ⟨b, c, h.2.2.ad hw⟩, d⟩
theorem adM_le (F : Int) (M : Mx) (s t : Nat) (w : Int) (a b : Nat) : adM F M s t w a b ≤ M a b := by
  unfold adM; split
  · split <;> omega
  · omega
/-- a bound that does not go: nothing meets it -/
theorem bound_no {W : Int} {E : Ed} {S : St} {q s t : Nat} {w : Int} (h : MOK W E S q) (hs : s < 10) (ht : t < 10) (h1 : cM S q t s < FC) (h2 : cM S q t s + w < 0) {v : Nat → Int} (hv : Sat E v) : ¬ v s - v t ≤ w := by
  have := h.1.sat hv ht hs h1
  omega
theorem sat_ad {E : Ed} {s t : Nat} {w : Int} {v : Nat → Int} : Sat (adE E s t w) v ↔ Sat E v ∧ v s - v t ≤ w := by
  constructor
  · intro h
    exact ⟨fun i j x hx => h i j x (Or.inl hx), h s t w (Or.inr ⟨rfl, rfl, rfl⟩)⟩
  · rintro ⟨h1, h2⟩ i j x (hx | ⟨rfl, rfl, rfl⟩)
    · exact h1 i j x hx
    · exact h2
/-- the table of a cell is that of its row -/
theorem cM_keep {S T : St} {q : Nat} (h : T.2 (q + 25) = S.2 (q + 25)) : cM T q = cM S q := by unfold cM; rw [h]
theorem MOK.keep {W : Int} {E : Ed} {S T : St} {q : Nat} (hk : MOK W E S q) (h : T.2 (q + 25) = S.2 (q + 25)) : MOK W E T q := by unfold MOK; rw [cM_keep h]; exact hk
theorem clAt.keep {S T : St} {q : Nat} {c : Cl} (h : clAt S q c) (hk : T.1 q = S.1 q) : clAt T q c := by unfold clAt; rw [hk]; exact h
def clBit (M : Mx) (c : Cl) (o : Nat) : Prop := match o with
  | 0 => 0 < M c.1.2 c.1.1
  | 1 => 0 < M c.1.1 c.1.2
  | 2 => 0 < M c.2.1.2 c.2.1.1
  | 3 => 0 < M c.2.1.1 c.2.1.2
  | _ => ∃ p, c.2.2 = some p ∧ 0 ≤ M p.1 p.2 ∧ 0 ≤ M p.2 p.1
def clAdd (E : Ed) (c : Cl) (o : Nat) : Ed := match o with
  | 0 => adE E c.1.1 c.1.2 (-1)
  | 1 => adE E c.1.2 c.1.1 (-1)
  | 2 => adE E c.2.1.1 c.2.1.2 (-1)
  | 3 => adE E c.2.1.2 c.2.1.1 (-1)
  | _ => match c.2.2 with
    | none => E
    | some p => adE (adE E p.1 p.2 0) p.2 p.1 0
theorem sat_clAdd {E : Ed} {c : Cl} {o : Nat} {v : Nat → Int} (h : c.2.2 = none → o < 4) : Sat (clAdd E c o) v ↔ Sat E v ∧ clWay c o v := by
  match o with
  | 0 => exact sat_ad
  | 1 => exact sat_ad
  | 2 => exact sat_ad
  | 3 => exact sat_ad
  | k + 4 =>
    unfold clAdd clWay
    cases hp : c.2.2 with
    | none => have := h hp; omega
    | some p =>
      simp only [sat_ad]
      constructor
      · rintro ⟨⟨h1, h2⟩, h3⟩; exact ⟨h1, p, rfl, h2, h3⟩
      · rintro ⟨h1, p', e, h2, h3⟩; cases e; exact ⟨⟨h1, h2⟩, h3⟩
theorem take_c {n q q1 : Nat} {S : St} (hn : 11 ≤ n) {c : Cl} (hc : clAt S q c) (hq : q < 72) (hq1 : 72 ≤ q1) {E : Ed} {W : Int} (h1W : 1 ≤ W) (hW : 30 * W < FC) (h : MOK W E S q1) {o : Nat} (ho : o < 5) (hb : clBit (cM S q1) c o) :
    ∃ S', f_X0_take n q S q1 (nI o) = some (1, S') ∧ Keeps (wr_X1_bound q1) S S' ∧ MOK W (clAdd E c o) S' q1 ∧ ∀ i j, i < 10 → j < 10 → cM S' q1 i j ≤ cM S q1 i j := by
  have F0 : (0 : Int) < FC := by decide
  have m1 : (-1 : Int64).toInt = -1 := by decide
  obtain ⟨⟨w1, w2, w3, w4, w5⟩, h0, h1, h2, h3, h4, h5⟩ := id hc
  -- one bound by -1
  have one : ∀ s t : Nat, s < 10 → t < 10 → 0 < cM S q1 t s → ∃ S', f_X1_bound n q1 S (nI s) (nI t) (-1 : Int64) = some (1, S') ∧ Keeps (wr_X1_bound q1) S S' ∧ MOK W (adE E s t (-1)) S' q1 ∧ ∀ i j, i < 10 → j < 10 → cM S' q1 i j ≤ cM S q1 i j := by
    intro s t hs ht hp
    obtain ⟨r, S', a1, a2, a3⟩ := bound_w (w := (-1 : Int64)) hn (by omega) hW h hs ht (by rw [m1]; omega)
    rcases a3 with ⟨-, -, b1, b2⟩ | ⟨rfl, b, b3⟩
    · rw [m1] at b2; omega
    · rw [m1] at b; exact ⟨S', a1, a2, b, fun i j hi hj => by rw [b3 i j hi hj]; exact adM_le _ _ _ _ _ _ _⟩
  have fin1 : ∀ (s t : Nat), s < 10 → t < 10 → 0 < cM S q1 t s → ∃ S', (bo (f_X1_bound n q1 S (nI s) (nI t) (-1 : Int64)) fun (r_2 : Int32) (S_3 : St) => if ¬ (r_2 = 0 ∨ r_2 = 1) then none else some (r_2, S_3)) = some (1, S') ∧ Keeps (wr_X1_bound q1) S S' ∧ MOK W (adE E s t (-1)) S' q1 ∧ ∀ i j, i < 10 → j < 10 → cM S' q1 i j ≤ cM S q1 i j := by
    intro s t hs ht hp
    obtain ⟨S', a1, a2, a3⟩ := one s t hs ht hp
    refine ⟨S', ?_, a2, a3⟩
    rw [bo_some a1, if_neg (by decide)]
  unfold f_X0_take
  match o, ho, hb with
  | 0, _, hb =>
    rw [if_pos (by decide), h0, h1]
    exact fin1 _ _ w1 w2 hb
  | 1, _, hb =>
    rw [if_neg (by decide), if_pos (by decide), h0, h1]
    exact fin1 _ _ w2 w1 hb
  | 2, _, hb =>
    rw [if_neg (by decide), if_neg (by decide), if_pos (by decide), h2, h3]
    exact fin1 _ _ w3 w4 hb
  | 3, _, hb =>
    rw [if_neg (by decide), if_neg (by decide), if_neg (by decide), if_pos (by decide), h2, h3]
    exact fin1 _ _ w4 w3 hb
  | 4, _, hb =>
    rw [if_neg (by decide), if_neg (by decide), if_neg (by decide), if_neg (by decide)]
    obtain ⟨p, hp, b1, b2⟩ := hb
    obtain ⟨g4, g5, g6⟩ := h5 p hp
    obtain ⟨p1, p2⟩ := w5 p hp
    rw [g5, g6]
    obtain ⟨r, S1, a1, a2, a3⟩ := bound_w (w := (0 : Int64)) hn (by omega) hW h p1 p2 (by rw [z64]; omega)
    rcases a3 with ⟨-, -, c1, c2⟩ | ⟨rfl, c1, c3⟩
    · rw [z64] at c2; omega
    rw [z64] at c1 c3
    rw [bo_some a1, if_neg (by decide)]
    have ks : S1.1 q = S.1 q := (a2 q (by unfold wr_X1_bound; omega)).1
    rw [ks, g5, g6]
    obtain ⟨r, S2, d1, d2, d3⟩ := bound_w (w := (0 : Int64)) hn (by omega) hW c1 p2 p1 (by rw [z64]; omega)
    rcases d3 with ⟨-, -, e1, e2⟩ | ⟨rfl, e1, e3⟩
    · exfalso
      rw [z64, c3 _ _ p1 p2] at e2
      have hd1 := h.1.1 _ p1
      have hd2 := h.1.1 _ p2
      unfold adM at e2
      rw [hd1, hd2, if_pos ⟨F0, F0⟩] at e2
      split at e2 <;> omega
    · rw [z64] at e1
      rw [bo_some d1, if_neg (by decide)]
      refine ⟨S2, rfl, a2.trans d2, ?_, fun i j hi hj => ?_⟩
      · unfold clAdd
        rw [hp]
        exact e1
      · have u1 := adM_le FC (cM S q1) p.1 p.2 0 i j
        rw [← c3 i j hi hj] at u1
        have u2 := adM_le FC (cM S1 q1) p.2 p.1 (0 : Int64).toInt i j
        rw [← e3 i j hi hj] at u2
        omega
/-- a way that is taken meets its clause -/
theorem taken_met {E : Ed} {M : Mx} {c : Cl} {o : Nat} (ho : o < 5) (hM : Mat FC 10 (clAdd E c o) M) (hp : o = 4 → c.2.2 ≠ none) (hw : clWf c) : clMet M c := by
  have F0 : (0 : Int) < FC := by decide
  match o, ho, hM, hp with
  | 0, _, hM, _ => have := hM.2.2.1 _ _ (-1) (Or.inr ⟨rfl, rfl, rfl⟩); left; omega
  | 1, _, hM, _ => have := hM.2.2.1 _ _ (-1) (Or.inr ⟨rfl, rfl, rfl⟩); right; left; omega
  | 2, _, hM, _ => have := hM.2.2.1 _ _ (-1) (Or.inr ⟨rfl, rfl, rfl⟩); right; right; left; omega
  | 3, _, hM, _ => have := hM.2.2.1 _ _ (-1) (Or.inr ⟨rfl, rfl, rfl⟩); right; right; right; left; omega
  | 4, _, hM, hp =>
    right; right; right; right
    unfold clAdd at hM
    cases hq : c.2.2 with
    | none => exact absurd hq (hp rfl)
    | some p =>
      rw [hq] at hM
      obtain ⟨p1, p2⟩ := hw.2.2.2.2 p hq
      obtain ⟨-, -, x1, x2⟩ := hM.2.2.1 p.2 p.1 0 (Or.inr ⟨rfl, rfl, rfl⟩)
      obtain ⟨-, -, y1, y2⟩ := hM.2.2.1 p.1 p.2 0 (Or.inl (Or.inr ⟨rfl, rfl, rfl⟩))
      have := nn hM p1 p2 y1 x1
      exact ⟨p, rfl, by omega, by omega⟩
