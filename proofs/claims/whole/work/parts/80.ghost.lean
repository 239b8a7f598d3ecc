/-! READING: what a page is read as, character by character; the class's reader does so -/
theorem nI_sub {a b : Nat} (h : b ≤ a) : nI a - nI b = nI (a - b) := by
  have e : nI (a - b) + nI b = nI a := by rw [nI_add]; congr 1; omega
  rw [← e, Int32.add_sub_cancel]
abbrev Gs : Type := (Nat × List Nat × Nat) × (List Nat × List Nat) × (Nat × Nat)
def gpush (kd s : Nat) (l : List Nat × List Nat) : List Nat × List Nat := if kd = 3 then (s :: l.1, l.2) else (l.1, s :: l.2)
def gsign (c : Nat) : Nat := if c = 61 then 0 else if c = 35 then 1 else if c = 60 then 2 else 3
/-- waits for 0 a term, 1 a bracket, 2 what follows a term, 3 figures -/
def gstep (g : Gs) (c : Nat) : Option Gs :=
  match g with
  | ((w, br, kd), l, ng, nm) =>
    if w = 0 then
      if 97 ≤ c ∧ c ≤ 101 then some ((2, br, kd), gpush kd (c - 97) l, ng, nm)
      else if c = 102 then some ((1, 0 :: br, kd), l, ng, nm)
      else if c = 103 then some ((1, 1 :: br, kd), l, ng, nm) else none
    else if w = 1 then if c = 40 then some ((0, br, kd), l, ng, nm) else none
    else if w = 2 then
      match br with
      | [] => if kd = 3 then (if gsign c = 3 then none else some ((0, [], gsign c), l, ng, nm))
              else if kd = 2 ∧ (c = 43 ∨ c = 45) then some ((3, [], kd), l, (if c = 45 then 1 else 0), nm) else none
      | b :: r => if b = 1 then (if c = 44 then some ((0, 2 :: r, kd), l, ng, nm) else none)
                  else if c = 41 then some ((2, r, kd), gpush kd (if b = 0 then 5 else 6) l, ng, nm) else none
    else if 48 ≤ c ∧ c ≤ 57 ∧ (0 < nm ∨ 48 < c) ∧ 10 * nm + (c - 48) < 1000000 then some ((3, br, kd), l, ng, 10 * nm + (c - 48)) else none
def g0 : Gs := ((0, [], 3), ([], []), 0, 0)
def Gok (g : Gs) (i : Nat) : Prop := g.1.2.1.length ≤ i ∧ g.2.1.2.length + g.2.1.1.length ≤ i ∧ g.2.2.2 < 1000000 ∧ g.1.2.2 ≤ 3 ∧ g.2.2.1 ≤ 1 ∧ g.1.1 ≤ 3 ∧ (g.1.1 = 3 → g.1.2.1 = [] ∧ g.1.2.2 = 2) ∧ (g.1.1 ≠ 3 → g.2.2.2 = 0) ∧ (∀ x ∈ g.1.2.1, x ≤ 2) ∧ (g.1.2.2 = 3 → g.2.1.2 = []) ∧ (∀ x ∈ g.2.1.1, x ≤ 6) ∧ ∀ x ∈ g.2.1.2, x ≤ 6
theorem Gok0 : Gok g0 0 := by
  unfold Gok g0
  simp
theorem gpush_len {kd s : Nat} {l : List Nat × List Nat} : (gpush kd s l).2.length + (gpush kd s l).1.length = l.2.length + l.1.length + 1 := by
  unfold gpush; split <;> simp <;> omega
theorem gpush_app {kd s : Nat} {l : List Nat × List Nat} (h : kd = 3 → l.2 = []) : (gpush kd s l).2 ++ (gpush kd s l).1 = s :: (l.2 ++ l.1) := by
  unfold gpush
  by_cases e : kd = 3
  · rw [if_pos e, h e]; simp
  · rw [if_neg e]; simp
theorem gsign_le (c : Nat) : gsign c ≤ 3 := by unfold gsign; split; omega; split; omega; split <;> omega
theorem Gok.step {g g2 : Gs} {i c : Nat} (h : Gok g i) (e : gstep g c = some g2) : Gok g2 (i + 1) := by
  obtain ⟨⟨w, br, kd⟩, ⟨ls, rs⟩, ng, nm⟩ := g
  obtain ⟨h1, h2, h3, h4, h5, h6, h7, h8, h9, h10, h11, h12⟩ := h
  dsimp only at h1 h2 h3 h4 h5 h6 h7 h8 h9 h10 h11 h12
  have push : ∀ (w2 s : Nat) (br2 : List Nat), s ≤ 6 → w2 = 2 → w ≠ 3 → br2.length ≤ i + 1 → (∀ x ∈ br2, x ≤ 2) → Gok ((w2, br2, kd), gpush kd s (ls, rs), ng, nm) (i + 1) := by
    intro w2 s br2 hs hw hw3 hl hb
    refine ⟨hl, ?_, h3, h4, h5, by dsimp only; omega, fun hc => by dsimp only at hc; omega, fun _ => h8 hw3, hb, ?_, ?_, ?_⟩
    · have := gpush_len (kd := kd) (s := s) (l := (ls, rs)); dsimp only at this ⊢; omega
    · intro hc; dsimp only at hc; show (gpush kd s (ls, rs)).2 = []; unfold gpush; rw [if_pos hc]; exact h10 hc
    · show ∀ x ∈ (gpush kd s (ls, rs)).1, x ≤ 6
      unfold gpush; split
      · intro x hx; simp only [List.mem_cons] at hx; rcases hx with rfl | hx; exact hs; exact h11 x hx
      · exact h11
    · show ∀ x ∈ (gpush kd s (ls, rs)).2, x ≤ 6
      unfold gpush; split
      · exact h12
      · intro x hx; simp only [List.mem_cons] at hx; rcases hx with rfl | hx; exact hs; exact h12 x hx
  unfold gstep at e
  dsimp only at e
  by_cases c0 : w = 0
  · rw [if_pos c0] at e
    by_cases c1 : 97 ≤ c ∧ c ≤ 101
    · rw [if_pos c1] at e; cases e
      exact push 2 _ br (by omega) rfl (by omega) (by omega) h9
    · rw [if_neg c1] at e
      have lett : ∀ b, b ≤ 2 → Gok ((1, b :: br, kd), (ls, rs), ng, nm) (i + 1) := fun b hb => by
        refine ⟨by simp; omega, by dsimp only; omega, h3, h4, h5, by dsimp only; omega, fun hc => by dsimp only at hc; omega, fun _ => h8 (by omega), ?_, h10, h11, h12⟩
        intro x hx; simp only [List.mem_cons] at hx; rcases hx with rfl | hx; exact hb; exact h9 x hx
      by_cases c2 : c = 102
      · rw [if_pos c2] at e; cases e; exact lett 0 (by omega)
      · rw [if_neg c2] at e
        by_cases c3 : c = 103
        · rw [if_pos c3] at e; cases e; exact lett 1 (by omega)
        · rw [if_neg c3] at e; cases e
  · rw [if_neg c0] at e
    by_cases c1 : w = 1
    · rw [if_pos c1] at e
      by_cases c2 : c = 40
      · rw [if_pos c2] at e; cases e
        exact ⟨by dsimp only; omega, by dsimp only; omega, h3, h4, h5, by dsimp only; omega, fun hc => by dsimp only at hc; omega, fun _ => h8 (by omega), h9, h10, h11, h12⟩
      · rw [if_neg c2] at e; cases e
    · rw [if_neg c1] at e
      by_cases c2 : w = 2
      · rw [if_pos c2] at e
        cases br with
        | nil =>
          dsimp only at e
          by_cases k3 : kd = 3
          · rw [if_pos k3] at e
            by_cases s3 : gsign c = 3
            · rw [if_pos s3] at e; cases e
            · rw [if_neg s3] at e; cases e
              exact ⟨by simp, by dsimp only; omega, h3, gsign_le c, h5, by dsimp only; omega, fun hc => by dsimp only at hc; omega, fun _ => h8 (by omega), by simp, fun hc => absurd hc s3, h11, h12⟩
          · rw [if_neg k3] at e
            by_cases k2 : kd = 2 ∧ (c = 43 ∨ c = 45)
            · rw [if_pos k2] at e; cases e
              exact ⟨by simp, by dsimp only; omega, h3, h4, by dsimp only; split <;> omega, by dsimp only; omega, fun _ => ⟨rfl, k2.1⟩, fun hc => absurd rfl hc, by simp, h10, h11, h12⟩
            · rw [if_neg k2] at e; cases e
        | cons b r =>
          dsimp only at e
          simp only [List.length_cons] at h1
          by_cases b1 : b = 1
          · rw [if_pos b1] at e
            by_cases c3 : c = 44
            · rw [if_pos c3] at e; cases e
              refine ⟨by simp; omega, by dsimp only; omega, h3, h4, h5, by dsimp only; omega, fun hc => by dsimp only at hc; omega, fun _ => h8 (by omega), ?_, h10, h11, h12⟩
              intro x hx; simp only [List.mem_cons] at hx; rcases hx with rfl | hx; omega; exact h9 x (List.mem_cons_of_mem _ hx)
            · rw [if_neg c3] at e; cases e
          · rw [if_neg b1] at e
            by_cases c3 : c = 41
            · rw [if_pos c3] at e; cases e
              exact push 2 _ r (by split <;> omega) rfl (by omega) (by omega) (fun x hx => h9 x (List.mem_cons_of_mem _ hx))
            · rw [if_neg c3] at e; cases e
      · rw [if_neg c2] at e
        have w3 : w = 3 := by omega
        by_cases c3 : 48 ≤ c ∧ c ≤ 57 ∧ (0 < nm ∨ 48 < c) ∧ 10 * nm + (c - 48) < 1000000
        · rw [if_pos c3] at e; cases e
          exact ⟨by dsimp only; omega, by dsimp only; omega, by dsimp only; omega, h4, h5, by dsimp only; omega, fun _ => h7 w3, fun hc => absurd rfl hc, h9, h10, h11, h12⟩
        · rw [if_neg c3] at e; cases e
/-- a list as it lies in a row, its head at the top -/
def Stk (f : Nat → Int32) : List Nat → Prop
  | [] => True
  | x :: r => f r.length = nI x ∧ Stk f r
theorem Stk.congr {f g : Nat → Int32} : ∀ {l : List Nat}, Stk f l → (∀ i, i < l.length → g i = f i) → Stk g l
  | [], _, _ => trivial
  | x :: r, h, e => ⟨by rw [e _ (by simp)]; exact h.1, Stk.congr h.2 (fun i hi => e i (by simp; omega))⟩
theorem Stk.push {S : St} {c : Nat} {l : List Nat} {x : Nat} (h : Stk (S.1 c) l) : Stk ((sI S c l.length (nI x)).1 c) (x :: l) := by
  refine ⟨by simp [sI], h.congr (fun i hi => ?_)⟩
  have : ¬ i = l.length := by omega
  simp [sI, this]
/-- how the class's reader holds what was read -/
def CG (S : St) (g : Gs) : Prop := S.1 2 0 = nI (if g.1.1 = 3 then (if g.2.2.2 = 0 then 3 else 4) else g.1.1) ∧ S.1 2 2 = nI g.1.2.1.length ∧ Stk (S.1 3) g.1.2.1 ∧ S.1 2 4 = nI (g.2.1.2 ++ g.2.1.1).length ∧ Stk (S.1 4) (g.2.1.2 ++ g.2.1.1) ∧ S.1 2 5 = (if g.1.2.2 = 3 then -1 else nI g.1.2.2) ∧ S.1 2 6 = nI g.2.2.1 ∧ S.1 2 7 = nI g.2.2.2
theorem write_c {n : Nat} {S : St} {l : List Nat} {x : Nat} (hl : l.length < 40) (h : S.1 2 4 = nI l.length) (hs : Stk (S.1 4) l) : ∃ T, f_X5_write n S (nI x) = some (1, T) ∧ T.1 2 4 = nI (l.length + 1) ∧ Stk (T.1 4) (x :: l) ∧ (∀ j, j ≠ 4 → T.1 2 j = S.1 2 j) ∧ T.1 3 = S.1 3 := by
  unfold f_X5_write
  rw [h, if_neg (nI_pos (by omega)), if_pos (by rw [show (40 : Int32) = nI 40 from rfl, nI_ltI (by omega) (by omega)]; exact hl), if_neg (nI_bad hl (by omega)), nI_c (by omega)]
  simp only [bd]
  have e : (sI S 4 l.length (nI x)).1 2 4 = nI l.length := by rw [← h]; simp [sI]
  rw [e, nI_1]
  refine ⟨_, rfl, by simp [sI], ?_, fun j hj => by simp [sI, hj], by funext j; simp [sI]⟩
  exact (Stk.push (x := x) hs).congr (fun i _ => by simp [sI])
theorem CG.head {S T : St} {w br kd ls rs ng nm w2 : _} (h : CG S ((w, br, kd), (ls, rs), ng, nm)) (e0 : T.1 2 0 = nI w2) (e : ∀ j, j ≠ 0 → T.1 2 j = S.1 2 j) (e3 : T.1 3 = S.1 3) (e4 : T.1 4 = S.1 4) (hw : w2 ≠ 3) : CG T ((w2, br, kd), (ls, rs), ng, nm) := by
  obtain ⟨h0, h1, h2, h3, h4, h5, h6, h7⟩ := h
  refine ⟨by dsimp only; rw [if_neg hw]; exact e0, by rw [e 2 (by decide)]; exact h1, by rw [e3]; exact h2, by rw [e 4 (by decide)]; exact h3, by rw [e4]; exact h4, by rw [e 5 (by decide)]; exact h5, by rw [e 6 (by decide)]; exact h6, by rw [e 7 (by decide)]; exact h7⟩
theorem begins_c {n i c : Nat} {S : St} {br : List Nat} {kd ng nm : Nat} {l : List Nat × List Nat} (hi : i < 40) (hc : c < 127) (h : CG S ((0, br, kd), l, ng, nm)) (hg : Gok ((0, br, kd), l, ng, nm) i) : ∃ r T, f_X5_beginsTerm n S (nI c) = some (r, T) ∧ ((r = 0 ∧ gstep ((0, br, kd), l, ng, nm) c = none) ∨ (r = 1 ∧ ∃ g2, gstep ((0, br, kd), l, ng, nm) c = some g2 ∧ CG T g2)) := by
  obtain ⟨h0, h1, h2, h3, h4, h5, h6, h7⟩ := h
  obtain ⟨k1, k2, -, -, -, -, -, k8, -, k10, -⟩ := hg
  dsimp only at h0 h1 h2 h3 h4 h5 h6 h7 k1 k2 k8 k10
  have n0 := k8 (by omega)
  have hlen : (l.2 ++ l.1).length ≤ i := by rw [List.length_append]; exact k2
  unfold f_X5_beginsTerm gstep
  dsimp only
  rw [if_pos rfl]
  by_cases c1 : 97 ≤ c ∧ c ≤ 101
  · rw [if_neg (by rw [show (97 : Int32) = nI 97 from rfl, nI_ltI (by omega) (by omega)]; omega), if_neg (by rw [show (101 : Int32) = nI 101 from rfl, nI_ltI (by omega) (by omega)]; omega), if_pos c1]
    simp only [bd]
    have ec : nI c - (97 : Int32) = nI (c - 97) := by
      rw [show (97 : Int32) = nI 97 from rfl, nI_sub (by omega)]
    rw [ec]
    obtain ⟨T, a1, a2, a3, a4, a5⟩ := write_c (n := n) (S := sI S 2 0 2) (l := l.2 ++ l.1) (x := c - 97) (by omega) (by rw [← h3]; simp [sI]) (h4.congr (fun i _ => by simp [sI]))
    rw [bo_some a1, if_neg (by decide)]
    refine ⟨1, T, rfl, Or.inr ⟨rfl, _, rfl, ?_⟩⟩
    have ga := gpush_app (kd := kd) (s := c - 97) (l := l) k10
    refine ⟨?_, ?_, ?_, ?_, ?_, ?_, ?_, ?_⟩
    · rw [a4 0 (by decide)]; simp [sI]; rfl
    · rw [a4 2 (by decide)]; rw [← h1]; simp [sI]
    · rw [a5]; exact h2.congr (fun i _ => by simp [sI])
    · rw [a2]; dsimp only; rw [ga]; rfl
    · dsimp only; rw [ga]; exact a3
    · rw [a4 5 (by decide)]; rw [← h5]; simp [sI]
    · rw [a4 6 (by decide)]; rw [← h6]; simp [sI]
    · rw [a4 7 (by decide)]; rw [← h7]; simp [sI]
  · rw [if_neg c1]
    have e26 : (if nI c < (97 : Int32) then f_X5_beginsTerm_26 n S (nI c) else if (101 : Int32) < nI c then f_X5_beginsTerm_26 n S (nI c) else bd (sI S 2 0 (2 : Int32)) fun (S_12 : St) => bo (f_X5_write n S_12 ((nI c - (97 : Int32)))) fun (r_13 : Int32) (S_14 : St) => if ¬ (r_13 = 0 ∨ r_13 = 1) then none else some (r_13, S_14)) = f_X5_beginsTerm_26 n S (nI c) := by
      by_cases d : c < 97
      · rw [if_pos (by rw [show (97 : Int32) = nI 97 from rfl, nI_ltI (by omega) (by omega)]; exact d)]
      · rw [if_neg (by rw [show (97 : Int32) = nI 97 from rfl, nI_ltI (by omega) (by omega)]; exact d), if_pos (by rw [show (101 : Int32) = nI 101 from rfl, nI_ltI (by omega) (by omega)]; omega)]
    rw [e26]
    have wr : ∀ b : Nat, b ≤ 2 → ∃ T, f_X5_beginsTerm_75 n S (S.1 2 2) (nI b) = some (1, T) ∧ CG T ((1, b :: br, kd), l, ng, nm) := by
      intro b hb
      unfold f_X5_beginsTerm_75
      rw [h1, if_neg (nI_bad (by omega) (by omega)), nI_c (by omega)]
      simp only [bd]
      have e : (sI S 3 br.length (nI b)).1 2 2 = nI br.length := by rw [← h1]; simp [sI]
      rw [e, nI_1]
      refine ⟨_, rfl, ?_, ?_, ?_, ?_, ?_, ?_, ?_, ?_⟩
      · simp [sI]; rfl
      · simp [sI]
      · exact (Stk.push (x := b) h2).congr (fun i _ => by simp [sI])
      · dsimp only; rw [← h3]; simp [sI]
      · exact h4.congr (fun i _ => by simp [sI])
      · dsimp only; rw [← h5]; simp [sI]
      · dsimp only; rw [← h6]; simp [sI]
      · dsimp only; rw [← h7]; simp [sI]
    unfold f_X5_beginsTerm_26 f_X5_beginsTerm_38
    have g22 : ¬ S.1 2 2 < 0 := by rw [h1]; exact nI_pos (by omega)
    have g40 : S.1 2 2 < (40 : Int32) := by rw [h1, show (40 : Int32) = nI 40 from rfl, nI_ltI (by omega) (by omega)]; omega
    simp only [if_neg g22, if_pos g40]
    have q102 : (nI c = (102 : Int32)) ↔ c = 102 := by rw [show (102 : Int32) = nI 102 from rfl, nI_eq (by omega) (by omega)]
    have q103 : (nI c = (103 : Int32)) ↔ c = 103 := by rw [show (103 : Int32) = nI 103 from rfl, nI_eq (by omega) (by omega)]
    by_cases c2 : c = 102
    · rw [if_pos (q102.mpr c2), if_pos (q102.mpr c2), if_pos c2]
      obtain ⟨T, a1, a2⟩ := wr 0 (by omega)
      exact ⟨1, T, a1, Or.inr ⟨rfl, _, rfl, a2⟩⟩
    · rw [if_neg (fun hc => c2 (q102.mp hc)), if_neg c2]
      by_cases c3 : c = 103
      · rw [if_pos (q103.mpr c3), if_neg (fun hc => c2 (q102.mp hc)), if_pos c3]
        obtain ⟨T, a1, a2⟩ := wr 1 (by omega)
        exact ⟨1, T, a1, Or.inr ⟨rfl, _, rfl, a2⟩⟩
      · rw [if_neg (fun hc => c3 (q103.mp hc)), if_neg c3]
        exact ⟨0, S, rfl, Or.inl ⟨rfl, rfl⟩⟩
