/-! READING: the class's reader, the rest -/
theorem brack_c {n i c : Nat} {S : St} {b : Nat} {r : List Nat} {kd ng nm : Nat} {l : List Nat × List Nat} (hi : i < 40) (hc : c < 127) (h : CG S ((2, b :: r, kd), l, ng, nm)) (hg : Gok ((2, b :: r, kd), l, ng, nm) i) : ∃ v T, f_X5_goesOnInBrackets n S (nI c) = some (v, T) ∧ ((v = 0 ∧ gstep ((2, b :: r, kd), l, ng, nm) c = none) ∨ (v = 1 ∧ ∃ g2, gstep ((2, b :: r, kd), l, ng, nm) c = some g2 ∧ CG T g2)) := by
  obtain ⟨h0, h1, h2, h3, h4, h5, h6, h7⟩ := h
  obtain ⟨k1, k2, -, -, -, -, -, k8, k9, k10, -⟩ := hg
  dsimp only at h0 h1 h2 h3 h4 h5 h6 h7 k1 k2 k8 k9 k10
  simp only [List.length_cons] at h1 k1
  have hlen : (l.2 ++ l.1).length ≤ i := by rw [List.length_append]; exact k2
  have hb := k9 b (List.mem_cons_self)
  have em : nI (r.length + 1) - (1 : Int32) = nI r.length := by rw [show (1 : Int32) = nI 1 from rfl, nI_sub (by omega)]; rfl
  have e3 : S.1 3 r.length = nI b := h2.1
  have q44 : (nI c = (44 : Int32)) ↔ c = 44 := by rw [show (44 : Int32) = nI 44 from rfl, nI_eq (by omega) (by omega)]
  have q41 : (nI c = (41 : Int32)) ↔ c = 41 := by rw [show (41 : Int32) = nI 41 from rfl, nI_eq (by omega) (by omega)]
  unfold f_X5_goesOnInBrackets gstep
  dsimp only
  rw [if_neg (show ¬ ((2 : Nat) = 0) by decide), if_neg (show ¬ ((2 : Nat) = 1) by decide), if_pos rfl]
  rw [h1, if_neg (by rw [show (1 : Int32) = nI 1 from rfl, nI_ltI (by omega) (by omega)]; omega), if_pos (by rw [show (40 : Int32) = nI 40 from rfl, nI_leI (by omega) (by omega)]; omega), em, if_neg (nI_bad (by omega) (by omega)), nI_c (by omega)]
  simp only [bd]
  rw [e3]
  by_cases b1 : b = 1
  · rw [if_pos (by rw [b1]; rfl), if_pos b1, if_neg (fun hc => hc.elim (nI_pos (by omega)) (by omega))]
    by_cases c2 : c = 44
    · rw [if_pos (q44.mpr c2), if_pos c2]
      refine ⟨1, _, rfl, Or.inr ⟨rfl, _, rfl, ?_, ?_, ?_, ?_, ?_, ?_, ?_, ?_⟩⟩
      · simp [sI]; rfl
      · simp only [List.length_cons]; rw [← h1]; simp [sI]
      · refine ⟨by simp [sI]; rfl, h2.2.congr (fun i hi => ?_)⟩
        have : ¬ i = r.length := by omega
        simp [sI, this]
      · dsimp only; rw [← h3]; simp [sI]
      · exact h4.congr (fun i _ => by simp [sI])
      · dsimp only; rw [← h5]; simp [sI]
      · dsimp only; rw [← h6]; simp [sI]
      · dsimp only; rw [← h7]; simp [sI]
    · rw [if_neg (fun hc => c2 (q44.mp hc)), if_neg c2]
      exact ⟨0, _, rfl, Or.inl ⟨rfl, rfl⟩⟩
  · rw [if_neg (by rw [show (1 : Int32) = nI 1 from rfl, nI_eq (by omega) (by omega)]; exact b1), if_neg b1]
    by_cases c2 : c = 41
    · rw [if_pos (q41.mpr c2), if_pos c2]
      unfold f_X5_goesOnInBrackets_92
      have wr : ∀ y : Nat, ∃ v T, (bo (f_X5_write n (sI S 2 2 (nI r.length)) (nI y)) fun (r_1 : Int32) (S_2 : St) => if r_1 = 0 then some ((0 : Int32), S_2) else some ((1 : Int32), S_2)) = some (v, T) ∧ v = 1 ∧ CG T ((2, r, kd), gpush kd y l, ng, nm) := by
        intro y
        obtain ⟨T, a1, a2, a3, a4, a5⟩ := write_c (n := n) (S := sI S 2 2 (nI r.length)) (l := l.2 ++ l.1) (x := y) (by omega) (by rw [← h3]; simp [sI]) (h4.congr (fun i _ => by simp [sI]))
        rw [bo_some a1, if_neg (by decide)]
        have ga := gpush_app (kd := kd) (s := y) (l := l) k10
        refine ⟨1, T, rfl, rfl, ?_, ?_, ?_, ?_, ?_, ?_, ?_, ?_⟩
        · rw [a4 0 (by decide)]; dsimp only; rw [if_neg (by decide)] at h0 ⊢; rw [← h0]; simp [sI]
        · rw [a4 2 (by decide)]; simp [sI]
        · rw [a5]; exact h2.2.congr (fun i _ => by simp [sI])
        · rw [a2]; dsimp only; rw [ga]; rfl
        · dsimp only; rw [ga]; exact a3
        · rw [a4 5 (by decide)]; rw [← h5]; simp [sI]
        · rw [a4 6 (by decide)]; rw [← h6]; simp [sI]
        · rw [a4 7 (by decide)]; rw [← h7]; simp [sI]
      by_cases b0 : b = 0
      · rw [if_pos (by rw [b0]; rfl), if_pos b0]
        obtain ⟨v, T, a1, a2, a3⟩ := wr 5
        exact ⟨v, T, a1, Or.inr ⟨a2, _, rfl, a3⟩⟩
      · rw [if_neg (by rw [show (0 : Int32) = nI 0 from rfl, nI_eq (by omega) (by omega)]; exact b0), if_neg b0]
        obtain ⟨v, T, a1, a2, a3⟩ := wr 6
        exact ⟨v, T, a1, Or.inr ⟨a2, _, rfl, a3⟩⟩
    · rw [if_neg (fun hc => c2 (q41.mp hc)), if_neg c2]
      exact ⟨0, _, rfl, Or.inl ⟨rfl, rfl⟩⟩
theorem sign_c {n c : Nat} {S : St} (hc : c < 127) : f_X5_kindOfSign n S (nI c) = some ((if gsign c = 3 then -1 else nI (gsign c)), S) := by
  unfold f_X5_kindOfSign gsign
  have q61 : (nI c = (61 : Int32)) ↔ c = 61 := by rw [show (61 : Int32) = nI 61 from rfl, nI_eq (by omega) (by omega)]
  have q35 : (nI c = (35 : Int32)) ↔ c = 35 := by rw [show (35 : Int32) = nI 35 from rfl, nI_eq (by omega) (by omega)]
  have q60 : (nI c = (60 : Int32)) ↔ c = 60 := by rw [show (60 : Int32) = nI 60 from rfl, nI_eq (by omega) (by omega)]
  by_cases c1 : c = 61
  · rw [if_pos (by rw [c1]; rfl), if_pos c1]; rfl
  · rw [if_neg (fun h => c1 (q61.mp h)), if_neg c1]
    by_cases c2 : c = 35
    · rw [if_pos (by rw [c2]; rfl), if_pos c2]; rfl
    · rw [if_neg (fun h => c2 (q35.mp h)), if_neg c2]
      by_cases c3 : c = 60
      · rw [if_pos (by rw [c3]; rfl), if_pos c3]; rfl
      · rw [if_neg (fun h => c3 (q60.mp h)), if_neg c3]; rfl
theorem nm1 {a : Nat} (h : a < 2 ^ 31) : ¬ nI a = (-1 : Int32) := by
  intro e
  have := nI_pos h
  rw [e] at this
  exact this (by decide)
theorem outside_c {n i c : Nat} {S : St} {kd ng nm : Nat} {l : List Nat × List Nat} (hi : i < 40) (hc : c < 127) (h : CG S ((2, [], kd), l, ng, nm)) (hg : Gok ((2, [], kd), l, ng, nm) i) : ∃ v T, f_X5_goesOnOutside n S (nI c) = some (v, T) ∧ ((v = 0 ∧ gstep ((2, [], kd), l, ng, nm) c = none) ∨ (v = 1 ∧ ∃ g2, gstep ((2, [], kd), l, ng, nm) c = some g2 ∧ CG T g2)) := by
  obtain ⟨h0, h1, h2, h3, h4, h5, h6, h7⟩ := h
  obtain ⟨k1, k2, -, k4, -, -, -, k8, k9, k10, -⟩ := hg
  dsimp only at h0 h1 h2 h3 h4 h5 h6 h7 k1 k2 k4 k8 k9 k10
  have n0 := k8 (by omega)
  unfold f_X5_goesOnOutside gstep
  dsimp only
  rw [if_neg (show ¬ ((2 : Nat) = 0) by decide), if_neg (show ¬ ((2 : Nat) = 1) by decide), if_pos rfl, h5]
  by_cases k3 : kd = 3
  · rw [if_pos k3, if_pos rfl, if_pos k3, bo_some (sign_c hc)]
    simp only [bd]
    have ev : ∀ v : Int32, (sI (sI S 2 5 v) 2 0 0).1 2 5 = v := fun v => by simp [sI]
    rw [ev]
    by_cases s3 : gsign c = 3
    · rw [if_pos s3, if_pos rfl, if_pos s3]
      exact ⟨0, _, rfl, Or.inl ⟨rfl, rfl⟩⟩
    · have := gsign_le c
      rw [if_neg s3, if_neg (nm1 (by omega)), if_neg s3]
      refine ⟨1, _, rfl, Or.inr ⟨rfl, _, rfl, ?_, ?_, ?_, ?_, ?_, ?_, ?_, ?_⟩⟩
      · simp [sI]; rfl
      · dsimp only; rw [← h1]; simp [sI]
      · trivial
      · dsimp only; rw [← h3]; simp [sI]
      · exact h4.congr (fun i _ => by simp [sI])
      · dsimp only; rw [if_neg s3]; simp [sI]
      · dsimp only; rw [← h6]; simp [sI]
      · dsimp only; rw [← h7]; simp [sI]
  · rw [if_neg k3, if_neg (nm1 (by omega)), if_neg k3]
    unfold f_X5_goesOnOutside_47 f_X5_goesOnOutside_75
    have q45 : (nI c = (45 : Int32)) ↔ c = 45 := by rw [show (45 : Int32) = nI 45 from rfl, nI_eq (by omega) (by omega)]
    have q43 : (nI c = (43 : Int32)) ↔ c = 43 := by rw [show (43 : Int32) = nI 43 from rfl, nI_eq (by omega) (by omega)]
    have e5 : ∀ t v : Int32, (sI (sI S 2 6 t) 2 0 v).1 2 5 = nI kd := fun t v => by rw [if_neg k3] at h5; rw [← h5]; simp [sI]
    have q2 : (nI kd = (2 : Int32)) ↔ kd = 2 := by rw [show (2 : Int32) = nI 2 from rfl, nI_eq (by omega) (by omega)]
    have fin : ∀ t : Nat, CG (sI (sI S 2 6 (nI t)) 2 0 3) ((3, [], kd), l, t, nm) := fun t => by
      refine ⟨?_, ?_, ?_, ?_, ?_, ?_, ?_, ?_⟩
      · dsimp only; rw [if_pos rfl, if_pos n0]; simp [sI]; rfl
      · dsimp only; rw [← h1]; simp [sI]
      · trivial
      · dsimp only; rw [← h3]; simp [sI]
      · exact h4.congr (fun i _ => by simp [sI])
      · dsimp only; rw [← h5]; simp [sI]
      · dsimp only; simp [sI]
      · dsimp only; rw [← h7]; simp [sI]
    simp only [bd, e5]
    by_cases c45 : c = 45
    · rw [if_pos (q45.mpr c45), if_neg (by decide)]
      by_cases kk : kd = 2
      · rw [if_pos (q2.mpr kk), if_neg (fun hc => by rw [q43] at hc; omega), if_pos (q45.mpr c45), if_pos ⟨kk, Or.inr c45⟩]
        refine ⟨1, _, rfl, Or.inr ⟨rfl, _, rfl, ?_⟩⟩
        rw [if_pos c45]; exact fin 1
      · rw [if_neg (fun hc => kk (q2.mp hc)), if_neg (fun hc => kk hc.1)]
        exact ⟨0, _, rfl, Or.inl ⟨rfl, rfl⟩⟩
    · rw [if_neg (fun hc => c45 (q45.mp hc)), if_neg (by decide)]
      by_cases kk : kd = 2
      · rw [if_pos (q2.mpr kk)]
        by_cases c43 : c = 43
        · rw [if_pos (q43.mpr c43), if_pos ⟨kk, Or.inl c43⟩]
          refine ⟨1, _, rfl, Or.inr ⟨rfl, _, rfl, ?_⟩⟩
          rw [if_neg c45]; exact fin 0
        · rw [if_neg (fun hc => c43 (q43.mp hc)), if_neg (fun hc => c45 (q45.mp hc)), if_neg (by omega)]
          exact ⟨0, _, rfl, Or.inl ⟨rfl, rfl⟩⟩
      · rw [if_neg (fun hc => kk (q2.mp hc)), if_neg (fun hc => kk hc.1)]
        exact ⟨0, _, rfl, Or.inl ⟨rfl, rfl⟩⟩
theorem fig {nm c : Nat} (h : 48 ≤ c) : ((10 : Int32) * nI nm) + (nI c - (48 : Int32)) = nI (10 * nm + (c - 48)) := by
  rw [show (48 : Int32) = nI 48 from rfl, nI_sub h, show (10 : Int32) = nI 10 from rfl, pk_mul, nI_add]
theorem number_c {n i c : Nat} {S : St} {br : List Nat} {kd ng nm : Nat} {l : List Nat × List Nat} (hi : i < 40) (hc : c < 127) (h : CG S ((3, br, kd), l, ng, nm)) (hg : Gok ((3, br, kd), l, ng, nm) i) : ∃ v T, f_X5_goesOnInNumber n S (nI c) = some (v, T) ∧ ((v = 0 ∧ gstep ((3, br, kd), l, ng, nm) c = none) ∨ (v = 1 ∧ ∃ g2, gstep ((3, br, kd), l, ng, nm) c = some g2 ∧ CG T g2)) := by
  obtain ⟨h0, h1, h2, h3, h4, h5, h6, h7⟩ := h
  obtain ⟨k1, k2, kn, k4, -, -, k7, k8, k9, k10, -⟩ := hg
  dsimp only at h0 h1 h2 h3 h4 h5 h6 h7 k1 k2 kn k4 k7 k8 k9 k10
  rw [if_pos rfl] at h0
  have go : ∀ lo : Nat, (lo = if nm = 0 then 49 else 48) → ∃ v T, f_X5_goesOnInNumber_15 n S (nI c) (nI lo) = some (v, T) ∧ ((v = 0 ∧ gstep ((3, br, kd), l, ng, nm) c = none) ∨ (v = 1 ∧ ∃ g2, gstep ((3, br, kd), l, ng, nm) c = some g2 ∧ CG T g2)) := by
    intro lo hlo
    have hl2 : lo = 49 ∨ lo = 48 := by rw [hlo]; split <;> omega
    unfold f_X5_goesOnInNumber_15 gstep
    dsimp only
    rw [if_neg (show ¬ ((3 : Nat) = 0) by decide), if_neg (show ¬ ((3 : Nat) = 1) by decide), if_neg (show ¬ ((3 : Nat) = 2) by decide)]
    simp only [bd]
    by_cases c1 : c < lo
    · rw [if_pos (by rw [nI_ltI (by omega) (by omega)]; exact c1), if_neg (by
        intro hq
        by_cases e : nm = 0
        · rw [if_pos e] at hlo; omega
        · rw [if_neg e] at hlo; omega)]
      exact ⟨0, _, rfl, Or.inl ⟨rfl, rfl⟩⟩
    · rw [if_neg (by rw [nI_ltI (by omega) (by omega)]; exact c1)]
      have hc48 : 48 ≤ c := by omega
      have hx : 0 < nm ∨ 48 < c := by
        by_cases e : nm = 0
        · rw [if_pos e] at hlo; omega
        · omega
      by_cases c2 : c ≤ 57
      · rw [if_pos (by rw [show (57 : Int32) = nI 57 from rfl, nI_leI (by omega) (by omega)]; exact c2), h7, fig hc48]
        have e7 : ∀ v w : Int32, (sI (sI S 2 7 v) 2 0 w).1 2 7 = v := fun v w => by simp [sI]
        rw [e7]
        by_cases c3 : 10 * nm + (c - 48) < 1000000
        · rw [if_neg (by rw [show (999999 : Int32) = nI 999999 from rfl, nI_ltI (by omega) (by omega)]; omega), if_pos ⟨hc48, c2, hx, c3⟩]
          refine ⟨1, _, rfl, Or.inr ⟨rfl, _, rfl, ?_, ?_, ?_, ?_, ?_, ?_, ?_, ?_⟩⟩
          · dsimp only; rw [if_pos rfl, if_neg (by omega)]; simp [sI]; rfl
          · dsimp only; rw [← h1]; simp [sI]
          · exact h2.congr (fun i _ => by simp [sI])
          · dsimp only; rw [← h3]; simp [sI]
          · exact h4.congr (fun i _ => by simp [sI])
          · dsimp only; rw [← h5]; simp [sI]
          · dsimp only; rw [← h6]; simp [sI]
          · dsimp only; simp [sI]
        · rw [if_pos (by rw [show (999999 : Int32) = nI 999999 from rfl, nI_ltI (by omega) (by omega)]; omega), if_neg (fun hq => c3 hq.2.2.2)]
          exact ⟨0, _, rfl, Or.inl ⟨rfl, rfl⟩⟩
      · rw [if_neg (by rw [show (57 : Int32) = nI 57 from rfl, nI_leI (by omega) (by omega)]; exact c2), if_neg (fun hq => c2 hq.2.1)]
        exact ⟨0, _, rfl, Or.inl ⟨rfl, rfl⟩⟩
  unfold f_X5_goesOnInNumber
  rw [h0]
  by_cases e : nm = 0
  · rw [if_pos e, if_pos (by decide)]; exact go 49 (by rw [if_pos e])
  · rw [if_neg e, if_neg (by decide)]; exact go 48 (by rw [if_neg e])
theorem goesOn_c {n i c : Nat} {S : St} {g : Gs} (hi : i < 40) (hc : c < 127) (h : CG S g) (hg : Gok g i) : ∃ v T, f_X5_goesOnWith n S (nI c) = some (v, T) ∧ ((v = 0 ∧ gstep g c = none) ∨ (v = 1 ∧ ∃ g2, gstep g c = some g2 ∧ CG T g2)) := by
  obtain ⟨⟨w, br, kd⟩, l, ng, nm⟩ := g
  have h0 := h.1
  have h1 := h.2.1
  have k6 := hg.2.2.2.2.2.1
  have kl := hg.1
  dsimp only at h0 h1 k6 kl
  unfold f_X5_goesOnWith
  have ok : ∀ (x : Option (Int32 × St)), (∃ v T, x = some (v, T) ∧ ((v = 0 ∧ gstep ((w, br, kd), l, ng, nm) c = none) ∨ (v = 1 ∧ ∃ g2, gstep ((w, br, kd), l, ng, nm) c = some g2 ∧ CG T g2))) → ∃ v T, (bo x fun (r_2 : Int32) (S_3 : St) => if ¬ (r_2 = 0 ∨ r_2 = 1) then none else some (r_2, S_3)) = some (v, T) ∧ ((v = 0 ∧ gstep ((w, br, kd), l, ng, nm) c = none) ∨ (v = 1 ∧ ∃ g2, gstep ((w, br, kd), l, ng, nm) c = some g2 ∧ CG T g2)) := by
    rintro x ⟨v, T, a1, a2⟩
    rw [bo_some a1]
    refine ⟨v, T, ?_, a2⟩
    rw [if_neg (by rcases a2 with ⟨rfl, -⟩ | ⟨rfl, -⟩ <;> decide)]
  by_cases w0 : w = 0
  · subst w0
    rw [if_neg (by decide)] at h0
    rw [h0, if_pos (by decide)]
    exact ok _ (begins_c hi hc h hg)
  · by_cases w1 : w = 1
    · subst w1
      rw [if_neg (by decide)] at h0
      rw [h0, if_neg (by decide), if_pos (by decide)]
      simp only [bd]
      unfold gstep
      dsimp only
      rw [if_neg (show ¬ ((1 : Nat) = 0) by decide), if_pos (show (1 : Nat) = 1 from rfl)]
      have q40 : (nI c = (40 : Int32)) ↔ c = 40 := by rw [show (40 : Int32) = nI 40 from rfl, nI_eq (by omega) (by omega)]
      by_cases c2 : c = 40
      · rw [if_pos (q40.mpr c2), if_pos c2]
        exact ⟨1, _, rfl, Or.inr ⟨rfl, _, rfl, h.head (w2 := 0) (by simp [sI]; rfl) (fun j hj => by simp [sI, hj]) (by funext j; simp [sI]) (by funext j; simp [sI]) (by decide)⟩⟩
      · rw [if_neg (fun hq => c2 (q40.mp hq)), if_neg c2]
        exact ⟨0, _, rfl, Or.inl ⟨rfl, rfl⟩⟩
    · by_cases w2 : w = 2
      · subst w2
        rw [if_neg (by decide)] at h0
        rw [h0, if_neg (by decide), if_neg (by decide), if_pos (by decide), h1]
        cases br with
        | nil =>
          rw [if_pos (by decide)]
          exact ok _ (outside_c hi hc h hg)
        | cons b r =>
          simp only [List.length_cons] at kl ⊢
          rw [if_neg (by rw [show (0 : Int32) = nI 0 from rfl, nI_leI (by omega) (by omega)]; omega)]
          exact ok _ (brack_c hi hc h hg)
      · have w3 : w = 3 := by omega
        subst w3
        rw [if_pos rfl] at h0
        have hx : S.1 2 0 = nI 3 ∨ S.1 2 0 = nI 4 := by
          rw [h0]; split
          · exact Or.inl rfl
          · exact Or.inr rfl
        rw [if_neg (by rcases hx with hx | hx <;> rw [hx] <;> decide), if_neg (by rcases hx with hx | hx <;> rw [hx] <;> decide), if_neg (by rcases hx with hx | hx <;> rw [hx] <;> decide)]
        exact ok _ (number_c hi hc h hg)
/-- what is read of the first i characters -/
def grun (pg : Nat → Nat) : Nat → Option Gs
  | 0 => some g0
  | i + 1 => (grun pg i).bind (fun g => gstep g (pg i))
theorem grun_ok {pg : Nat → Nat} : ∀ {i : Nat} {g : Gs}, grun pg i = some g → Gok g i
  | 0, g, h => by cases h; exact Gok0
  | i + 1, g, h => by
    simp only [grun] at h
    cases e : grun pg i with
    | none => rw [e] at h; cases h
    | some g1 => rw [e] at h; exact (grun_ok e).step h
/-- where the reading ends: the first character that does not go on, or the end -/
def isFault (pg : Nat → Nat) (L f : Nat) : Prop := f ≤ L ∧ (∃ g, grun pg f = some g ∧ (f < L → gstep g (pg f) = none))
theorem isFault.uniq {pg : Nat → Nat} {L f h : Nat} (a : isFault pg L f) (b : isFault pg L h) : f = h := by
  have down : ∀ i g, grun pg i = some g → ∀ j, j < i → ∃ g1 g2, grun pg j = some g1 ∧ gstep g1 (pg j) = some g2 := by
    intro i
    induction i with
    | zero => intro g _ j hj; omega
    | succ i ih =>
      intro g hg j hj
      simp only [grun] at hg
      cases e : grun pg i with
      | none => rw [e] at hg; cases hg
      | some g1 =>
        rw [e] at hg
        by_cases ej : j = i
        · subst ej; exact ⟨g1, g, e, hg⟩
        · exact ih g1 e j (by omega)
  have key : ∀ f h, isFault pg L f → isFault pg L h → ¬ f < h := by
    rintro f h ⟨a1, ga, a2, a3⟩ ⟨b1, gb, b2, b3⟩ hlt
    obtain ⟨g1, g2, c1, c2⟩ := down h gb b2 f hlt
    rw [a2] at c1; cases c1
    rw [a3 (by omega)] at c2; cases c2
  have := key f h a b
  have := key h f b a
  omega
theorem fault_c {n L : Nat} {S : St} {pg : Nat → Nat} (hn : 60 ≤ n) (hL : L ≤ 40) (hp : ∀ i, i < L → S.1 1 i = nI (pg i) ∧ pg i < 127) : ∃ f T, f_X5_firstFault n S (nI L) = some (nI f, T) ∧ isFault pg L f ∧ (f = L → ∃ g, grun pg L = some g ∧ CG T g) := by
  unfold f_X5_firstFault
  simp only [bd]
  refine for_up (α := Int32 × St) (f_X5_firstFault_32 n (nI L)) (fun _ _ => none) L (fun i T => (∃ g, grun pg i = some g ∧ CG T g) ∧ T.1 1 = S.1 1) (fun o => ∃ f T, o = some (nI f, T) ∧ isFault pg L f ∧ (f = L → ∃ g, grun pg L = some g ∧ CG T g)) ?_ ?_ n 0 _ (by omega) (by omega) ⟨⟨g0, rfl, ?_⟩, by funext j; simp [sI]⟩
  · rintro i T k hi ⟨⟨g, q1, q2⟩, q3⟩
    unfold f_X5_firstFault_32
    rw [if_neg (by rw [nI_leI (by omega) (by omega)]; omega), if_neg (by rw [show Int32.ofNat 40 = nI 40 from rfl, nI_leI (by omega) (by omega)]; omega), if_neg (nI_bad (by omega) (by omega)), nI_c (by omega), q3, (hp i hi).1]
    obtain ⟨v, U, a1, a2⟩ := goesOn_c (n := n) (by omega) (hp i hi).2 q2 (grun_ok q1)
    rw [bo_some a1]
    rcases a2 with ⟨rfl, a2⟩ | ⟨rfl, g2, a2, a3⟩
    · left
      rw [if_pos rfl]
      exact ⟨i, U, rfl, ⟨by omega, g, q1, fun _ => a2⟩, fun e => by omega⟩
    · right
      rw [if_neg (by decide)]
      simp only [bd]
      rw [nI_1]
      refine ⟨U, ⟨⟨g2, by simp only [grun]; rw [q1]; exact a2, a3⟩, ?_⟩, rfl⟩
      rw [(fr_X5_goesOnWith n T _ _ U a1 1 (by unfold wr_X5_goesOnWith; omega)).1, q3]
  · rintro T k ⟨⟨g, q1, q2⟩, q3⟩
    unfold f_X5_firstFault_32
    rw [if_pos (by rw [nI_leI (by omega) (by omega)]; omega)]
    exact ⟨L, T, rfl, ⟨by omega, g, q1, fun h => absurd h (Nat.lt_irrefl _)⟩, fun _ => ⟨g, q1, q2⟩⟩
  · refine ⟨?_, ?_, trivial, ?_, trivial, ?_, ?_, ?_⟩ <;> (simp [sI, g0]; try rfl)
