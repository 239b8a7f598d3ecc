/-! THE SOLVER of the class, first half: masks, ways, what is forced -/
theorem mask_bit (M : Mx) (c : Cl) {o : Nat} (ho : o < 5) : clBit M c o ↔ clMask M c / 2 ^ o % 2 = 1 := by
  have hr : clRes M c.2.2 = 0 ∨ clRes M c.2.2 = 16 := by
    unfold clRes; split
    · exact Or.inl rfl
    · split
      · exact Or.inr rfl
      · exact Or.inl rfl
  have hr4 : (∃ p, c.2.2 = some p ∧ 0 ≤ M p.1 p.2 ∧ 0 ≤ M p.2 p.1) ↔ clRes M c.2.2 = 16 := by
    unfold clRes
    cases hq : c.2.2 with
    | none => constructor
              · rintro ⟨p, h, -⟩; cases h
              · intro h; cases h
    | some p =>
      constructor
      · rintro ⟨p', h, h1, h2⟩; cases h; exact if_pos ⟨h1, h2⟩
      · intro h
        by_cases h1 : 0 ≤ M p.1 p.2 ∧ 0 ≤ M p.2 p.1
        · exact ⟨p, rfl, h1.1, h1.2⟩
        · have h : (if 0 ≤ M p.1 p.2 ∧ 0 ≤ M p.2 p.1 then 16 else 0) = 16 := h
          rw [if_neg h1] at h; cases h
  unfold clMask
  generalize clRes M c.2.2 = r at hr hr4 ⊢
  match o, ho with
  | 0, _ => show 0 < M c.1.2 c.1.1 ↔ _; split <;> split <;> split <;> split <;> omega
  | 1, _ => show 0 < M c.1.1 c.1.2 ↔ _; split <;> split <;> split <;> split <;> omega
  | 2, _ => show 0 < M c.2.1.2 c.2.1.1 ↔ _; split <;> split <;> split <;> split <;> omega
  | 3, _ => show 0 < M c.2.1.1 c.2.1.2 ↔ _; split <;> split <;> split <;> split <;> omega
  | 4, _ =>
    show (∃ p, c.2.2 = some p ∧ 0 ≤ M p.1 p.2 ∧ 0 ≤ M p.2 p.1) ↔ _
    rw [hr4]
    clear hr4
    split <;> split <;> split <;> split <;> omega
theorem mask_lt (M : Mx) (c : Cl) : clMask M c < 32 := by
  have hr : clRes M c.2.2 ≤ 16 := by
    unfold clRes; split
    · omega
    · split <;> omega
  unfold clMask
  generalize clRes M c.2.2 = r at hr ⊢
  split <;> split <;> split <;> split <;> omega
theorem way_bit {E : Ed} {M : Mx} (hM : Mat FC 10 E M) {c : Cl} (hw : clWf c) {v : Nat → Int} (hv : Sat E v) {o : Nat} (ho : o < 5) (h : clWay c o v) : clBit M c o := by
  have F0 : (0 : Int) < FC := by decide
  obtain ⟨w1, w2, w3, w4, w5⟩ := hw
  have key : ∀ s t : Nat, s < 10 → t < 10 → v s - v t ≤ -1 → 0 < M t s := by
    intro s t hs ht h
    by_cases hf : M t s < FC
    · have := hM.sat hv ht hs hf; omega
    · omega
  match o, ho, h with
  | 0, _, h => exact key _ _ w1 w2 h
  | 1, _, h => exact key _ _ w2 w1 h
  | 2, _, h => exact key _ _ w3 w4 h
  | 3, _, h => exact key _ _ w4 w3 h
  | 4, _, ⟨p, hp, h1, h2⟩ =>
    obtain ⟨p1, p2⟩ := w5 p hp
    refine ⟨p, hp, ?_, ?_⟩
    · by_cases hf : M p.1 p.2 < FC
      · have := hM.sat hv p1 p2 hf; omega
      · omega
    · by_cases hf : M p.2 p.1 < FC
      · have := hM.sat hv p2 p1 hf; omega
      · omega
/-- small edges, or such as lead back from the goal's second term to its first -/
def W0 : Int := 2000000000
def WW : Int := 20000000001
def Ty (gl gr : Nat) (E : Ed) : Prop := ∀ i j w, E i j w → (-W0 ≤ w ∧ w ≤ W0) ∨ (i = gr ∧ j = gl)
theorem Ty.ad {gl gr : Nat} {E : Ed} (h : Ty gl gr E) {s t : Nat} {w : Int} (hw : -W0 ≤ w ∧ w ≤ W0) : Ty gl gr (adE E s t w) := by
  intro i j x hx
  rcases hx with hx | ⟨-, -, rfl⟩
  · exact h i j x hx
  · exact Or.inl hw
theorem Ty.clAdd {gl gr : Nat} {E : Ed} (h : Ty gl gr E) (c : Cl) {o : Nat} (ho : o < 5) : Ty gl gr (clAdd E c o) := by
  have W0v : W0 = 2000000000 := rfl
  match o, ho with
  | 0, _ => exact h.ad (by omega)
  | 1, _ => exact h.ad (by omega)
  | 2, _ => exact h.ad (by omega)
  | 3, _ => exact h.ad (by omega)
  | 4, _ =>
    show Ty gl gr (match c.2.2 with | none => E | some p => adE (adE E p.1 p.2 0) p.2 p.1 0)
    split
    · exact h
    · exact (h.ad (by omega)).ad (by omega)
def clsAt (S : St) (cc : Nat) (C : Nat → Cl) : Prop := cc ≤ 22 ∧ S.1 23 3 = nI cc ∧ ∀ k, k < cc → clAt S (50 + k) (C k)
def allCl (cc : Nat) (C : Nat → Cl) (v : Nat → Int) : Prop := ∀ k, k < cc → clSat (C k) v
theorem clsAt.keep {S T : St} {cc : Nat} {C : Nat → Cl} (h : clsAt S cc C) (h1 : T.1 23 3 = S.1 23 3) (h2 : ∀ k, k < 22 → T.1 (50 + k) = S.1 (50 + k)) : clsAt T cc C :=
  ⟨h.1, h1.trans h.2.1, fun k hk => (h.2.2 k hk).keep (h2 k (by have := h.1; omega))⟩
/-- what is forced leaves the solutions as they were -/
def TF (gl gr cc : Nat) (C : Nat → Cl) (E0 : Ed) (S0 : St) (q1 : Nat) (S : St) : Prop :=
  Keeps (wr_X1_bound q1) S0 S ∧ (∀ i j, i < 10 → j < 10 → cM S q1 i j ≤ cM S0 q1 i j) ∧ ∃ E, MOK WW E S q1 ∧ Ty gl gr E ∧ (∀ v, Sat E v → Sat E0 v) ∧ (∀ v, Sat E0 v → allCl cc C v → Sat E v)
theorem TF.cls {gl gr cc : Nat} {C : Nat → Cl} {E0 : Ed} {S0 : St} {q1 : Nat} {S : St} (h : TF gl gr cc C E0 S0 q1 S) (hq : 72 ≤ q1) (hC : clsAt S0 cc C) : clsAt S cc C := by
  refine hC.keep ?_ (fun k hk => ?_)
  · rw [(h.1 23 (by unfold wr_X1_bound; omega)).1]
  · exact (h.1 (50 + k) (by unfold wr_X1_bound; omega)).1
theorem shl_o {m o : Nat} (hm : m < 32) (ho : o < 5) : (nI m = ((1 : Int32) <<< (nI o &&& 31))) ↔ m = 2 ^ o := by
  have : ∀ m, m < 32 → ∀ o, o < 5 → ((nI m = ((1 : Int32) <<< (nI o &&& 31))) ↔ m = 2 ^ o) := by decide
  exact this m hm o ho
theorem shl_m1 {o : Nat} (ho : o < 5) : ¬ ((-1 : Int32) = ((1 : Int32) <<< (nI o &&& 31))) := by
  have : ∀ o, o < 5 → ¬ ((-1 : Int32) = ((1 : Int32) <<< (nI o &&& 31))) := by decide
  exact this o ho
theorem pow_bit {o k : Nat} (ho : o < 5) (hk : k < 5) (h : 2 ^ o / 2 ^ k % 2 = 1) : k = o := by
  have : ∀ o, o < 5 → ∀ k, k < 5 → 2 ^ o / 2 ^ k % 2 = 1 → k = o := by decide
  exact this o ho k hk h
theorem pow_inj {o k : Nat} (ho : o < 5) (hk : k < 5) (h : 2 ^ o = 2 ^ k) : o = k := by
  have : ∀ o, o < 5 → ∀ k, k < 5 → 2 ^ o = 2 ^ k → o = k := by decide
  exact this o ho k hk h
/-- the ways of one clause -/
theorem forced_in {n q1 gl gr cc : Nat} {C : Nat → Cl} {E0 : Ed} {S0 : St} (hn : 30 ≤ n) (hq : 72 ≤ q1) (hC : clsAt S0 cc C) {k : Nat} (hk : k < cc) {Sk : St} (hT : TF gl gr cc C E0 S0 q1 Sk) {x3 x5 : Int32} (hx5 : (clMet (cM Sk q1) (C k) ∧ x5 = -1) ∨ (¬ clMet (cM Sk q1) (C k) ∧ x5 = nI (clMask (cM Sk q1) (C k))))
    (k4 k19 : St → Int32 → Int32 → Option (Int32 × St)) (x2 : Int32) : ∃ S' x2', TF gl gr cc C E0 S0 q1 S' ∧ fixF (fun _ _ _ => none) (f_X6_takeForcedOptions_58 n q1 x3 (nI k) x5 k4 k19) n Sk x2 (nI 0) = k19 S' x2' (nI (k + 1)) := by
  have hk22 : k < 22 := by have := hC.1; omega
  refine for_up2' (α := Int32 × St) (β := Int32) (f_X6_takeForcedOptions_58 n q1 x3 (nI k) x5 k4 k19) (fun _ _ _ => none) 5 (fun o S _ => TF gl gr cc C E0 S0 q1 S ∧ ∀ o', o ≤ o' → o' < 5 → clMask (cM Sk q1) (C k) = 2 ^ o' → S = Sk) (fun r => ∃ S' x2', TF gl gr cc C E0 S0 q1 S' ∧ r = k19 S' x2' (nI (k + 1))) ?_ ?_ n 0 Sk x2 (by omega) (by omega) ⟨hT, fun _ _ _ _ => rfl⟩
  · intro o S a kk ho hI
    right
    have l0 : ¬ (5 : Int32) ≤ nI o := by rw [show (5 : Int32) = nI 5 from rfl, nI_leI (by omega) (by omega)]; omega
    unfold f_X6_takeForcedOptions_58
    rw [if_neg l0]
    have st : ∀ S a, f_X6_takeForcedOptions_91 n q1 x3 (nI k) x5 k4 k19 kk S a (nI o) = kk S a (nI (o + 1)) := fun S a => by unfold f_X6_takeForcedOptions_91; simp only [bd]; rw [nI_1]
    by_cases he : x5 = ((1 : Int32) <<< (nI o &&& 31))
    · rw [if_pos he, if_neg (nI_bad hk22 (by omega)), nI_c (by omega)]
      rcases hx5 with ⟨-, h5⟩ | ⟨hm, h5⟩
      · rw [h5] at he; exact absurd he (shl_m1 ho)
      rw [h5] at he
      have hmo := (shl_o (mask_lt _ _) ho).mp he
      have hS : S = Sk := hI.2 o (Nat.le_refl _) ho hmo
      subst hS
      obtain ⟨h1, h2, E, hE, hty, hs1, hs2⟩ := id hI.1
      have hcl := (hI.1.cls hq hC).2.2 k hk
      have hb : clBit (cM S q1) (C k) o := (mask_bit _ _ ho).mpr (by rw [hmo]; have : ∀ o, o < 5 → 2 ^ o / 2 ^ o % 2 = 1 := by decide
                                                                     exact this o ho)
      obtain ⟨S', t1, t2, t3, t4⟩ := take_c (n := n) (W := WW) (by omega) hcl (by omega) hq (by decide) (by decide) hE ho hb
      rw [bo_some t1, if_neg (by decide)]
      simp only [bd]
      rw [st]
      refine ⟨S', 1, ⟨⟨h1.trans t2, fun i j hi hj => by have := t4 i j hi hj; have := h2 i j hi hj; omega, clAdd E (C k) o, t3, hty.clAdd _ ho, ?_, ?_⟩, ?_⟩, rfl⟩
      · intro v hv
        by_cases h4 : o < 4
        · exact hs1 v ((sat_clAdd (fun _ => h4)).mp hv).1
        · have ho4 : o = 4 := by omega
          subst ho4
          obtain ⟨p, hp, -⟩ := hb
          exact hs1 v ((sat_clAdd (fun q => by rw [hp] at q; cases q)).mp hv).1
      · intro v hv ha
        have hvE := hs2 v hv ha
        obtain ⟨o1, ho1, hw1⟩ := clSat_way (ha k hk)
        have hb1 := way_bit hE.1 hcl.1 hvE ho1 hw1
        have := (mask_bit _ _ ho1).mp hb1
        rw [hmo] at this
        have e := pow_bit ho ho1 this
        subst e
        refine (sat_clAdd (fun q => ?_)).mpr ⟨hvE, hw1⟩
        by_cases h4 : o1 < 4
        · exact h4
        · have ho4 : o1 = 4 := by omega
          subst ho4
          obtain ⟨p, hp, -⟩ := hb
          rw [hp] at q; cases q
      · intro o' h1 h2 h3
        rw [hmo] at h3
        have := pow_inj ho h2 h3
        omega
    · rw [if_neg he, st]
      exact ⟨S, a, ⟨hI.1, fun o' h1 h2 h3 => hI.2 o' (by omega) h2 h3⟩, rfl⟩
  · intro S a kk hI
    unfold f_X6_takeForcedOptions_58
    rw [if_pos (by decide)]
    simp only [bd]
    exact ⟨S, a, hI.1, by rw [nI_1]⟩
theorem forced_c {n q1 gl gr cc : Nat} {C : Nat → Cl} {E0 : Ed} {S0 : St} (hn : 30 ≤ n) (hq : 72 ≤ q1) (hC : clsAt S0 cc C) (h0 : MOK WW E0 S0 q1) (hty : Ty gl gr E0) :
    ∃ r S', f_X6_takeForcedOptions n S0 q1 = some (r, S') ∧ ((r = 0 ∧ ∀ v, Sat E0 v → ¬ allCl cc C v) ∨ r = 1) ∧ TF gl gr cc C E0 S0 q1 S' := by
  have hcc := hC.1
  unfold f_X6_takeForcedOptions
  simp only [bd]
  refine for_up2' (α := Int32 × St) (β := Int32) (f_X6_takeForcedOptions_4 n q1) (fun _ _ _ => none) 23 (fun _ S _ => TF gl gr cc C E0 S0 q1 S) (fun o => ∃ r S', o = some (r, S') ∧ ((r = 0 ∧ ∀ v, Sat E0 v → ¬ allCl cc C v) ∨ r = 1) ∧ TF gl gr cc C E0 S0 q1 S') ?_ ?_ n 0 S0 1 (by omega) (by omega) ⟨Keeps.rf, fun _ _ _ _ => Int.le_refl _, E0, h0, hty, fun _ h => h, fun _ h _ => h⟩
  · intro p S a k4 hp hI
    have l0 : ¬ (22 : Int32) < nI p := by rw [show (22 : Int32) = nI 22 from rfl, nI_ltI (by omega) (by omega)]; omega
    unfold f_X6_takeForcedOptions_4
    rw [if_neg l0]
    by_cases ha : a = 0
    · rw [if_pos ha]; left; exact ⟨1, S, rfl, Or.inr rfl, hI⟩
    rw [if_neg ha]
    simp only [bd]
    refine for_up2' (α := Int32 × St) (β := Int32) (f_X6_takeForcedOptions_19 n q1 (nI p) k4) (fun _ _ _ => none) cc (fun _ S _ => TF gl gr cc C E0 S0 q1 S) (fun o => (∃ r S', o = some (r, S') ∧ ((r = 0 ∧ ∀ v, Sat E0 v → ¬ allCl cc C v) ∨ r = 1) ∧ TF gl gr cc C E0 S0 q1 S') ∨ ∃ S' a', TF gl gr cc C E0 S0 q1 S' ∧ o = k4 S' a' (nI (p + 1))) ?_ ?_ n 0 S 0 (by omega) (by omega) hI
    · intro k S a k19 hk hI
      obtain ⟨-, hc3, hcl⟩ := hI.cls hq hC
      unfold f_X6_takeForcedOptions_19
      rw [hc3, if_neg (by rw [nI_leI (by omega) (by omega)]; omega), if_neg (by rw [show (22 : Int32) = nI 22 from rfl, nI_leI (by omega) (by omega)]; omega), if_neg (nI_bad (by omega) (by omega)), nI_c (by omega)]
      obtain ⟨h1, h2, E, hE, hty, hs1, hs2⟩ := id hI
      have ho := open_c (n := n) (hcl k hk) hE.1
      have fin : ∀ x5 : Int32, ((clMet (cM S q1) (C k) ∧ x5 = -1) ∨ (¬ clMet (cM S q1) (C k) ∧ x5 = nI (clMask (cM S q1) (C k)))) → f_X0_openOptions n (50 + k) S q1 = some (x5, S) → ((bo (f_X0_openOptions n (50 + k) S q1) fun r_15 S_16 => if r_15 = 0 then some ((0 : Int32), S_16) else fixF (fun _ _ _ => none) (f_X6_takeForcedOptions_58 n q1 (nI p) (nI k) r_15 k4 k19) n S_16 a 0) = some (0, S) ∧ ∀ v, Sat E0 v → ¬ allCl cc C v) ∨ ∃ S' a', TF gl gr cc C E0 S0 q1 S' ∧ (bo (f_X0_openOptions n (50 + k) S q1) fun r_15 S_16 => if r_15 = 0 then some ((0 : Int32), S_16) else fixF (fun _ _ _ => none) (f_X6_takeForcedOptions_58 n q1 (nI p) (nI k) r_15 k4 k19) n S_16 a 0) = k19 S' a' (nI (k + 1)) := by
        intro x5 hx5 hop
        rw [bo_some hop]
        by_cases hz : x5 = 0
        · left
          rw [if_pos hz]
          refine ⟨rfl, fun v hv ha => ?_⟩
          rcases hx5 with ⟨-, e⟩ | ⟨hm, e⟩
          · rw [e] at hz; exact absurd hz (by decide)
          · have hvE := hs2 v hv ha
            obtain ⟨o1, ho1, hw1⟩ := clSat_way (ha k hk)
            have hb1 := (mask_bit _ _ ho1).mp (way_bit hE.1 (hcl k hk).1 hvE ho1 hw1)
            rw [e, show (0 : Int32) = nI 0 from rfl, nI_eq (by have := mask_lt (cM S q1) (C k); omega) (by omega)] at hz
            rw [hz] at hb1
            simp at hb1
        · right
          rw [if_neg hz]
          exact forced_in hn hq hC hk hI hx5 k4 k19 a
      rcases ho with ⟨hm, ho⟩ | ⟨hm, ho⟩
      · rcases fin (-1) (Or.inl ⟨hm, rfl⟩) ho with ⟨e, hv⟩ | h
        · left; left; exact ⟨0, S, e, Or.inl ⟨rfl, hv⟩, hI⟩
        · right; exact h
      · rcases fin _ (Or.inr ⟨hm, rfl⟩) ho with ⟨e, hv⟩ | h
        · left; left; exact ⟨0, S, e, Or.inl ⟨rfl, hv⟩, hI⟩
        · right; exact h
    · intro S a k19 hI
      obtain ⟨-, hc3, hcl⟩ := hI.cls hq hC
      unfold f_X6_takeForcedOptions_19
      rw [hc3, if_pos (by rw [nI_leI (by omega) (by omega)]; omega)]
      right
      unfold f_X6_takeForcedOptions_103
      simp only [bd]
      exact ⟨S, a, hI, by rw [nI_1]⟩
  · intro S a k4 hI
    unfold f_X6_takeForcedOptions_4
    rw [if_pos (by decide)]
    exact ⟨1, S, rfl, Or.inr rfl, hI⟩
