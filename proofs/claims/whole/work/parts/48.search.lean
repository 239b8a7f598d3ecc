/-! THE SEARCH of the class's solver -/
def SrOk (gl gr cc : Nat) (C : Nat → Cl) (S : St) : Prop := clsAt S cc C ∧ S.1 23 8 = nI gl ∧ S.1 23 9 = nI gr
def SameI (S T : St) : Prop := ∀ c k, c < 72 → ¬ (c = 23 ∧ k = 7) → T.1 c k = S.1 c k
theorem SameI.rf {S : St} : SameI S S := fun _ _ _ _ => rfl
theorem SameI.trans {S T U : St} (h : SameI S T) (g : SameI T U) : SameI S U := fun c k h1 h2 => (g c k h1 h2).trans (h c k h1 h2)
theorem SameI.ok {gl gr cc : Nat} {C : Nat → Cl} {S T : St} (h : SameI S T) (g : SrOk gl gr cc C S) : SrOk gl gr cc C T := by
  obtain ⟨g1, g2, g3⟩ := g
  refine ⟨g1.keep (h 23 3 (by omega) (by omega)) (fun k hk => ?_), (h 23 8 (by omega) (by omega)).trans g2, (h 23 9 (by omega) (by omega)).trans g3⟩
  funext j; exact h (50 + k) j (by omega) (by omega)
theorem Keeps.sameI {q1 : Nat} {S T : St} (h : Keeps (wr_X1_bound q1) S T) (hq : 72 ≤ q1) : SameI S T := fun c k hc _ => by rw [(h c (by unfold wr_X1_bound; omega)).1]
theorem Keeps.flag {q1 : Nat} {S T : St} (h : Keeps (wr_X1_bound q1) S T) (hq : 72 ≤ q1) : T.1 23 7 = S.1 23 7 := by rw [(h 23 (by unfold wr_X1_bound; omega)).1]
theorem Keeps.row {q1 p : Nat} {S T : St} (h : Keeps (wr_X1_bound q1) S T) (hp : p ≠ q1) : T.2 (p + 25) = S.2 (p + 25) := (h (p + 25) (by unfold wr_X1_bound; omega)).2
theorem Best.keep {gl gr : Nat} {P : (Nat → Int) → Prop} {S T : St} (h : Best gl gr P S) (h1 : T.1 23 7 = S.1 23 7) (h2 : T.2 (95 + 25) = S.2 (95 + 25)) : Best gl gr P T := by
  unfold Best at h ⊢
  rw [h1]
  rcases h with h | ⟨a, E, b, c⟩
  · exact Or.inl h
  · exact Or.inr ⟨a, E, b.keep h2, c⟩
theorem Mono.keep {gl gr : Nat} {S T : St} (h1 : T.1 23 7 = S.1 23 7) (h2 : T.2 (95 + 25) = S.2 (95 + 25)) : Mono gl gr S T := fun h => ⟨h1.trans h, by rw [cM_keep h2]; exact Int.le_refl _⟩
theorem great_c {n gl gr : Nat} {S : St} (hgl : gl < 10) (hgr : gr < 10) (h8 : S.1 23 8 = nI gl) (h9 : S.1 23 9 = nI gr) : f_X6_greatest n S = some (S.2 120 (gl * 10 + gr), S) := by
  unfold f_X6_greatest
  rw [h8, h9, bo_some (between_c hgl hgr)]
theorem dem_c {n q1 gl gr cc : Nat} {C : Nat → Cl} {P : (Nat → Int) → Prop} {S : St} {E : Ed} (hn : 30 ≤ n) (hq : 72 ≤ q1) (hq2 : q1 < 95) (hgl : gl < 10) (hgr : gr < 10) (hs : SrOk gl gr cc C S) (hB : Best gl gr P S) (hE : MOK WW E S q1) (hty : Ty gl gr E) :
    ∃ r T, f_X6_demandsMore n S q1 = some (r, T) ∧ Keeps (wr_X1_bound q1) S T ∧ ((r = 0 ∧ ∀ v, Sat E v → Cov gl gr S v) ∨ (r = 1 ∧ (∀ i j, i < 10 → j < 10 → cM T q1 i j ≤ cM S q1 i j) ∧ (S.1 23 7 = 1 → cM S 95 gl gr < FC ∧ -(10 * W0) ≤ cM S 95 gl gr ∧ cM T q1 gr gl ≤ -cM S 95 gl gr - 1) ∧ ∃ G, MOK WW G T q1 ∧ Ty gl gr G ∧ (∀ v, Sat G v → Sat E v) ∧ ∀ v, Sat E v → Sat G v ∨ Cov gl gr S v)) := by
  have W0v : W0 = 2000000000 := rfl
  have WWv : WW = 20000000001 := rfl
  have F0 : (0 : Int) < FC := by decide
  obtain ⟨-, h8, h9⟩ := hs
  unfold f_X6_demandsMore
  rcases hB with hz | ⟨h1, Eb, hb, hbt, -⟩
  · rw [if_pos hz]
    exact ⟨1, S, rfl, Keeps.rf, Or.inr ⟨rfl, fun _ _ _ _ => Int.le_refl _, fun h => by rw [hz] at h; exact absurd h (by decide), E, hE, hty, fun _ h => h, fun _ h => Or.inl h⟩⟩
  · rw [if_neg (by rw [h1]; decide)]
    rw [bo_some (great_c hgl hgr h8 h9)]
    have eg : (S.2 120 (gl * 10 + gr)).toInt = cM S 95 gl gr := rfl
    by_cases hf : lg_cmp (S.2 120 (gl * 10 + gr)) (1000000000000000 : Int64) = 0
    · rw [if_pos hf]
      rw [c_eq, FCi, eg] at hf
      exact ⟨0, S, rfl, Keeps.rf, Or.inl ⟨rfl, fun v _ => ⟨h1, fun h => by omega⟩⟩⟩
    · rw [if_neg hf, bo_some (great_c hgl hgr h8 h9), h8, h9]
      rw [c_eq, FCi, eg] at hf
      have hfin : cM S 95 gl gr < FC := by have := hb.2.1 gl gr hgl hgr; omega
      have hsm := Best.small (P := P) hgl hgr hb hbt hfin
      have o1 : (1 : Int64).toInt = 1 := by decide
      have e1 : (-S.2 120 (gl * 10 + gr)).toInt = -cM S 95 gl gr := by rw [l_neg (by omega) (by omega), eg]
      have e2 : (-S.2 120 (gl * 10 + gr) - 1).toInt = -cM S 95 gl gr - 1 := by rw [l_sub (by rw [e1, o1]; omega) (by rw [e1, o1]; omega), e1, o1]
      obtain ⟨r, T, a1, a2, a3⟩ := bound_w (w := -S.2 120 (gl * 10 + gr) - 1) (n := n) (by omega) (W := WW) (by decide) (by decide) hE hgr hgl (by rw [e2]; omega)
      rw [bo_some a1]
      rcases a3 with ⟨rfl, rfl, b1, b2⟩ | ⟨rfl, b1, b2⟩
      · rw [if_pos rfl]
        refine ⟨0, T, rfl, a2, Or.inl ⟨rfl, fun v hv => ⟨h1, fun _ => ?_⟩⟩⟩
        have := bound_no hE hgr hgl b1 b2 hv
        rw [e2] at this
        omega
      · rw [if_neg (by decide)]
        rw [e2] at b1 b2
        refine ⟨1, T, rfl, a2, Or.inr ⟨rfl, fun i j hi hj => by rw [b2 i j hi hj]; exact adM_le _ _ _ _ _ _ _, fun _ => ⟨hfin, hsm.1, ?_⟩, _, b1, ?_, fun v hv => (sat_ad.mp hv).1, fun v hv => ?_⟩⟩
        · exact (b1.1.2.2.1 gr gl _ (Or.inr ⟨rfl, rfl, rfl⟩)).2.2.2
        · intro i j w hw
          rcases hw with hw | ⟨x1, x2, -⟩
          · exact hty i j w hw
          · exact Or.inr ⟨x1, x2⟩
        · by_cases hc : v gr - v gl ≤ -cM S 95 gl gr - 1
          · exact Or.inl (sat_ad.mpr ⟨hv, hc⟩)
          · exact Or.inr ⟨h1, fun _ => by omega⟩
theorem shr_o {m o : Nat} (hm : m < 32) (ho : o < 5) : (((nI m >>> (nI o &&& 31)) &&& (1 : Int32)) = (1 : Int32)) ↔ m / 2 ^ o % 2 = 1 := by
  have : ∀ m, m < 32 → ∀ o, o < 5 → ((((nI m >>> (nI o &&& 31)) &&& (1 : Int32)) = (1 : Int32)) ↔ m / 2 ^ o % 2 = 1) := by decide
  exact this m hm o ho
/-- what a search at a level does -/
def SPost (gl gr cc : Nat) (C : Nat → Cl) (P : (Nat → Int) → Prop) (E : Ed) (lv : Nat) (S T : St) : Prop :=
  SameI S T ∧ (∀ l, l < lv → T.2 (97 + l) = S.2 (97 + l)) ∧ Best gl gr P T ∧ Mono gl gr S T ∧ ∀ v, Sat E v → allCl cc C v → Cov gl gr T v
def SPre (gl gr cc : Nat) (C : Nat → Cl) (P : (Nat → Int) → Prop) (E : Ed) (lv : Nat) (S : St) : Prop :=
  SrOk gl gr cc C S ∧ MOK WW E S (72 + lv) ∧ Ty gl gr E ∧ Best gl gr P S ∧ (∀ v, Sat E v → allCl cc C v → P v) ∧ lv + unm (cM S (72 + lv)) C cc ≤ 22
theorem search_loop {n gl gr cc : Nat} {C : Nat → Cl} {P : (Nat → Int) → Prop} (hn : 30 ≤ n) (hgl : gl < 10) (hgr : gr < 10) {lv : Nat} {E : Ed} {S : St} (hS : SPre gl gr cc C P E lv S) {k : Nat} (hk : k < cc) (hm : ¬ clMet (cM S (72 + lv)) (C k))
    (kr : St → Int32 → Option (Unit × St)) (hkr : ∀ (G : Ed) (T : St), SPre gl gr cc C P G (lv + 1) T → ∃ T', kr T (nI (lv + 1)) = some ((), T') ∧ SPost gl gr cc C P G (lv + 1) T T') :
    ∃ T, fixF (fun _ _ => none) (f_X6_search_80 n kr (nI lv) (72 + lv) (nI k) (nI (clMask (cM S (72 + lv)) (C k)))) n S (nI 0) = some ((), T) ∧ SPost gl gr cc C P E (lv + 1) S T := by
  obtain ⟨hok, hE, hty, hB, hP, hlv⟩ := hS
  have hcc := hok.1.1
  have hu := unm_pos (M := cM S (72 + lv)) (C := C) cc ⟨k, hk, hm⟩
  have hcl0 := hok.1.2.2 k hk
  refine for_up (α := Unit × St) (f_X6_search_80 n kr (nI lv) (72 + lv) (nI k) (nI (clMask (cM S (72 + lv)) (C k)))) (fun _ _ => none) 5
    (fun o T => SameI S T ∧ (∀ l, l < lv + 1 → T.2 (97 + l) = S.2 (97 + l)) ∧ Best gl gr P T ∧ Mono gl gr S T ∧ ∀ v, Sat E v → allCl cc C v → (∃ o1, o1 < o ∧ clWay (C k) o1 v) → Cov gl gr T v)
    (fun r => ∃ T, r = some ((), T) ∧ SPost gl gr cc C P E (lv + 1) S T) ?_ ?_ n 0 S (by omega) (by omega) ⟨SameI.rf, fun _ _ => rfl, hB, Mono.rf, fun v _ _ ⟨o1, h, _⟩ => absurd h (Nat.not_lt_zero _)⟩
  · rintro o T kk ho ⟨i1, i2, i3, i4, i5⟩
    right
    unfold f_X6_search_80
    have st : ∀ T, f_X6_search_146 n kr (nI lv) (72 + lv) (nI k) (nI (clMask (cM S (72 + lv)) (C k))) kk T (nI o) = kk T (nI (o + 1)) := fun T => by unfold f_X6_search_146; simp only [bd]; rw [nI_1]
    rw [if_neg (by rw [show (5 : Int32) = nI 5 from rfl, nI_leI (by omega) (by omega)]; omega), nI_1, if_neg (by rw [show (23 : Int32) = nI 23 from rfl, nI_leI (by omega) (by omega)]; omega)]
    have hok1 := i1.ok hok
    have hcl := hok1.1.2.2 k hk
    by_cases hb : ((nI (clMask (cM S (72 + lv)) (C k)) >>> (nI o &&& 31)) &&& (1 : Int32)) = (1 : Int32)
    · rw [if_pos hb, if_neg (nI_bad (by omega) (by omega)), nI_c (by omega)]
      rw [shr_o (mask_lt _ _) ho, ← mask_bit _ _ ho] at hb
      obtain ⟨T1, c1, c2, c3, c4⟩ := copy_c (n := n) (q := 72 + (lv + 1)) (q1 := 72 + lv) (S := T)
      rw [bo_some c1, if_neg (nI_bad (by omega) (by omega)), if_neg (fun h => h.elim (nI_pos (by omega)) (by omega)), nI_c (by omega)]
      -- the copy
      have e4 : ∀ i j, i < 10 → j < 10 → cM T1 (72 + (lv + 1)) i j = cM S (72 + lv) i j := fun i j hi hj => by
        rw [c4 i j hi hj]
        have : T.2 (72 + lv + 25) = S.2 (72 + lv + 25) := by have := i2 lv (by omega); rw [show 72 + lv + 25 = 97 + lv by omega]; exact this
        rw [cM_keep this]
      have hE1 : MOK WW E T1 (72 + (lv + 1)) := hE.congr e4
      have hb1 : clBit (cM T1 (72 + (lv + 1))) (C k) o := by
        obtain ⟨w1, w2, w3, w4, w5⟩ := hcl.1
        match o, ho, hb with
        | 0, _, hb => show 0 < _; rw [e4 _ _ w2 w1]; exact hb
        | 1, _, hb => show 0 < _; rw [e4 _ _ w1 w2]; exact hb
        | 2, _, hb => show 0 < _; rw [e4 _ _ w4 w3]; exact hb
        | 3, _, hb => show 0 < _; rw [e4 _ _ w3 w4]; exact hb
        | 4, _, ⟨p, hp, x1, x2⟩ =>
          obtain ⟨p1, p2⟩ := w5 p hp
          exact ⟨p, hp, by rw [e4 _ _ p1 p2]; exact x1, by rw [e4 _ _ p2 p1]; exact x2⟩
      have hcl1 : clAt T1 (50 + k) (C k) := hcl.keep (by rw [c2])
      obtain ⟨T2, t1, t2, t3, t4⟩ := take_c (n := n) (W := WW) (by omega) hcl1 (by omega) (by omega) (by decide) (by decide) hE1 ho hb1
      rw [bo_some t1, if_neg (by decide)]
      have hsub : (C k).2.2 = none → o < 4 := fun q => by
        by_cases h4 : o < 4
        · exact h4
        · have ho4 : o = 4 := by omega
          subst ho4
          obtain ⟨p, hp, -⟩ := hb
          rw [hp] at q; cases q
      -- the next level
      have f2 : T2.1 23 7 = T.1 23 7 := by rw [t2.flag (by omega), c2]
      have r2 : T2.2 (95 + 25) = T.2 (95 + 25) := by rw [t2.row (p := 95) (by omega)]; exact c3 _ (by omega)
      have s2 : SameI T T2 := fun c k hc hx => (t2.sameI (by omega) c k hc hx).trans (by rw [c2])
      have hmet : clMet (cM T2 (72 + (lv + 1))) (C k) := taken_met ho t3.1 (fun h q => by have := hsub q; omega) hcl.1
      have hun : unm (cM T2 (72 + (lv + 1))) C cc < unm (cM S (72 + lv)) C cc := by
        refine unm_lt cc (fun j hj hjm => ?_) ⟨k, hk, hm, hmet⟩
        exact clMet_mono hE.1 t3.1 (fun a b ha hb => by have := t4 a b ha hb; rw [e4 a b ha hb] at this; exact this) (hok.1.2.2 j hj).1 hjm
      obtain ⟨T3, u1, u2, u3, u4, u5, u6⟩ := hkr (clAdd E (C k) o) T2 ⟨s2.ok hok1, t3, hty.clAdd _ ho, i3.keep f2 r2, fun v hv ha => hP v ((sat_clAdd hsub).mp hv).1 ha, by omega⟩
      rw [bo_some u1, st]
      have m02 : Mono gl gr T T2 := Mono.keep f2 r2
      refine ⟨T3, ⟨(i1.trans s2).trans u2, fun l hl => ?_, u4, (i4.trans m02).trans u5, fun v hv ha ⟨o1, ho1, hw⟩ => ?_⟩, rfl⟩
      · rw [u3 l hl, show (97 + l) = (72 + l) + 25 by omega, t2.row (by omega), c3 _ (by omega), show (72 + l) + 25 = 97 + l by omega]
        exact i2 l hl
      · by_cases e : o1 = o
        · subst e
          exact u6 v ((sat_clAdd hsub).mpr ⟨hv, hw⟩) ha
        · exact ((i5 v hv ha ⟨o1, by omega, hw⟩).mono m02).mono u5
    · rw [if_neg hb, st]
      rw [shr_o (mask_lt _ _) ho, ← mask_bit _ _ ho] at hb
      refine ⟨T, ⟨i1, i2, i3, i4, fun v hv ha ⟨o1, ho1, hw⟩ => ?_⟩, rfl⟩
      by_cases e : o1 = o
      · subst e
        exact absurd (way_bit hE.1 hcl.1 hv ho hw) hb
      · exact i5 v hv ha ⟨o1, by omega, hw⟩
  · rintro T kk ⟨i1, i2, i3, i4, i5⟩
    unfold f_X6_search_80
    rw [if_pos (by decide)]
    refine ⟨T, rfl, i1, i2, i3, i4, fun v hv ha => ?_⟩
    obtain ⟨o1, h1, h2⟩ := clSat_way (ha k hk)
    exact i5 v hv ha ⟨o1, h1, h2⟩
theorem search_c {n gl gr cc : Nat} {C : Nat → Cl} {P : (Nat → Int) → Prop} (hn : 30 ≤ n) (hgl : gl < 10) (hgr : gr < 10) : ∀ (d lv : Nat) (E : Ed) (S : St), 23 ≤ d + lv → lv ≤ 22 → SPre gl gr cc C P E lv S → ∃ T, fixF (fun _ _ => none) (f_X6_search n) d S (nI lv) = some ((), T) ∧ SPost gl gr cc C P E lv S T := by
  intro d
  induction d with
  | zero => intro lv E S h1 h2; omega
  | succ d ih =>
    intro lv E S h1 h2 hS
    obtain ⟨hok, hE, hty, hB, hP, hlv⟩ := id hS
    have hcc := hok.1.1
    show ∃ T, f_X6_search n (fixF (fun _ _ => none) (f_X6_search n) d) S (nI lv) = some ((), T) ∧ _
    generalize hkr : fixF (fun _ _ => none) (f_X6_search n) d = kr
    unfold f_X6_search
    rw [if_neg (nI_pos (by omega)), if_pos (by rw [show (23 : Int32) = nI 23 from rfl, nI_ltI (by omega) (by omega)]; omega), if_neg (nI_bad (by omega) (by omega)), nI_c (by omega)]
    simp only [bd]
    obtain ⟨r, S1, a1, a2, a3⟩ := dem_c (n := n) hn (q1 := 72 + lv) (by omega) (by omega) hgl hgr hok hB hE hty
    rw [bo_some a1]
    have s1 : SameI S S1 := a2.sameI (by omega)
    have f1 : S1.1 23 7 = S.1 23 7 := a2.flag (by omega)
    have r1 : S1.2 (95 + 25) = S.2 (95 + 25) := a2.row (by omega)
    have l1 : ∀ l, l < lv → S1.2 (97 + l) = S.2 (97 + l) := fun l hl => by
      have := a2.row (p := 72 + l) (by omega); rw [show 72 + l + 25 = 97 + l by omega] at this; exact this
    rcases a3 with ⟨rfl, hc⟩ | ⟨rfl, hle1, hfd, G, hG, hGty, hGE, hEG⟩
    · rw [if_pos rfl]
      exact ⟨S1, rfl, s1, l1, hB.keep f1 r1, Mono.keep f1 r1, fun v hv _ => (hc v hv).mono (Mono.keep f1 r1)⟩
    · rw [if_neg (by decide)]
      obtain ⟨r2, S2, b1, b2, b3⟩ := forced_c (n := n) (cc := cc) (C := C) hn (q1 := 72 + lv) (by omega) (s1.ok hok).1 hG hGty
      rw [bo_some b1]
      obtain ⟨k1, hle2, G2, hG2, hG2ty, hs1, hs2⟩ := id b3
      have s2 : SameI S S2 := s1.trans (k1.sameI (by omega))
      have f2 : S2.1 23 7 = S.1 23 7 := (k1.flag (by omega)).trans f1
      have rr2 : S2.2 (95 + 25) = S.2 (95 + 25) := (k1.row (by omega)).trans r1
      have l2 : ∀ l, l < lv → S2.2 (97 + l) = S.2 (97 + l) := fun l hl => by
        have := k1.row (p := 72 + l) (by omega); rw [show 72 + l + 25 = 97 + l by omega] at this; exact this.trans (l1 l hl)
      have hB2 := hB.keep f2 rr2
      have m2 : Mono gl gr S S2 := Mono.keep f2 rr2
      rcases b2 with ⟨rfl, hno⟩ | rfl
      · rw [if_pos rfl]
        refine ⟨S2, rfl, s2, l2, hB2, m2, fun v hv ha => ?_⟩
        rcases hEG v hv with h | h
        · exact absurd ha (hno v h)
        · exact h.mono m2
      · rw [if_neg (by decide)]
        have hok2 := s2.ok hok
        obtain ⟨r3, c1, c2⟩ := narrow_c (n := n) hn hok2.1 hG2.1
        rw [bo_some c1]
        rcases c2 with ⟨rfl, hall⟩ | ⟨k, hk, rfl, hm⟩
        · -- all clauses are met: a new best
          rw [if_pos (by decide)]
          unfold f_X6_search_51
          obtain ⟨S3, e1, e2, e3, e4⟩ := copy_c (n := n) (q := 95) (q1 := 72 + lv) (S := S2)
          rw [bo_some e1]
          simp only [bd]
          refine ⟨_, rfl, ?_, ?_, ?_, ?_, ?_⟩
          · intro c k hc hx
            rw [← s2 c k hc hx, ← e2]
            show (if c = 23 ∧ k = 7 then (1 : Int32) else S3.1 c k) = _
            rw [if_neg hx]
          · intro l hl
            show S3.2 (97 + l) = _
            rw [e3 _ (by omega)]; exact l2 l hl
          · right
            refine ⟨by simp [sI], G2, ?_, hG2ty, fun v hv => hP v (hGE v (hs1 v hv)) (fun j hj => clMet_sat hG2.1 (hok2.1.2.2 j hj).1 (hall j hj) hv)⟩
            exact hG2.congr e4
          · intro hf
            refine ⟨by simp [sI], ?_⟩
            show cM S 95 gl gr ≤ cM S3 95 gl gr
            rw [e4 gl gr hgl hgr]
            obtain ⟨g1, g0, g2⟩ := hfd hf
            have Fv : FC = 1000000000000000 := rfl
            have W0v : W0 = 2000000000 := rfl
            have g3 := hle2 gr gl hgr hgl
            by_cases hf2 : cM S2 (72 + lv) gl gr < FC
            · have := nn hG2.1 hgl hgr hf2 (by omega)
              omega
            · omega
          · intro v hv ha
            refine ⟨by simp [sI], fun hf => ?_⟩
            have hf : cM S3 95 gl gr < FC := hf
            show v gl - v gr ≤ cM S3 95 gl gr
            rw [e4 gl gr hgl hgr] at hf ⊢
            rcases hEG v hv with h | h
            · exact hG2.1.sat (hs2 v h ha) hgl hgr hf
            · obtain ⟨g1, g0, g2⟩ := hfd h.1
              have Fv : FC = 1000000000000000 := rfl
              have W0v : W0 = 2000000000 := rfl
              have g3 := hle2 gr gl hgr hgl
              have := nn hG2.1 hgl hgr hf (by omega)
              have := h.2 g1
              omega
        · -- a split
          rw [if_neg (nI_pos (by omega)), if_pos (by rw [show (22 : Int32) = nI 22 from rfl, nI_ltI (by omega) (by omega)]; omega), if_neg (nI_bad (by omega) (by omega)), nI_c (by omega)]
          rcases open_c (n := n) (hok2.1.2.2 k hk) hG2.1 with ⟨hm2, -⟩ | ⟨-, ho⟩
          · exact absurd hm2 hm
          rw [bo_some ho]
          have hpre : SPre gl gr cc C P G2 lv S2 := by
            refine ⟨hok2, hG2, hG2ty, hB2, fun v hv ha => hP v (hGE v (hs1 v hv)) ha, ?_⟩
            have : unm (cM S2 (72 + lv)) C cc ≤ unm (cM S (72 + lv)) C cc := unm_mono cc (fun j hj hjm => clMet_mono hE.1 hG2.1 (fun a b ha hb => by have := hle2 a b ha hb; have := hle1 a b ha hb; omega) (hok.1.2.2 j hj).1 hjm)
            omega
          obtain ⟨T, t1, t2, t3, t4, t5, t6⟩ := search_loop (n := n) hn hgl hgr hpre hk hm kr (fun G' T' hT' => by
            rw [← hkr]
            have hl : lv + 1 ≤ 22 := by have := hT'.2.2.2.2.2; omega
            exact ih (lv + 1) G' T' (by omega) hl hT')
          refine ⟨T, t1, s2.trans t2, fun l hl => (t3 l (by omega)).trans (l2 l hl), t4, m2.trans t5, fun v hv ha => ?_⟩
          rcases hEG v hv with h | h
          · exact t6 v (hs2 v h ha) ha
          · exact (h.mono m2).mono t5
