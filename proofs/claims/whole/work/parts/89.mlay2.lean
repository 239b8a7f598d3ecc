/-! LAYING, step by step; all texts laid -/
theorem LI_sym {tb tbA tbB : Tb} {stA stB : List Nat} {kd s : Nat} {ls rs : List Nat} (hw : TbWf tb) (hA : BlOk tb ls tbA stA) (hB : BlOk tbA rs tbB stB) (h3 : kd = 3 → rs = []) (ho1 : OkL (gpush kd s (ls, rs)).1) (ho2 : OkL (gpush kd s (ls, rs)).2) :
    ∃ tbA' stA' tbB' stB', BlOk tb (gpush kd s (ls, rs)).1 tbA' stA' ∧ BlOk tbA' (gpush kd s (ls, rs)).2 tbB' stB' ∧ bs (tbB, if kd = 3 then stA else stB) s = (tbB', if kd = 3 then stA' else stB') ∧ (kd ≠ 3 → stA' = stA) := by
  unfold gpush at *
  by_cases k : kd = 3
  · simp only [if_pos k] at *
    have hr := h3 k
    subst hr
    have e := hB.1 []
    simp only [bl, List.append_nil] at e
    have e1 : tbB = tbA := (congrArg Prod.fst e).symm
    obtain ⟨t2, s2, a1, a2⟩ := hA.cons hw ho1
    refine ⟨t2, s2, t2, [], a1, ⟨fun _ => rfl, rfl, a1.2.2.1, Ext.rf, by simp, by simp, rfl⟩, by rw [e1]; exact a2, fun q => absurd k q⟩
  · simp only [if_neg k] at *
    obtain ⟨t2, s2, a1, a2⟩ := hB.cons hA.2.2.1 ho2
    exact ⟨tbA, stA, t2, s2, hA, a1, a2, fun _ => rfl⟩
theorem LH.of {S0 S : St} {l len i c : Nat} (h : LH S0 l len i c) (k : LK l S0 S) : LH S l len i c := ⟨h.1, h.2.1, h.2.2.1, by rw [k.2 31 l (by omega) (by omega) (by omega) (by omega)]; exact h.2.2.2.1, by rw [k.2 30 _ (by omega) (by omega) (by omega) (by omega)]; exact h.2.2.2.2.1, h.2.2.2.2.2⟩
theorem lay_step {n l len i c : Nat} {S0 S : St} {tb : Tb} {g g2 : Gs} {m : List Int32} {k : St → Int32 → Int32 → Option (Unit × St)} (hn : 64 ≤ n) (hw : TbWf tb) (h10 : tb.1 ≤ 10) (hh : LH S0 l len i c) (hok : Gok g i) (har : Gar g) (he : gstep g c = some g2) (hw2 : g2.1.1 ≠ 3) (hm : m.length ≤ i) (h : LI tb l S0 S g m) :
    ∃ S' m', f_X9_layLiteral_4 n (nI l) k S (nI m.length) (nI i) = k S' (nI m'.length) (nI (i + 1)) ∧ m'.length ≤ i + 1 ∧ LI tb l S0 S' g2 m' := by
  have har2 := har.step hok he
  obtain ⟨⟨w, br, kd⟩, ⟨ls, rs⟩, ng, nm⟩ := g
  obtain ⟨tbA, stA, tbB, stB, hA, hB, hM, hX, hS, h38, hL⟩ := h
  have hi40 : i < 40 := by have := hh.2.1; have := hh.2.2.1; omega
  have hs := hh.of hL
  have k2 := hok.2.1
  have k3 := hok.2.2.2.2.2.2.2.2.2.1
  have k6 := hok.2.2.2.2.2.1
  have k9 := hok.2.2.2.2.2.2.2.2.1
  dsimp only at hA hB hX h38 k2 k3 k6 k9
  have hlA := hA.2.2.2.2.2.1
  have hlB := hB.2.2.2.2.2.1
  have hBn : kd = 3 → tbB = tbA ∧ stB = [] := fun q => by
    have hr := k3 q
    subst hr
    have e := hB.1 []
    simp only [bl, List.append_nil] at e
    exact ⟨(congrArg Prod.fst e).symm, (congrArg Prod.snd e).symm⟩
  have hcur : ∀ x ∈ (if kd = 3 then stA else stB), x < tbB.1 := by
    by_cases q : kd = 3
    · rw [if_pos q, (hBn q).1]; exact hA.2.2.2.2.1
    · rw [if_neg q]; exact hB.2.2.2.2.1
  -- a symbol on the side that is read
  have sym : ∀ (s w2 : Nat) (br2 : List Nat) (T : St) (m' : List Int32), g2 = ((w2, br2, kd), gpush kd s (ls, rs), ng, nm) → (∀ tb2 st2, bs (tbB, if kd = 3 then stA else stB) s = (tb2, st2) → MT T tb2 ∧ MixT w2 br2 st2 m') → Stz (T.1 40) m' → T.1 38 l = S.1 38 l → LK l S0 T → LI tb l S0 T g2 m' := by
    intro s w2 br2 T m' e1 e2 e3 e4 e5
    subst e1
    obtain ⟨tA, sA, tB, sB, b1, b2, b3, b4⟩ := LI_sym hw hA hB k3 har2.1 har2.2.1
    obtain ⟨c1, c2⟩ := e2 _ _ b3
    refine ⟨tA, sA, tB, sB, b1, b2, c1, c2, e3, fun q => ?_, e5⟩
    obtain ⟨a, a1, a2⟩ := h38 q
    exact ⟨a, (b4 q).trans a1, e4.trans a2⟩
  -- nothing on the side
  have non : ∀ (w2 : Nat) (br2 : List Nat) (T : St) (m' : List Int32), g2 = ((w2, br2, kd), (ls, rs), ng, nm) → MT T tbB → MixT w2 br2 (if kd = 3 then stA else stB) m' → Stz (T.1 40) m' → T.1 38 l = S.1 38 l → LK l S0 T → LI tb l S0 T g2 m' := by
    intro w2 br2 T m' e1 e2 e3 e4 e5 e6
    subst e1
    exact ⟨tbA, stA, tbB, stB, hA, hB, e2, e3, e4, fun q => by obtain ⟨a, a1, a2⟩ := h38 q; exact ⟨a, a1, e5.trans a2⟩, e6⟩
  have st40 : ∀ (x : Int32), Stz ((sI S 40 m.length x).1 40) (x :: m) := fun x => hS.put (fun j hj => by
    have : ¬ j = m.length := by omega
    simp [sI, this]) (by simp [sI])
  unfold gstep at he
  dsimp only at he
  by_cases w0 : w = 0
  · rw [if_pos w0] at he
    have hX0 : Mix br (if kd = 3 then stA else stB) m := by unfold MixT at hX; rw [if_neg (by omega)] at hX; exact hX
    by_cases a1 : 97 ≤ c ∧ c ≤ 101
    · rw [if_pos a1] at he
      refine ⟨sI S 40 m.length (nI (c - 97)), nI (c - 97) :: m, lay_name hs a1 (by omega), by simp; omega, ?_⟩
      refine sym (c - 97) 2 br _ _ (Option.some.inj he).symm (fun tb2 st2 e => ?_) (st40 _) (by simp [sI]) (hL.trans LK.s40)
      rw [bs_name (by omega)] at e
      have x1 : tbB = tb2 := congrArg Prod.fst e
      have x2 : (c - 97) :: (if kd = 3 then stA else stB) = st2 := congrArg Prod.snd e
      rw [← x1, ← x2]
      refine ⟨hM.s40, ?_⟩
      unfold MixT
      rw [if_pos rfl]
      exact ⟨_, _, _, rfl, rfl, hX0⟩
    · rw [if_neg a1] at he
      have fn : ∀ b, b ≤ 1 → ((b = 0 ∧ c = 102) ∨ (b = 1 ∧ c = 103)) → g2 = ((1, b :: br, kd), (ls, rs), ng, nm) → ∃ S' m', f_X9_layLiteral_4 n (nI l) k S (nI m.length) (nI i) = k S' (nI m'.length) (nI (i + 1)) ∧ m'.length ≤ i + 1 ∧ LI tb l S0 S' g2 m' := by
        intro b hb hc e
        refine ⟨_, (if b = 0 then -1 else -2) :: m, lay_fun hs hc (by omega), by simp; omega, ?_⟩
        refine non 1 (b :: br) _ _ e hM.s40 ?_ (st40 _) (by simp [sI]) (hL.trans LK.s40)
        unfold MixT
        rw [if_neg (by decide)]
        simp only [Mix]
        rw [if_neg (by omega)]
        exact ⟨m, rfl, hX0⟩
      by_cases a2 : c = 102
      · rw [if_pos a2] at he; exact fn 0 (by omega) (Or.inl ⟨rfl, a2⟩) (Option.some.inj he).symm
      · rw [if_neg a2] at he
        by_cases a3 : c = 103
        · rw [if_pos a3] at he; exact fn 1 (by omega) (Or.inr ⟨rfl, a3⟩) (Option.some.inj he).symm
        · rw [if_neg a3] at he; cases he
  · rw [if_neg w0] at he
    by_cases w1 : w = 1
    · rw [if_pos w1] at he
      by_cases a1 : c = 40
      · rw [if_pos a1] at he
        refine ⟨S, m, lay_skip hs (Or.inl a1), by omega, ?_⟩
        refine non 0 br S m (Option.some.inj he).symm hM ?_ hS rfl hL
        unfold MixT at hX ⊢
        rw [if_neg (by omega)] at hX ⊢
        exact hX
      · rw [if_neg a1] at he; cases he
    · rw [if_neg w1] at he
      by_cases w2 : w = 2
      · rw [if_pos w2] at he
        unfold MixT at hX
        rw [if_pos w2] at hX
        obtain ⟨t, st', m0, x1, x2, x3⟩ := hX
        have ht : t < tbB.1 := hcur t (by rw [x1]; exact List.mem_cons_self)
        subst x2
        cases br with
        | nil =>
          dsimp only at he
          obtain ⟨y1, y2⟩ := x3
          subst y2
          subst y1
          by_cases kk : kd = 3
          · rw [if_pos kk] at he
            by_cases s3 : gsign c = 3
            · rw [if_pos s3] at he; cases he
            · rw [if_neg s3] at he
              have hc : c = 61 ∨ c = 35 ∨ c = 60 := by
                unfold gsign at s3
                by_cases q1 : c = 61
                · exact Or.inl q1
                · by_cases q2 : c = 35
                  · exact Or.inr (Or.inl q2)
                  · by_cases q3 : c = 60
                    · exact Or.inr (Or.inr q3)
                    · rw [if_neg q1, if_neg q2, if_neg q3] at s3; exact absurd rfl s3
              refine ⟨_, [], lay_sign hs hc, by simp, ?_⟩
              have eg := (Option.some.inj he).symm
              subst eg
              rw [if_pos kk] at x1
              have h40 : S.1 40 0 = nI t := hS.1
              refine ⟨tbA, stA, tbB, stB, hA, hB, hM.s38, ?_, trivial, fun _ => ⟨t, x1, by rw [h40]; simp [sI]⟩, hL.trans LK.s38⟩
              dsimp only
              unfold MixT
              rw [if_neg (by decide), if_neg s3, (hBn kk).2]
              exact ⟨rfl, rfl⟩
          · rw [if_neg kk] at he
            split at he
            · have eg := (Option.some.inj he).symm
              subst eg
              exact absurd rfl hw2
            · cases he
        | cons b r =>
          dsimp only at he
          have hb := k9 b List.mem_cons_self
          by_cases b1 : b = 1
          · rw [if_pos b1] at he
            by_cases a1 : c = 44
            · rw [if_pos a1] at he
              simp only [Mix] at x3
              rw [if_neg (by omega), if_neg (by omega)] at x3
              obtain ⟨m1, y1, y2⟩ := x3
              refine ⟨S, nI t :: m0, lay_skip hs (Or.inr a1), by omega, ?_⟩
              refine non 0 (2 :: r) S _ (Option.some.inj he).symm hM ?_ hS rfl hL
              unfold MixT
              rw [if_neg (by decide), x1]
              simp only [Mix]
              rw [if_pos trivial]
              exact ⟨t, st', m1, rfl, by rw [y1], y2⟩
            · rw [if_neg a1] at he; cases he
          · rw [if_neg b1] at he
            by_cases a1 : c = 41
            · rw [if_pos a1] at he
              subst a1
              by_cases b0 : b = 0
              · rw [if_pos b0] at he
                simp only [Mix] at x3
                rw [if_neg (by omega), if_pos b0] at x3
                obtain ⟨m1, y1, y2⟩ := x3
                subst y1
                simp only [List.length_cons] at hm ⊢
                have z1 : S.1 40 (m1.length + 1) = nI t := hS.1
                have z2 : S.1 40 m1.length = -1 := hS.2.1
                obtain ⟨T, t1, t2, t3⟩ := termOf_m (n := n) (x := (1, t, 0)) hn hM (Or.inl ⟨rfl, ht, rfl⟩) (by omega)
                have t1' : f_X9_termOf n S 1 (S.1 40 (m1.length + 1)) (-2000000001) = some (nI (num tbB (1, t, 0)).2, T) := by rw [z1]; exact t1
                refine ⟨_, nI (num tbB (1, t, 0)).2 :: m1, lay_c1 hs (by omega) (by rw [z2]; decide) t1', by simp; omega, ?_⟩
                have e40 : T.1 40 = S.1 40 := by funext j; exact t3.2 40 j (by omega) (by omega)
                refine sym 5 2 r _ _ (Option.some.inj he).symm (fun tb2 st2 e => ?_) ?_ ?_ ((hL.trans (LK.tk t3)).trans LK.s40)
                · rw [x1, bs_f] at e
                  have q1 := congrArg Prod.fst e
                  have q2 := congrArg Prod.snd e
                  dsimp only at q1 q2
                  rw [← q1, ← q2]
                  refine ⟨t2.s40, ?_⟩
                  unfold MixT
                  rw [if_pos rfl]
                  exact ⟨_, _, _, rfl, rfl, y2⟩
                · exact Stz.put (S := T) (by rw [e40]; exact hS.2.2) (fun j hj => by
                    have : ¬ j = m1.length := by omega
                    simp [sI, this]) (by simp [sI])
                · rw [← t3.2 38 l (by omega) (by omega)]; simp [sI]
              · have b2 : b = 2 := by omega
                rw [if_neg b0] at he
                simp only [Mix] at x3
                rw [if_pos b2] at x3
                obtain ⟨a, st'', m1, y0, y1, y2⟩ := x3
                subst y1
                subst y0
                simp only [List.length_cons] at hm ⊢
                have ha : a < tbB.1 := hcur a (by rw [x1]; exact List.mem_cons_of_mem _ List.mem_cons_self)
                have z1 : S.1 40 (m1.length + 2) = nI t := hS.1
                have z2 : S.1 40 (m1.length + 1) = nI a := hS.2.1
                obtain ⟨T, t1, t2, t3⟩ := termOf_m (n := n) (x := (2, a, t)) hn hM (Or.inr ⟨rfl, ha, ht⟩) (by omega)
                have t1' : f_X9_termOf n S 2 (S.1 40 (m1.length + 1)) (S.1 40 (m1.length + 2)) = some (nI (num tbB (2, a, t)).2, T) := by rw [z1, z2]; exact t1
                refine ⟨_, nI (num tbB (2, a, t)).2 :: m1, lay_c2 hs (by omega) (by rw [z2]; exact nI_pos (by omega)) t1', by simp; omega, ?_⟩
                have e40 : T.1 40 = S.1 40 := by funext j; exact t3.2 40 j (by omega) (by omega)
                refine sym 6 2 r _ _ (Option.some.inj he).symm (fun tb2 st2 e => ?_) ?_ ?_ ((hL.trans (LK.tk t3)).trans LK.s40)
                · rw [x1, bs_g] at e
                  have q1 := congrArg Prod.fst e
                  have q2 := congrArg Prod.snd e
                  dsimp only at q1 q2
                  rw [← q1, ← q2]
                  refine ⟨t2.s40, ?_⟩
                  unfold MixT
                  rw [if_pos rfl]
                  exact ⟨_, _, _, rfl, rfl, y2⟩
                · exact Stz.put (S := T) (by rw [e40]; exact hS.2.2.2) (fun j hj => by
                    have : ¬ j = m1.length := by omega
                    simp [sI, this]) (by simp [sI])
                · rw [← t3.2 38 l (by omega) (by omega)]; simp [sI]
            · rw [if_neg a1] at he; cases he
      · rw [if_neg w2] at he
        split at he
        · have eg := (Option.some.inj he).symm
          subst eg
          exact absurd rfl hw2
        · cases he
def SOk (l : List Nat) : Prop := OkL l ∧ ar l = 1 ∧ l.length ≤ 40
def lay1 (tb : Tb) (ls rs : List Nat) : Tb × Nat × Nat := ((bl rs ((bl ls (tb, [])).1, [])).1, (bl ls (tb, [])).2.headD 0, (bl rs ((bl ls (tb, [])).1, [])).2.headD 0)
theorem one {st : List Nat} (h : st.length = 1) : ∃ a, st = [a] := by
  cases st with
  | nil => simp at h
  | cons a r => cases r with
    | nil => exact ⟨a, rfl⟩
    | cons b q => simp at h
theorem lay1_of {tb tb1 tb2 : Tb} {ls rs : List Nat} {a b : Nat} (hA : BlOk tb ls tb1 [a]) (hB : BlOk tb1 rs tb2 [b]) : lay1 tb ls rs = (tb2, a, b) := by
  unfold lay1
  have e1 := hA.1 []
  have e2 := hB.1 []
  simp only [List.append_nil] at e1 e2
  rw [e1]
  dsimp only
  rw [e2]
  rfl
theorem lay1_ok {tb : Tb} (hw : TbWf tb) {ls rs : List Nat} (hl : SOk ls) (hr : SOk rs) : ∃ tb1 a tb2 b, BlOk tb ls tb1 [a] ∧ BlOk tb1 rs tb2 [b] ∧ lay1 tb ls rs = (tb2, a, b) := by
  obtain ⟨tb1, st1, h1⟩ := bl_ok hw ls hl.1
  obtain ⟨a, rfl⟩ := one (h1.2.1.trans hl.2.1)
  obtain ⟨tb2, st2, h2⟩ := bl_ok h1.2.2.1 rs hr.1
  obtain ⟨b, rfl⟩ := one (h2.2.1.trans hr.2.1)
  exact ⟨tb1, a, tb2, b, h1, h2, lay1_of h1 h2⟩
def Txt (S : St) (l : Nat) (ls rs : List Nat) : Prop := ∃ pg len g, len ≤ 40 ∧ S.1 31 l = nI len ∧ (∀ i, i < len → S.1 30 (40 * l + i) = nI (pg i) ∧ pg i < 127) ∧ grun pg len = some g ∧ g.1.1 = 2 ∧ g.1.2.1 = [] ∧ g.1.2.2 ≠ 3 ∧ g.2.1 = (ls, rs)
theorem Txt.ok {S : St} {l : Nat} {ls rs : List Nat} (h : Txt S l ls rs) : SOk ls ∧ SOk rs := by
  obtain ⟨pg, len, g, h1, -, -, h4, h5, h6, h7, h8⟩ := h
  obtain ⟨a1, a2, -, a4⟩ := grun_ar h4
  have k2 := (grun_ok h4).2.1
  obtain ⟨b1, b2⟩ := a4 h7
  rw [h8] at a1 a2 b1 b2 k2
  dsimp only at a1 a2 b1 b2 k2
  rw [h5, h6] at b2
  exact ⟨⟨a1, b1, by omega⟩, a2, by rw [b2]; rfl, by omega⟩
theorem lay_m {n l : Nat} {S : St} {tb : Tb} {ls rs : List Nat} (hn : 64 ≤ n) (hl : l < 10) (hM : MT S tb) (h10 : tb.1 ≤ 10) (hx : Txt S l ls rs) : ∃ T, f_X9_layLiteral n S (nI l) = some ((), T) ∧ MT T (lay1 tb ls rs).1 ∧ T.1 38 l = nI (lay1 tb ls rs).2.1 ∧ T.1 39 l = nI (lay1 tb ls rs).2.2 ∧ LK l S T := by
  obtain ⟨pg, len, g, h1, h2, h3, h4, h5, h6, h7, h8⟩ := hx
  have hw := hM.1
  unfold f_X9_layLiteral
  simp only [bd]
  refine for_up2' (α := Unit × St) (β := Int32) (f_X9_layLiteral_4 n (nI l)) (fun _ _ _ => none) len (fun i T a => ∃ g m, grun pg i = some g ∧ g.1.1 ≠ 3 ∧ LI tb l S T g m ∧ a = nI m.length ∧ m.length ≤ i) (fun o => ∃ T, o = some ((), T) ∧ MT T (lay1 tb ls rs).1 ∧ T.1 38 l = nI (lay1 tb ls rs).2.1 ∧ T.1 39 l = nI (lay1 tb ls rs).2.2 ∧ LK l S T) ?_ ?_ n 0 S 0 (by omega) (by omega) ⟨g0, [], rfl, by decide, ⟨tb, [], tb, [], ⟨fun _ => rfl, rfl, hw, Ext.rf, by simp, by simp, rfl⟩, ⟨fun _ => rfl, rfl, hw, Ext.rf, by simp, by simp, rfl⟩, hM, ⟨rfl, rfl⟩, trivial, fun q => absurd rfl q, LK.rf⟩, rfl, by simp⟩
  · rintro i T a k hi ⟨g1, m, q1, q2, q3, rfl, q5⟩
    right
    obtain ⟨g2, e1, e2⟩ := grun_pre h4 (by rw [h5]; decide) (i + 1) (by omega)
    have e3 : gstep g1 (pg i) = some g2 := by
      simp only [grun] at e1
      rw [q1] at e1
      exact e1
    obtain ⟨S', m', x1, x2, x3⟩ := lay_step (k := k) hn hw h10 ⟨hl, hi, h1, h2, (h3 i hi).1, (h3 i hi).2⟩ (grun_ok q1) (grun_ar q1) e3 e2 q5 q3
    exact ⟨S', nI m'.length, ⟨g2, m', e1, e2, x3, rfl, x2⟩, x1⟩
  · rintro T a k ⟨g1, m, q1, q2, q3, rfl, q5⟩
    rw [h4] at q1
    cases q1
    obtain ⟨tbA, stA, tbB, stB, hA, hB, hMT, hX, hS, h38, hL⟩ := q3
    obtain ⟨a, a1, a2⟩ := h38 h7
    rw [h5, h6, if_neg h7] at hX
    unfold MixT at hX
    rw [if_pos rfl] at hX
    obtain ⟨t, st', m0, x1, x2, x3⟩ := hX
    obtain ⟨y1, y2⟩ := x3
    subst y1 y2 x2
    rw [h8] at hA hB
    rw [a1] at hA
    rw [x1] at hB
    have e1 := lay1_of hA hB
    rw [lay_end hl h1 (by rw [hL.2 31 l (by omega) (by omega) (by omega) (by omega)]; exact h2)]
    have h40 : T.1 40 0 = nI t := hS.1
    refine ⟨_, rfl, by rw [e1]; exact hMT.s39, ?_, by rw [e1, h40]; simp [sI], hL.trans LK.s39⟩
    rw [e1]
    dsimp only
    rw [← a2]; simp [sI]
