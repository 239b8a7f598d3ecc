/-! TABLES OF TERMS: what is looked up or added; what symbols behind their arguments build -/
abbrev Tb : Type := Nat × (Nat → Nat × Nat × Nat)
def fnd (f : Nat → Nat × Nat × Nat) (x : Nat × Nat × Nat) : Nat → Option Nat
  | 0 => none
  | n + 1 => match fnd f x n with
    | some t => some t
    | none => if 5 ≤ n ∧ f n = x then some n else none
theorem fnd_none {f : Nat → Nat × Nat × Nat} {x : Nat × Nat × Nat} : ∀ {n : Nat}, fnd f x n = none → ∀ j, 5 ≤ j → j < n → f j ≠ x
  | 0, _, j, _, hj => absurd hj (Nat.not_lt_zero _)
  | n + 1, h, j, h5, hj => by
    simp only [fnd] at h
    cases e : fnd f x n with
    | some u => rw [e] at h; cases h
    | none =>
      rw [e] at h
      dsimp only at h
      by_cases c : 5 ≤ n ∧ f n = x
      · rw [if_pos c] at h; cases h
      · by_cases ej : j = n
        · subst ej; exact fun q => c ⟨h5, q⟩
        · exact fnd_none e j h5 (by omega)
theorem fnd_some {f : Nat → Nat × Nat × Nat} {x : Nat × Nat × Nat} : ∀ {n t : Nat}, fnd f x n = some t → 5 ≤ t ∧ t < n ∧ f t = x ∧ ∀ j, 5 ≤ j → j < t → f j ≠ x
  | 0, t, h => by cases h
  | n + 1, t, h => by
    simp only [fnd] at h
    cases e : fnd f x n with
    | some u =>
      rw [e] at h; cases h
      obtain ⟨a, b, c, d⟩ := fnd_some e
      exact ⟨a, by omega, c, d⟩
    | none =>
      rw [e] at h
      dsimp only at h
      by_cases c : 5 ≤ n ∧ f n = x
      · rw [if_pos c] at h; cases h
        exact ⟨c.1, by omega, c.2, fun j h5 hj => fnd_none e j h5 hj⟩
      · rw [if_neg c] at h; cases h
theorem fnd_eq {f : Nat → Nat × Nat × Nat} {x : Nat × Nat × Nat} {n t : Nat} (h5 : 5 ≤ t) (ht : t < n) (hx : f t = x) (hb : ∀ j, 5 ≤ j → j < t → f j ≠ x) : fnd f x n = some t := by
  cases e : fnd f x n with
  | none => exact absurd hx (fnd_none e t h5 ht)
  | some u =>
    obtain ⟨a, b, c, d⟩ := fnd_some e
    have : ¬ u < t := fun q => hb u a q c
    have : ¬ t < u := fun q => d t h5 q hx
    congr 1; omega
theorem fnd_no {f : Nat → Nat × Nat × Nat} {x : Nat × Nat × Nat} {n : Nat} (h : ∀ j, 5 ≤ j → j < n → f j ≠ x) : fnd f x n = none := by
  cases e : fnd f x n with
  | none => rfl
  | some u => obtain ⟨a, b, c, d⟩ := fnd_some e; exact absurd c (h u a b)
def pushT (tb : Tb) (x : Nat × Nat × Nat) : Tb := (tb.1 + 1, fun i => if i = tb.1 then x else tb.2 i)
def num (tb : Tb) (x : Nat × Nat × Nat) : Tb × Nat := match fnd tb.2 x tb.1 with
  | some t => (tb, t)
  | none => (pushT tb x, tb.1)
theorem num_old {tb : Tb} {x : Nat × Nat × Nat} {t : Nat} (h : fnd tb.2 x tb.1 = some t) : num tb x = (tb, t) := by unfold num; rw [h]
theorem num_new {tb : Tb} {x : Nat × Nat × Nat} (h : fnd tb.2 x tb.1 = none) : num tb x = (pushT tb x, tb.1) := by unfold num; rw [h]
def EOk (n : Nat) (x : Nat × Nat × Nat) : Prop := (x.1 = 1 ∧ x.2.1 < n ∧ x.2.2 = 0) ∨ (x.1 = 2 ∧ x.2.1 < n ∧ x.2.2 < n)
def TbWf (tb : Tb) : Prop := 5 ≤ tb.1 ∧ (∀ t, t < 5 → (tb.2 t).1 = 0) ∧ (∀ t, 5 ≤ t → t < tb.1 → EOk t (tb.2 t)) ∧ ∀ t u, 5 ≤ t → t < tb.1 → 5 ≤ u → u < tb.1 → tb.2 t = tb.2 u → t = u
def Ext (tb tb2 : Tb) : Prop := tb.1 ≤ tb2.1 ∧ ∀ t, t < tb.1 → tb2.2 t = tb.2 t
theorem Ext.rf {tb : Tb} : Ext tb tb := ⟨Nat.le_refl _, fun _ _ => rfl⟩
theorem Ext.trans {a b c : Tb} (h : Ext a b) (g : Ext b c) : Ext a c := ⟨Nat.le_trans h.1 g.1, fun t ht => (g.2 t (Nat.lt_of_lt_of_le ht h.1)).trans (h.2 t ht)⟩
theorem EOk.lt {n : Nat} {x : Nat × Nat × Nat} (h : EOk n x) (h0 : 0 < n) : x.2.1 < n ∧ x.2.2 < n := by
  rcases h with ⟨_, a, b⟩ | ⟨_, a, b⟩
  · exact ⟨a, by omega⟩
  · exact ⟨a, b⟩
theorem EOk.mono {n m : Nat} {x : Nat × Nat × Nat} (h : EOk n x) (hm : n ≤ m) : EOk m x := by
  rcases h with ⟨k, a, b⟩ | ⟨k, a, b⟩
  · exact Or.inl ⟨k, by omega, b⟩
  · exact Or.inr ⟨k, by omega, by omega⟩
def NumOk (tb : Tb) (x : Nat × Nat × Nat) (q : Tb × Nat) : Prop := TbWf q.1 ∧ Ext tb q.1 ∧ 5 ≤ q.2 ∧ q.2 < q.1.1 ∧ q.1.2 q.2 = x ∧ q.1.1 ≤ tb.1 + 1
theorem num_ok {tb : Tb} {x : Nat × Nat × Nat} (hw : TbWf tb) (hx : EOk tb.1 x) : NumOk tb x (num tb x) := by
  cases e : fnd tb.2 x tb.1 with
  | some t =>
    rw [num_old e]
    obtain ⟨a, b, c, -⟩ := fnd_some e
    exact ⟨hw, Ext.rf, a, b, c, Nat.le_succ _⟩
  | none =>
    rw [num_new e]
    obtain ⟨w1, w2, w3, w4⟩ := hw
    have hn := fnd_none e
    refine ⟨⟨?_, fun t ht => ?_, fun t h5 ht => ?_, fun t u h5 ht h5u hu he => ?_⟩, ⟨Nat.le_succ _, fun t ht => ?_⟩, w1, Nat.lt_succ_self _, ?_, Nat.le_refl _⟩
    · show 5 ≤ tb.1 + 1; omega
    · show ((if t = tb.1 then x else tb.2 t)).1 = 0
      rw [if_neg (by omega)]; exact w2 t ht
    · show EOk t (if t = tb.1 then x else tb.2 t)
      have ht' : t < tb.1 + 1 := ht
      by_cases c : t = tb.1
      · rw [if_pos c, c]; exact hx
      · rw [if_neg c]; exact w3 t h5 (by omega)
    · have ht' : t < tb.1 + 1 := ht
      have hu' : u < tb.1 + 1 := hu
      have he' : (if t = tb.1 then x else tb.2 t) = (if u = tb.1 then x else tb.2 u) := he
      by_cases c : t = tb.1
      · by_cases d : u = tb.1
        · omega
        · rw [if_pos c, if_neg d] at he'; exact absurd he'.symm (hn u h5u (by omega))
      · by_cases d : u = tb.1
        · rw [if_neg c, if_pos d] at he'; exact absurd he' (hn t h5 (by omega))
        · rw [if_neg c, if_neg d] at he'; exact w4 t u h5 (by omega) h5u (by omega) he'
    · show (if t = tb.1 then x else tb.2 t) = tb.2 t
      rw [if_neg (by omega)]
    · show (if tb.1 = tb.1 then x else tb.2 tb.1) = x
      rw [if_pos rfl]
/-! what symbols build: lists with the last symbol first -/
def bs (q : Tb × List Nat) (s : Nat) : Tb × List Nat :=
  if s < 5 then (q.1, s :: q.2)
  else if s = 5 then match q.2 with
    | a :: r => ((num q.1 (1, a, 0)).1, (num q.1 (1, a, 0)).2 :: r)
    | [] => q
  else match q.2 with
    | b :: a :: r => ((num q.1 (2, a, b)).1, (num q.1 (2, a, b)).2 :: r)
    | _ => q
def bl : List Nat → Tb × List Nat → Tb × List Nat
  | [], q => q
  | s :: r, q => bs (bl r q) s
theorem bl_app : ∀ (l m : List Nat) (q : Tb × List Nat), bl (l ++ m) q = bl l (bl m q)
  | [], _, _ => rfl
  | s :: r, m, q => by simp only [List.cons_append, bl, bl_app r m q]
theorem bs_name {q : Tb × List Nat} {s : Nat} (h : s < 5) : bs q s = (q.1, s :: q.2) := by unfold bs; rw [if_pos h]
theorem bs_f {tb : Tb} {a : Nat} {r : List Nat} : bs (tb, a :: r) 5 = ((num tb (1, a, 0)).1, (num tb (1, a, 0)).2 :: r) := by
  unfold bs; rw [if_neg (by decide), if_pos rfl]
theorem bs_g {tb : Tb} {a b : Nat} {r : List Nat} : bs (tb, b :: a :: r) 6 = ((num tb (2, a, b)).1, (num tb (2, a, b)).2 :: r) := by
  unfold bs; rw [if_neg (by decide), if_neg (by decide)]
def ar : List Nat → Nat
  | [] => 0
  | s :: r => if s < 5 then ar r + 1 else if s = 5 then ar r else ar r - 1
def OkL : List Nat → Prop
  | [] => True
  | s :: r => OkL r ∧ s ≤ 6 ∧ (s = 5 → 1 ≤ ar r) ∧ (s = 6 → 2 ≤ ar r)
/-- a term written out, its last symbol first -/
def unf (f : Nat → Nat × Nat × Nat) : Nat → Nat → List Nat
  | 0, t => [t]
  | d + 1, t => if t < 5 then [t] else if (f t).1 = 2 then 6 :: (unf f d (f t).2.2 ++ unf f d (f t).2.1) else 5 :: unf f d (f t).2.1
def U (tb : Tb) (t : Nat) : List Nat := unf tb.2 t t
theorem unf_fuel {tb : Tb} (hw : TbWf tb) : ∀ (d t e : Nat), t < tb.1 → t ≤ d → t ≤ e → unf tb.2 d t = unf tb.2 e t := by
  intro d
  induction d with
  | zero =>
    intro t e ht h0 he
    have : t = 0 := by omega
    subst this
    cases e with
    | zero => rfl
    | succ e => simp only [unf]; rw [if_pos (by decide)]
  | succ d ih =>
    intro t e ht h0 he
    cases e with
    | zero =>
      have : t = 0 := by omega
      subst this
      simp only [unf]; rw [if_pos (by decide)]
    | succ e =>
      simp only [unf]
      by_cases c : t < 5
      · rw [if_pos c, if_pos c]
      · rw [if_neg c, if_neg c]
        have hk := (hw.2.2.1 t (by omega) ht).lt (by omega)
        rw [ih (tb.2 t).2.1 e (by omega) (by omega) (by omega), ih (tb.2 t).2.2 e (by omega) (by omega) (by omega)]
theorem U_name {tb : Tb} {t : Nat} (h : t < 5) : U tb t = [t] := by
  unfold U
  cases t with
  | zero => rfl
  | succ t => simp only [unf]; rw [if_pos h]
theorem U_f {tb : Tb} (hw : TbWf tb) {t a : Nat} (h5 : 5 ≤ t) (ht : t < tb.1) (hx : tb.2 t = (1, a, 0)) : U tb t = 5 :: U tb a := by
  have hk := (hw.2.2.1 t h5 ht).lt (by omega)
  rw [hx] at hk
  unfold U
  cases t with
  | zero => omega
  | succ d =>
    simp only [unf]
    rw [if_neg (by omega), hx, if_neg (show ¬ ((1 : Nat) = 2) by decide)]
    rw [unf_fuel hw d a a (by dsimp only at hk; omega) (by dsimp only at hk; omega) (Nat.le_refl _)]
theorem U_g {tb : Tb} (hw : TbWf tb) {t a b : Nat} (h5 : 5 ≤ t) (ht : t < tb.1) (hx : tb.2 t = (2, a, b)) : U tb t = 6 :: (U tb b ++ U tb a) := by
  have hk := (hw.2.2.1 t h5 ht).lt (by omega)
  rw [hx] at hk
  dsimp only at hk
  unfold U
  cases t with
  | zero => omega
  | succ d =>
    simp only [unf]
    rw [if_neg (by omega), hx, if_pos rfl]
    rw [unf_fuel hw d a a (by omega) (by omega) (Nat.le_refl _), unf_fuel hw d b b (by omega) (by omega) (Nat.le_refl _)]
theorem U_ext {tb tb2 : Tb} (hw : TbWf tb) (he : Ext tb tb2) : ∀ (d t : Nat), t < tb.1 → unf tb2.2 d t = unf tb.2 d t := by
  intro d
  induction d with
  | zero => intro t _; rfl
  | succ d ih =>
    intro t ht
    simp only [unf]
    by_cases c : t < 5
    · rw [if_pos c, if_pos c]
    · rw [if_neg c, if_neg c, he.2 t ht]
      have hk := (hw.2.2.1 t (by omega) ht).lt (by omega)
      rw [ih _ (by omega), ih _ (by omega)]
def flat (tb : Tb) : List Nat → List Nat
  | [] => []
  | x :: r => U tb x ++ flat tb r
theorem flat_ext {tb tb2 : Tb} (hw : TbWf tb) (he : Ext tb tb2) : ∀ (st : List Nat), (∀ x ∈ st, x < tb.1) → flat tb2 st = flat tb st
  | [], _ => rfl
  | x :: r, h => by
    simp only [flat]
    rw [flat_ext hw he r (fun y hy => h y (List.mem_cons_of_mem _ hy))]
    unfold U
    rw [U_ext hw he x x (h x List.mem_cons_self)]
def BlOk (tb : Tb) (l : List Nat) (tb2 : Tb) (st2 : List Nat) : Prop := (∀ st, bl l (tb, st) = (tb2, st2 ++ st)) ∧ st2.length = ar l ∧ TbWf tb2 ∧ Ext tb tb2 ∧ (∀ x ∈ st2, x < tb2.1) ∧ tb2.1 ≤ tb.1 + l.length ∧ l = flat tb2 st2
theorem bl_ok {tb : Tb} (hw : TbWf tb) : ∀ (l : List Nat), OkL l → ∃ tb2 st2, BlOk tb l tb2 st2
  | [], _ => ⟨tb, [], fun _ => rfl, rfl, hw, Ext.rf, by simp, by simp, rfl⟩
  | s :: r, h => by
    obtain ⟨h1, h2, h3, h4⟩ := h
    obtain ⟨tb1, st1, a1, a2, a3, a4, a5, a6, a7⟩ := bl_ok hw r h1
    by_cases c1 : s < 5
    · refine ⟨tb1, s :: st1, fun st => ?_, ?_, a3, a4, fun x hx => ?_, ?_, ?_⟩
      · simp only [bl]; rw [a1, bs_name c1]; rfl
      · simp only [ar, List.length_cons]; rw [if_pos c1, a2]
      · simp only [List.mem_cons] at hx
        rcases hx with rfl | hx
        · exact Nat.lt_of_lt_of_le c1 a3.1
        · exact a5 x hx
      · simp only [List.length_cons]; omega
      · simp only [flat]; rw [U_name c1, ← a7]; rfl
    · by_cases c2 : s = 5
      · subst c2
        have hl := h3 rfl
        cases st1 with
        | nil => simp at a2; omega
        | cons a r1 =>
          have ha : a < tb1.1 := a5 a List.mem_cons_self
          obtain ⟨n1, n2, n3, n4, n5, n6⟩ := num_ok a3 (x := (1, a, 0)) (Or.inl ⟨rfl, ha, rfl⟩)
          refine ⟨_, (num tb1 (1, a, 0)).2 :: r1, fun st => ?_, ?_, n1, a4.trans n2, fun x hx => ?_, ?_, ?_⟩
          · simp only [bl]; rw [a1, List.cons_append, bs_f]; rfl
          · simp only [ar, List.length_cons] at a2 ⊢; rw [if_neg c1]; simpa using a2
          · simp only [List.mem_cons] at hx
            rcases hx with rfl | hx
            · exact n4
            · exact Nat.lt_of_lt_of_le (a5 x (List.mem_cons_of_mem _ hx)) n2.1
          · simp only [List.length_cons]; omega
          · simp only [flat] at a7 ⊢
            have e1 : U (num tb1 (1, a, 0)).1 a = U tb1 a := by unfold U; rw [U_ext a3 n2 a a ha]
            rw [U_f n1 n3 n4 n5, flat_ext a3 n2 r1 (fun x hx => a5 x (List.mem_cons_of_mem _ hx)), e1, a7]
            simp
      · have c3 : s = 6 := by omega
        subst c3
        have hl := h4 rfl
        cases st1 with
        | nil => simp at a2; omega
        | cons b r0 =>
          cases r0 with
          | nil => simp at a2; omega
          | cons a r1 =>
            have hb : b < tb1.1 := a5 b List.mem_cons_self
            have ha : a < tb1.1 := a5 a (List.mem_cons_of_mem _ List.mem_cons_self)
            obtain ⟨n1, n2, n3, n4, n5, n6⟩ := num_ok a3 (x := (2, a, b)) (Or.inr ⟨rfl, ha, hb⟩)
            refine ⟨_, (num tb1 (2, a, b)).2 :: r1, fun st => ?_, ?_, n1, a4.trans n2, fun x hx => ?_, ?_, ?_⟩
            · simp only [bl]; rw [a1, List.cons_append, List.cons_append, bs_g]; rfl
            · simp only [ar, List.length_cons] at a2 ⊢; rw [if_neg c1, if_neg c2]; omega
            · simp only [List.mem_cons] at hx
              rcases hx with rfl | hx
              · exact n4
              · exact Nat.lt_of_lt_of_le (a5 x (List.mem_cons_of_mem _ (List.mem_cons_of_mem _ hx))) n2.1
            · simp only [List.length_cons]; omega
            · simp only [flat] at a7 ⊢
              have e1 : U (num tb1 (2, a, b)).1 a = U tb1 a := by unfold U; rw [U_ext a3 n2 a a ha]
              have e2 : U (num tb1 (2, a, b)).1 b = U tb1 b := by unfold U; rw [U_ext a3 n2 b b hb]
              rw [U_g n1 n3 n4 n5, flat_ext a3 n2 r1 (fun x hx => a5 x (List.mem_cons_of_mem _ (List.mem_cons_of_mem _ hx))), e1, e2, a7]
              simp
/-- as many as are apart -/
theorem pig : ∀ (m n : Nat) (f : Nat → Nat), (∀ i, i < n → f i < m) → (∀ i j, i < n → j < n → f i = f j → i = j) → n ≤ m
  | 0, n, f, h, _ => by
    cases n with
    | zero => exact Nat.le_refl _
    | succ n => exact absurd (h 0 (Nat.succ_pos _)) (Nat.not_lt_zero _)
  | m + 1, n, f, h, g => by
    cases n with
    | zero => exact Nat.zero_le _
    | succ k =>
      have := pig m k (fun i => if f i = m then f k else f i) (fun i hi => by
        show (if f i = m then f k else f i) < m
        by_cases c : f i = m
        · rw [if_pos c]
          have h1 := h k (Nat.lt_succ_self _)
          have : f k ≠ m := fun q => by have := g i k (by omega) (by omega) (by omega); omega
          omega
        · rw [if_neg c]; have := h i (by omega); omega) (fun i j hi hj he => by
        by_cases c : f i = m
        · rw [if_pos c] at he
          by_cases d : f j = m
          · exact g i j (by omega) (by omega) (by omega)
          · rw [if_neg d] at he; have := g k j (by omega) (by omega) he; omega
        · rw [if_neg c] at he
          by_cases d : f j = m
          · rw [if_pos d] at he; have := g i k (by omega) (by omega) he; omega
          · rw [if_neg d] at he; exact g i j (by omega) (by omega) he)
      omega
/-- one table lies in another one -/
def Emb (F tb : Tb) (φ : Nat → Nat) : Prop := (∀ i, i < tb.1 → φ i < F.1) ∧ (∀ i j, i < tb.1 → j < tb.1 → φ i = φ j → i = j) ∧ (∀ i, i < 5 → φ i = i) ∧ ∀ i, 5 ≤ i → i < tb.1 → 5 ≤ φ i ∧ F.2 (φ i) = ((tb.2 i).1, φ (tb.2 i).2.1, φ (tb.2 i).2.2)
theorem Emb.le {F tb : Tb} {φ : Nat → Nat} (h : Emb F tb φ) : tb.1 ≤ F.1 := pig _ _ φ h.1 h.2.1
theorem emb_num {F tb : Tb} {φ : Nat → Nat} (hF : TbWf F) (hw : TbWf tb) (h : Emb F tb φ) {k a b t : Nat} (hx : EOk tb.1 (k, a, b)) (h5 : 5 ≤ t) (ht : t < F.1) (he : F.2 t = (k, φ a, φ b)) : ∃ ψ, Emb F (num tb (k, a, b)).1 ψ ∧ ψ (num tb (k, a, b)).2 = t ∧ ∀ i, i < tb.1 → ψ i = φ i := by
  obtain ⟨e1, e2, e3, e4⟩ := h
  have hk := hx.lt (by have := hw.1; omega)
  dsimp only at hk
  cases c : fnd tb.2 (k, a, b) tb.1 with
  | some u =>
    rw [num_old c]
    obtain ⟨a1, a2, a3, -⟩ := fnd_some c
    refine ⟨φ, ⟨e1, e2, e3, e4⟩, ?_, fun _ _ => rfl⟩
    obtain ⟨b1, b2⟩ := e4 u a1 a2
    rw [a3] at b2
    exact hF.2.2.2 _ _ b1 (e1 u a2) h5 ht (b2.trans he.symm)
  | none =>
    rw [num_new c]
    have hn := fnd_none c
    have fresh : ∀ j, j < tb.1 → φ j ≠ t := fun j hj q => by
      by_cases j5 : j < 5
      · rw [e3 j j5] at q; omega
      · obtain ⟨b1, b2⟩ := e4 j (by omega) hj
        rw [q, he] at b2
        have kj := (hw.2.2.1 j (by omega) hj).lt (by omega)
        have x1 : k = (tb.2 j).1 := congrArg Prod.fst b2
        have x2 : φ a = φ (tb.2 j).2.1 := congrArg (fun z => z.2.1) b2
        have x3 : φ b = φ (tb.2 j).2.2 := congrArg (fun z => z.2.2) b2
        have y2 := e2 a _ hk.1 (by omega) x2
        have y3 := e2 b _ hk.2 (by omega) x3
        refine hn j (by omega) hj ?_
        rw [x1, y2, y3]
    have h5t := hw.1
    refine ⟨fun i => if i = tb.1 then t else φ i, ⟨fun i hi => ?_, fun i j hi hj hij => ?_, fun i hi => ?_, fun i hi5 hi => ?_⟩, ?_, fun i hi => ?_⟩
    · have hi' : i < tb.1 + 1 := hi
      dsimp only
      by_cases q : i = tb.1
      · rw [if_pos q]; exact ht
      · rw [if_neg q]; exact e1 i (by omega)
    · have hi' : i < tb.1 + 1 := hi
      have hj' : j < tb.1 + 1 := hj
      dsimp only at hij
      by_cases q : i = tb.1
      · by_cases r : j = tb.1
        · omega
        · rw [if_pos q, if_neg r] at hij; exact absurd hij.symm (fresh j (by omega))
      · by_cases r : j = tb.1
        · rw [if_neg q, if_pos r] at hij; exact absurd hij (fresh i (by omega))
        · rw [if_neg q, if_neg r] at hij; exact e2 i j (by omega) (by omega) hij
    · dsimp only; rw [if_neg (by omega)]; exact e3 i hi
    · have hi' : i < tb.1 + 1 := hi
      have es : (pushT tb (k, a, b)).2 i = if i = tb.1 then (k, a, b) else tb.2 i := rfl
      rw [es]
      dsimp only
      by_cases q : i = tb.1
      · rw [if_pos q, if_pos q]
        dsimp only
        rw [if_neg (by omega), if_neg (by omega)]
        exact ⟨h5, he⟩
      · rw [if_neg q, if_neg q]
        have ki := (hw.2.2.1 i hi5 (by omega)).lt (by omega)
        rw [if_neg (by omega), if_neg (by omega)]
        exact e4 i hi5 (by omega)
    · dsimp only; rw [if_pos rfl]
    · dsimp only; rw [if_neg (by omega)]
