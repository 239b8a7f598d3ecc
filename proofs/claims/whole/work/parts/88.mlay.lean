/-! A LITERAL'S TEXT LAID by the reference: its stack holds numbers of terms and signs of f, g -/
def Stz (f : Nat → Int32) : List Int32 → Prop
  | [] => True
  | x :: r => f r.length = x ∧ Stz f r
theorem Stz.congr {f g : Nat → Int32} : ∀ {l : List Int32}, Stz f l → (∀ i, i < l.length → g i = f i) → Stz g l
  | [], _, _ => trivial
  | x :: r, h, e => ⟨by rw [e _ (by simp)]; exact h.1, Stz.congr h.2 (fun i hi => e i (by simp; omega))⟩
theorem Stz.put {S T : St} {l : List Int32} {x : Int32} (h : Stz (S.1 40) l) (e : ∀ i, i < l.length → T.1 40 i = S.1 40 i) (e1 : T.1 40 l.length = x) : Stz (T.1 40) (x :: l) := ⟨e1, h.congr e⟩
def Mix : List Nat → List Nat → List Int32 → Prop
  | [], st, m => st = [] ∧ m = []
  | b :: r, st, m => if b = 2 then ∃ a st' m', st = a :: st' ∧ m = nI a :: (-2) :: m' ∧ Mix r st' m' else ∃ m', m = (if b = 0 then -1 else -2) :: m' ∧ Mix r st m'
def MixT (w : Nat) (br st : List Nat) (m : List Int32) : Prop := if w = 2 then ∃ t st' m', st = t :: st' ∧ m = nI t :: m' ∧ Mix br st' m' else Mix br st m
/-- a character of a literal's text -/
def LH (S : St) (l len i c : Nat) : Prop := l < 10 ∧ i < len ∧ len ≤ 40 ∧ S.1 31 l = nI len ∧ S.1 30 (40 * l + i) = nI c ∧ c < 127
theorem ix40 {l i : Nat} : ((40 : Int32) * nI l) + nI i = nI (40 * l + i) := by rw [show (40 : Int32) = nI 40 from rfl, pk_mul, nI_add]
theorem lay_name {n l len i c m : Nat} {S : St} {k : St → Int32 → Int32 → Option (Unit × St)} (h : LH S l len i c) (hc : 97 ≤ c ∧ c ≤ 101) (hm : m < 40) : f_X9_layLiteral_4 n (nI l) k S (nI m) (nI i) = k (sI S 40 m (nI (c - 97))) (nI (m + 1)) (nI (i + 1)) := by
  obtain ⟨h1, h2, h3, h4, h5, h6⟩ := h
  unfold f_X9_layLiteral_4 f_X9_layLiteral_228
  rw [if_neg (nI_bad h1 (by omega)), nI_c (by omega), h4, if_neg (by rw [nI_leI (by omega) (by omega)]; omega), ix40, if_neg (nI_bad (by omega) (by omega)), nI_c (by omega), h5]
  simp only [bd]
  rw [show (97 : Int32) = nI 97 from rfl, show (101 : Int32) = nI 101 from rfl, bo_some (within_m (by omega) (by omega) (by omega)), if_pos hc, if_neg (by decide), if_neg (nI_bad hm (by omega)), nI_c (by omega), nI_sub hc.1, nI_1, nI_1]
theorem lay_other {n l len i c m : Nat} {S : St} {k : St → Int32 → Int32 → Option (Unit × St)} (h : LH S l len i c) (hc : ¬ (97 ≤ c ∧ c ≤ 101)) : f_X9_layLiteral_4 n (nI l) k S (nI m) (nI i) =
    (if c = 102 then f_X9_layLiteral_70 n (nI l) k S (nI m) (nI i) (nI c) else if c = 103 then f_X9_layLiteral_70 n (nI l) k S (nI m) (nI i) (nI c) else if c = 41 then (if (nI m - (2 : Int32)) < 0 ∨ 40 ≤ ((nI m - (2 : Int32))).toNatClampNeg then none else if (S.1 40 ((nI m - (2 : Int32))).toNatClampNeg) < 0 then f_X9_layLiteral_118 n (nI l) k S (nI m) (nI i) (0 : Int32) else f_X9_layLiteral_118 n (nI l) k S (nI m) (nI i) (1 : Int32)) else if c = 61 ∨ c = 35 ∨ c = 60 then f_X9_layLiteral_214 n (nI l) k S (nI i) else k S (nI m) (nI (i + 1))) := by
  obtain ⟨h1, h2, h3, h4, h5, h6⟩ := h
  unfold f_X9_layLiteral_4
  rw [if_neg (nI_bad h1 (by omega)), nI_c (by omega), h4, if_neg (by rw [nI_leI (by omega) (by omega)]; omega), ix40, if_neg (nI_bad (by omega) (by omega)), nI_c (by omega), h5]
  simp only [bd]
  rw [show (97 : Int32) = nI 97 from rfl, show (101 : Int32) = nI 101 from rfl, bo_some (within_m (by omega) (by omega) (by omega)), if_neg hc, if_pos rfl]
  have q : ∀ d : Nat, d < 127 → ((nI c = nI d) ↔ c = d) := fun d hd => nq h6 hd
  by_cases c1 : c = 102
  · rw [if_pos (show nI c = (102 : Int32) by rw [c1]; rfl), if_pos c1]
  · rw [if_neg (fun hq : nI c = (102 : Int32) => c1 ((q 102 (by omega)).mp hq)), if_neg c1]
    by_cases c2 : c = 103
    · rw [if_pos (show nI c = (103 : Int32) by rw [c2]; rfl), if_pos c2]
    · rw [if_neg (fun hq : nI c = (103 : Int32) => c2 ((q 103 (by omega)).mp hq)), if_neg c2]
      by_cases c3 : c = 41
      · rw [if_pos (show nI c = (41 : Int32) by rw [c3]; rfl), if_pos c3]
      · rw [if_neg (fun hq : nI c = (41 : Int32) => c3 ((q 41 (by omega)).mp hq)), if_neg c3]
        by_cases c4 : c = 61
        · rw [if_pos (show nI c = (61 : Int32) by rw [c4]; rfl), if_pos (Or.inl c4)]
        · rw [if_neg (fun hq : nI c = (61 : Int32) => c4 ((q 61 (by omega)).mp hq))]
          by_cases c5 : c = 35
          · rw [if_pos (show nI c = (35 : Int32) by rw [c5]; rfl), if_pos (Or.inr (Or.inl c5))]
          · rw [if_neg (fun hq : nI c = (35 : Int32) => c5 ((q 35 (by omega)).mp hq))]
            by_cases c6 : c = 60
            · rw [if_pos (show nI c = (60 : Int32) by rw [c6]; rfl), if_pos (Or.inr (Or.inr c6))]
            · rw [if_neg (fun hq : nI c = (60 : Int32) => c6 ((q 60 (by omega)).mp hq)), if_neg (by omega)]
              unfold f_X9_layLiteral_228
              simp only [bd]
              rw [nI_1]
theorem lay_fun {n l len i c m b : Nat} {S : St} {k : St → Int32 → Int32 → Option (Unit × St)} (h : LH S l len i c) (hc : (b = 0 ∧ c = 102) ∨ (b = 1 ∧ c = 103)) (hm : m < 40) : f_X9_layLiteral_4 n (nI l) k S (nI m) (nI i) = k (sI S 40 m (if b = 0 then -1 else -2)) (nI (m + 1)) (nI (i + 1)) := by
  rw [lay_other h (by omega)]
  unfold f_X9_layLiteral_70 f_X9_layLiteral_88 f_X9_layLiteral_228
  simp only [bd]
  rw [if_neg (nI_bad hm (by omega)), nI_c (by omega), nI_1, nI_1]
  rcases hc with ⟨rfl, rfl⟩ | ⟨rfl, rfl⟩
  · rw [if_pos rfl, if_pos (show nI 102 = (102 : Int32) from rfl), if_pos rfl]
  · rw [if_neg (by decide), if_pos rfl, if_neg (show ¬ nI 103 = (102 : Int32) by decide), if_neg (nI_g hm (by omega)), if_neg (by decide)]
theorem lay_skip {n l len i c m : Nat} {S : St} {k : St → Int32 → Int32 → Option (Unit × St)} (h : LH S l len i c) (hc : c = 40 ∨ c = 44) : f_X9_layLiteral_4 n (nI l) k S (nI m) (nI i) = k S (nI m) (nI (i + 1)) := by
  rw [lay_other h (by omega), if_neg (by omega), if_neg (by omega), if_neg (by omega), if_neg (by omega)]
theorem lay_sign {n l len i c m : Nat} {S : St} {k : St → Int32 → Int32 → Option (Unit × St)} (h : LH S l len i c) (hc : c = 61 ∨ c = 35 ∨ c = 60) : f_X9_layLiteral_4 n (nI l) k S (nI m) (nI i) = k (sI S 38 l (S.1 40 0)) (nI 0) (nI (i + 1)) := by
  have h1 := h.1
  rw [lay_other h (by omega), if_neg (by omega), if_neg (by omega), if_neg (by omega), if_pos hc]
  unfold f_X9_layLiteral_214 f_X9_layLiteral_228
  rw [if_neg (by decide), if_neg (nI_bad h1 (by omega)), nI_c (by omega)]
  simp only [bd]
  rw [nI_1]
  rfl
theorem c1_e2 {m : Nat} : nI (m + 2) - (2 : Int32) = nI m := by rw [show (2 : Int32) = nI 2 from rfl, nI_sub (by omega)]; congr 1
theorem c1_e1 {m : Nat} : nI (m + 2) - (1 : Int32) = nI (m + 1) := nI_pred (m + 1)
theorem lay_164 {n l i m : Nat} {T : St} {v z : Int32} {k : St → Int32 → Int32 → Option (Unit × St)} (hm : m + 2 ≤ 40) (hz : z = 0) : f_X9_layLiteral_164 n (nI l) k T (nI (m + 2)) (nI i) z v = k (sI T 40 m v) (nI (m + 1)) (nI (i + 1)) := by
  unfold f_X9_layLiteral_164 f_X9_layLiteral_177 f_X9_layLiteral_228
  simp only [bd]
  rw [if_pos hz, c1_e2, if_neg (nI_bad (by omega) (by omega)), nI_c (by omega), nI_1, nI_1]
theorem lay_118 {n l i m : Nat} {S T : St} {v z : Int32} {k : St → Int32 → Int32 → Option (Unit × St)} (hm : m + 2 ≤ 40) (hz : z = 0) (ht : f_X9_termOf n S 1 (S.1 40 (m + 1)) (-2000000001) = some (v, T)) : f_X9_layLiteral_118 n (nI l) k S (nI (m + 2)) (nI i) z = k (sI T 40 m v) (nI (m + 1)) (nI (i + 1)) := by
  unfold f_X9_layLiteral_118
  generalize (-2000000001 : Int32) = N1 at ht ⊢
  simp only [bd]
  rw [if_pos hz, c1_e1, if_neg (nI_bad (by omega) (by omega)), nI_c (by omega), bo_some ht]
  exact lay_164 hm hz
theorem lay_c1a {n l len i m : Nat} {S : St} {k : St → Int32 → Int32 → Option (Unit × St)} (h : LH S l len i 41) (hm : m + 2 ≤ 40) (hs : S.1 40 m < 0) : f_X9_layLiteral_4 n (nI l) k S (nI (m + 2)) (nI i) = f_X9_layLiteral_118 n (nI l) k S (nI (m + 2)) (nI i) 0 := by
  rw [lay_other h (by omega), if_neg (show ¬ ((41 : Nat) = 102) by omega), if_neg (show ¬ ((41 : Nat) = 103) by omega), if_pos rfl, c1_e2, if_neg (nI_bad (by omega) (by omega)), nI_c (by omega), if_pos hs]
theorem lay_c1 {n l len i m : Nat} {S T : St} {v : Int32} {k : St → Int32 → Int32 → Option (Unit × St)} (h : LH S l len i 41) (hm : m + 2 ≤ 40) (hs : S.1 40 m < 0) (ht : f_X9_termOf n S 1 (S.1 40 (m + 1)) (-2000000001) = some (v, T)) : f_X9_layLiteral_4 n (nI l) k S (nI (m + 2)) (nI i) = k (sI T 40 m v) (nI (m + 1)) (nI (i + 1)) := (lay_c1a h hm hs).trans (lay_118 hm rfl ht)
theorem lay_c2 {n l len i m : Nat} {S T : St} {v : Int32} {k : St → Int32 → Int32 → Option (Unit × St)} (h : LH S l len i 41) (hm : m + 3 ≤ 40) (hs : ¬ S.1 40 (m + 1) < 0) (ht : f_X9_termOf n S 2 (S.1 40 (m + 1)) (S.1 40 (m + 2)) = some (v, T)) : f_X9_layLiteral_4 n (nI l) k S (nI (m + 3)) (nI i) = k (sI T 40 m v) (nI (m + 1)) (nI (i + 1)) := by
  have e3 : nI (m + 3) - (3 : Int32) = nI m := by rw [show (3 : Int32) = nI 3 from rfl, nI_sub (by omega)]; rfl
  have e2 : nI (m + 3) - (2 : Int32) = nI (m + 1) := by rw [show (2 : Int32) = nI 2 from rfl, nI_sub (by omega)]; rfl
  have e1 : nI (m + 3) - (1 : Int32) = nI (m + 2) := nI_pred (m + 2)
  rw [lay_other h (by omega), if_neg (by decide), if_neg (by decide), if_pos rfl, e2, if_neg (nI_bad (by omega) (by omega)), nI_c (by omega), if_neg hs]
  unfold f_X9_layLiteral_118 f_X9_layLiteral_164 f_X9_layLiteral_177 f_X9_layLiteral_228
  simp only [bd]
  rw [if_neg (by decide), e2, if_neg (nI_bad (by omega) (by omega)), e1, if_neg (nI_bad (by omega) (by omega)), nI_c (by omega), nI_c (by omega), bo_some ht, if_neg (by decide), e3, if_neg (nI_bad (by omega) (by omega)), nI_c (by omega), nI_1, nI_1]
theorem lay_end {n l len m : Nat} {S : St} {k : St → Int32 → Int32 → Option (Unit × St)} (hl : l < 10) (h40 : len ≤ 40) (h31 : S.1 31 l = nI len) : f_X9_layLiteral_4 n (nI l) k S (nI m) (nI len) = some ((), sI S 39 l (S.1 40 0)) := by
  unfold f_X9_layLiteral_4
  rw [if_neg (nI_bad hl (by omega)), nI_c (by omega), h31, if_pos (by rw [nI_leI (by omega) (by omega)]; omega), if_neg (by decide), if_neg (nI_g hl (by omega))]
  simp only [bd]
  rfl
/-! the loop -/
def LK (l : Nat) (S T : St) : Prop := T.2 = S.2 ∧ ∀ c j, ¬ (c = 28 ∧ j = 18) → ¬ (35 ≤ c ∧ c ≤ 37) → c ≠ 40 → ¬ ((c = 38 ∨ c = 39) ∧ j = l) → T.1 c j = S.1 c j
theorem LK.rf {l : Nat} {S : St} : LK l S S := ⟨rfl, fun _ _ _ _ _ _ => rfl⟩
theorem LK.trans {l : Nat} {S T V : St} (h : LK l S T) (g : LK l T V) : LK l S V := ⟨g.1.trans h.1, fun c j a b d e => (g.2 c j a b d e).trans (h.2 c j a b d e)⟩
theorem LK.tk {l : Nat} {S T : St} (h : TK S T) : LK l S T := ⟨h.1, fun c j a b _ _ => h.2 c j a b⟩
theorem LK.s40 {l k : Nat} {S : St} {v : Int32} : LK l S (sI S 40 k v) := ⟨rfl, fun c j _ _ d _ => by simp [sI, d]⟩
theorem LK.s38 {l : Nat} {S : St} {v : Int32} : LK l S (sI S 38 l v) := ⟨rfl, fun c j _ _ _ e => by
  have : ¬ (c = 38 ∧ j = l) := by omega
  simp [sI, this]⟩
theorem LK.s39 {l : Nat} {S : St} {v : Int32} : LK l S (sI S 39 l v) := ⟨rfl, fun c j _ _ _ e => by
  have : ¬ (c = 39 ∧ j = l) := by omega
  simp [sI, this]⟩
theorem MT.s40 {S : St} {tb : Tb} {k : Nat} {v : Int32} (h : MT S tb) : MT (sI S 40 k v) tb := h.keep (by simp [sI]) (by funext j; simp [sI]) (by funext j; simp [sI]) (by funext j; simp [sI])
theorem MT.s38 {S : St} {tb : Tb} {k : Nat} {v : Int32} (h : MT S tb) : MT (sI S 38 k v) tb := h.keep (by simp [sI]) (by funext j; simp [sI]) (by funext j; simp [sI]) (by funext j; simp [sI])
theorem MT.s39 {S : St} {tb : Tb} {k : Nat} {v : Int32} (h : MT S tb) : MT (sI S 39 k v) tb := h.keep (by simp [sI]) (by funext j; simp [sI]) (by funext j; simp [sI]) (by funext j; simp [sI])
/-- where the laying is, behind the characters that were read as g -/
def LI (tb : Tb) (l : Nat) (S0 S : St) (g : Gs) (m : List Int32) : Prop := ∃ tbA stA tbB stB, BlOk tb g.2.1.1 tbA stA ∧ BlOk tbA g.2.1.2 tbB stB ∧ MT S tbB ∧ MixT g.1.1 g.1.2.1 (if g.1.2.2 = 3 then stA else stB) m ∧ Stz (S.1 40) m ∧ (g.1.2.2 ≠ 3 → ∃ a, stA = [a] ∧ S.1 38 l = nI a) ∧ LK l S0 S
