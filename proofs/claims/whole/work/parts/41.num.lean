/-! NUMBERS: places in tables, sums that do not wrap, loops that count up -/
theorem ix10 {i j : Nat} (hi : i < 10) (hj : j < 10) : ((nI i * (10 : Int32)) + nI j) = nI (i * 10 + j) := by
  rw [show (10 : Int32) = nI 10 from rfl, pk_mul, nI_add]
theorem nI_bad {i N : Nat} (hi : i < N) (hN : N < 2 ^ 31) : ¬ (nI i < 0 ∨ N ≤ (nI i).toNatClampNeg) := nI_in hi hN
theorem nI_c {i : Nat} (hi : i < 2 ^ 31) : (nI i).toNatClampNeg = i := nI_clamp hi
theorem l_add {a b : Int64} (h1 : -4611686018427387904 ≤ a.toInt + b.toInt) (h2 : a.toInt + b.toInt ≤ 4611686018427387904) : (a + b).toInt = a.toInt + b.toInt := by
  rw [Int64.toInt_add]; exact Int.bmod_eq_of_le (by omega) (by omega)
theorem l_sub {a b : Int64} (h1 : -4611686018427387904 ≤ a.toInt - b.toInt) (h2 : a.toInt - b.toInt ≤ 4611686018427387904) : (a - b).toInt = a.toInt - b.toInt := by
  rw [Int64.toInt_sub]; exact Int.bmod_eq_of_le (by omega) (by omega)
theorem l_neg {a : Int64} (h1 : -4611686018427387904 ≤ a.toInt) (h2 : a.toInt ≤ 4611686018427387904) : (-a).toInt = -a.toInt := by
  rw [Int64.toInt_neg]; exact Int.bmod_eq_of_le (by omega) (by omega)
theorem c_lt {a b : Int64} : lg_cmp a b < 0 ↔ a.toInt < b.toInt := by rw [lg_cmp_lt, Int64.lt_iff_toInt_lt]
theorem c_le {a b : Int64} : lg_cmp a b ≤ 0 ↔ a.toInt ≤ b.toInt := by rw [lg_cmp_le, Int64.le_iff_toInt_le]
theorem c_gt {a b : Int64} : 0 < lg_cmp a b ↔ b.toInt < a.toInt := by rw [lg_cmp_gt, Int64.lt_iff_toInt_lt]
theorem c_ge {a b : Int64} : 0 ≤ lg_cmp a b ↔ b.toInt ≤ a.toInt := by rw [lg_cmp_ge, Int64.le_iff_toInt_le]
theorem c_eq {a b : Int64} : lg_cmp a b = 0 ↔ a.toInt = b.toInt := by rw [lg_cmp_eq, Int64.toInt_inj]
theorem i2l (x : Int32) : (x.toInt64).toInt = x.toInt := by simp
/-- a loop that counts up, with what it keeps in the state alone -/
theorem for_up {α : Type} (b : (St → Int32 → Option α) → St → Int32 → Option α) (bot : St → Int32 → Option α) (e : Nat) (I : Nat → St → Prop) (Q : Option α → Prop)
    (step : ∀ (i : Nat) (S : St) (k : St → Int32 → Option α), i < e → I i S → Q (b k S (nI i)) ∨ ∃ S', I (i + 1) S' ∧ b k S (nI i) = k S' (nI (i + 1)))
    (stop : ∀ (S : St) (k : St → Int32 → Option α), I e S → Q (b k S (nI e))) : ∀ (d i : Nat) (S : St), i ≤ e → e - i < d → I i S → Q (fixF bot b d S (nI i)) := by
  intro d
  induction d with
  | zero => intro i S _ h; omega
  | succ d ih =>
    intro i S hi hd hI
    show Q (b (fixF bot b d) S (nI i))
    by_cases h : i = e
    · subst h; exact stop S _ hI
    · rcases step i S (fixF bot b d) (by omega) hI with h1 | ⟨S', h1, h2⟩
      · exact h1
      · rw [h2]; exact ih (i + 1) S' (by omega) (by omega) h1
/-- the same with a second number, behind the counter -/
theorem for_up2 {α β : Type} (b : (St → Int32 → β → Option α) → St → Int32 → β → Option α) (bot : St → Int32 → β → Option α) (e : Nat) (I : Nat → St → β → Prop) (Q : Option α → Prop)
    (step : ∀ (i : Nat) (S : St) (a : β) (k : St → Int32 → β → Option α), i < e → I i S a → Q (b k S (nI i) a) ∨ ∃ S' a', I (i + 1) S' a' ∧ b k S (nI i) a = k S' (nI (i + 1)) a')
    (stop : ∀ (S : St) (a : β) (k : St → Int32 → β → Option α), I e S a → Q (b k S (nI e) a)) : ∀ (d i : Nat) (S : St) (a : β), i ≤ e → e - i < d → I i S a → Q (fixF bot b d S (nI i) a) := by
  intro d
  induction d with
  | zero => intro i S a _ h; omega
  | succ d ih =>
    intro i S a hi hd hI
    show Q (b (fixF bot b d) S (nI i) a)
    by_cases h : i = e
    · subst h; exact stop S a _ hI
    · rcases step i S a (fixF bot b d) (by omega) hI with h1 | ⟨S', a', h1, h2⟩
      · exact h1
      · rw [h2]; exact ih (i + 1) S' a' (by omega) (by omega) h1
/-- the same with a second number ahead of the counter -/
theorem for_up2' {α β : Type} (b : (St → β → Int32 → Option α) → St → β → Int32 → Option α) (bot : St → β → Int32 → Option α) (e : Nat) (I : Nat → St → β → Prop) (Q : Option α → Prop)
    (step : ∀ (i : Nat) (S : St) (a : β) (k : St → β → Int32 → Option α), i < e → I i S a → Q (b k S a (nI i)) ∨ ∃ S' a', I (i + 1) S' a' ∧ b k S a (nI i) = k S' a' (nI (i + 1)))
    (stop : ∀ (S : St) (a : β) (k : St → β → Int32 → Option α), I e S a → Q (b k S a (nI e))) : ∀ (d i : Nat) (S : St) (a : β), i ≤ e → e - i < d → I i S a → Q (fixF bot b d S a (nI i)) := by
  intro d
  induction d with
  | zero => intro i S a _ h; omega
  | succ d ih =>
    intro i S a hi hd hI
    show Q (b (fixF bot b d) S a (nI i))
    by_cases h : i = e
    · subst h; exact stop S a _ hI
    · rcases step i S a (fixF bot b d) (by omega) hI with h1 | ⟨S', a', h1, h2⟩
      · exact h1
      · rw [h2]; exact ih (i + 1) S' a' (by omega) (by omega) h1
