/-! THE PURE SIDE: the state as a function from cells and places to numbers; what the generated functions are made of -/
abbrev St : Type := (Nat → Nat → Int32) × (Nat → Nat → Int64)
def sI (S : St) (c k : Nat) (v : Int32) : St := (fun a b => if a = c ∧ b = k then v else S.1 a b, S.2)
def sL (S : St) (c k : Nat) (v : Int64) : St := (S.1, fun a b => if a = c ∧ b = k then v else S.2 a b)
/-- a whole row of longs anew -/
def sR (S : St) (c : Nat) (f : Nat → Int64) : St := (S.1, fun a b => if a = c then f b else S.2 a b)
/-- the two static rows -/
def loF (j : Nat) : Int32 := ([0, 0, 0, 0, 1, 1, 1, 2, 2, 3] : List Int32).getD j 0
def upF (j : Nat) : Int32 := ([1, 2, 3, 4, 2, 3, 4, 3, 4, 4] : List Int32).getD j 0
/-- a number with a name, an end that is not gone to, a call -/
def bd {α β : Type} (a : α) (k : α → β) : β := k a
def bo {α β : Type} (x : Option (α × St)) (k : α → St → Option β) : Option β := match x with
  | none => none
  | some r => k r.1 r.2
theorem bd_inv {α β : Type} {a : α} {k : α → β} {o : β} (h : bd a k = o) : ∃ v, v = a ∧ k v = o := ⟨a, rfl, h⟩
theorem bo_inv {α β : Type} {x : Option (α × St)} {k : α → St → Option β} {o : β} (h : bo x k = some o) : ∃ v S, x = some (v, S) ∧ k v S = some o := by
  cases x with
  | none => cases h
  | some r => exact ⟨r.1, r.2, rfl, h⟩
theorem bo_some {α β : Type} {x : Option (α × St)} {v : α} {S : St} {k : α → St → Option β} (h : x = some (v, S)) : bo x k = k v S := by rw [h]; rfl
theorem gd_inv {α : Type} {b : Prop} [Decidable b] {k : Option α} {o : α} (h : (if b then none else k) = some o) : ¬ b ∧ k = some o := by
  by_cases hb : b
  · rw [if_pos hb] at h; cases h
  · rw [if_neg hb] at h; exact ⟨hb, h⟩
theorem if_t {α : Type} {b : Prop} [Decidable b] {x z o : α} (hb : b) (h : (if b then x else z) = o) : x = o := by rw [if_pos hb] at h; exact h
theorem if_f {α : Type} {b : Prop} [Decidable b] {x z o : α} (hb : ¬ b) (h : (if b then x else z) = o) : z = o := by rw [if_neg hb] at h; exact h
theorem rt_inv {α : Type} {v r : α} {S T : St} (h : some (v, S) = some (r, T)) : v = r ∧ S = T := by cases h; exact ⟨rfl, rfl⟩
def fixF {γ : Type} (bot : γ) (b : γ → γ) : Nat → γ
  | 0 => bot
  | d + 1 => b (fixF bot b d)
theorem fixF_s {γ : Type} (bot : γ) (b : γ → γ) (d : Nat) : fixF bot b (d + 1) = b (fixF bot b d) := rfl
/-- nothing has changed but in the cells w -/
def Keeps (w : Nat → Prop) (S T : St) : Prop := ∀ c, ¬ w c → T.1 c = S.1 c ∧ T.2 c = S.2 c
theorem Keeps.rf {w : Nat → Prop} {S : St} : Keeps w S S := fun _ _ => ⟨rfl, rfl⟩
theorem Keeps.trans {w : Nat → Prop} {S T U : St} (h : Keeps w S T) (g : Keeps w T U) : Keeps w S U := fun c hc => ⟨(g c hc).1.trans (h c hc).1, (g c hc).2.trans (h c hc).2⟩
theorem Keeps.mono {w v : Nat → Prop} {S T : St} (h : Keeps w S T) (g : ∀ c, w c → v c) : Keeps v S T := fun c hc => h c (fun q => hc (g c q))
theorem kpI {w : Nat → Prop} {S T : St} {c k : Nat} {v : Int32} (e : T = sI S c k v) (hw : w c) : Keeps w S T := by
  intro d hd
  have hn : d ≠ c := fun q => hd (q ▸ hw)
  subst e
  exact ⟨by funext b; simp [sI, hn], rfl⟩
theorem kpL {w : Nat → Prop} {S T : St} {c k : Nat} {v : Int64} (e : T = sL S c k v) (hw : w c) : Keeps w S T := by
  intro d hd
  have hn : d ≠ c := fun q => hd (q ▸ hw)
  subst e
  exact ⟨rfl, by funext b; simp [sL, hn]⟩
theorem kpR {w : Nat → Prop} {S T : St} {c : Nat} {f : Nat → Int64} (e : T = sR S c f) (hw : w c) : Keeps w S T := by
  intro d hd
  have hn : d ≠ c := fun q => hd (q ▸ hw)
  subst e
  exact ⟨rfl, by funext b; simp [sR, hn]⟩
