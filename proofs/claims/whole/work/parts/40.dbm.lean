/-! DIFFERENCES: edges, walks, closed tables of least sums -/
abbrev Ed : Type := Nat → Nat → Int → Prop
abbrev Mx : Type := Nat → Nat → Int
def pw (E : Ed) : Nat → List (Nat × Int) → Prop
  | _, [] => True
  | i, a :: r => E i a.1 a.2 ∧ pw E a.1 r
def pe : Nat → List (Nat × Int) → Nat
  | i, [] => i
  | _, a :: r => pe a.1 r
def pt : List (Nat × Int) → Int
  | [] => 0
  | a :: r => a.2 + pt r
theorem pw_app (E : Ed) : ∀ (r t : List (Nat × Int)) (i : Nat), pw E i (r ++ t) ↔ pw E i r ∧ pw E (pe i r) t
  | [], t, i => by simp [pw, pe]
  | a :: r, t, i => by
    have h := pw_app E r t a.1
    simp only [List.cons_append, pw, pe, h, and_assoc]
theorem pe_app : ∀ (r t : List (Nat × Int)) (i : Nat), pe i (r ++ t) = pe (pe i r) t
  | [], t, i => rfl
  | a :: r, t, i => pe_app r t a.1
theorem pt_app : ∀ (r t : List (Nat × Int)), pt (r ++ t) = pt r + pt t
  | [], t => by simp [pt]
  | a :: r, t => by simp only [List.cons_append, pt, pt_app r t]; omega
theorem pw_mono {E G : Ed} (h : ∀ i j w, E i j w → G i j w) : ∀ (r : List (Nat × Int)) (i : Nat), pw E i r → pw G i r
  | [], _, _ => trivial
  | a :: r, _, q => ⟨h _ _ _ q.1, pw_mono h r a.1 q.2⟩
/-- a closed table of least sums: far entries are F -/
def Mat (F : Int) (N : Nat) (E : Ed) (M : Mx) : Prop :=
  (∀ i, i < N → M i i = 0) ∧
  (∀ i j k, i < N → j < N → k < N → M i k < F → M k j < F → M i j < F ∧ M i j ≤ M i k + M k j) ∧
  (∀ i j w, E i j w → i < N ∧ j < N ∧ M i j < F ∧ M i j ≤ w) ∧
  (∀ i j, i < N → j < N → M i j < F → ∃ r, pw E i r ∧ pe i r = j ∧ pt r = M i j)
def Sat (E : Ed) (v : Nat → Int) : Prop := ∀ i j w, E i j w → v i - v j ≤ w
theorem sat_walk {E : Ed} {v : Nat → Int} (h : Sat E v) : ∀ (r : List (Nat × Int)) (i : Nat), pw E i r → v i - v (pe i r) ≤ pt r
  | [], i, _ => by simp [pe, pt]
  | a :: r, i, q => by
    have h1 := h _ _ _ q.1
    have h2 := sat_walk h r a.1 q.2
    simp only [pe, pt]
    omega
theorem Mat.sat {F : Int} {N : Nat} {E : Ed} {M : Mx} (h : Mat F N E M) {v : Nat → Int} (hv : Sat E v) {i j : Nat} (hi : i < N) (hj : j < N) (hf : M i j < F) : v i - v j ≤ M i j := by
  obtain ⟨r, h1, h2, h3⟩ := h.2.2.2 i j hi hj hf
  have := sat_walk hv r i h1
  rw [h2, h3] at this
  exact this
theorem Mat.ofsat {F : Int} {N : Nat} {E : Ed} {M : Mx} (h : Mat F N E M) {v : Nat → Int} (hv : ∀ i j, i < N → j < N → M i j < F → v i - v j ≤ M i j) : Sat E v := by
  intro i j w hE
  obtain ⟨h1, h2, h3, h4⟩ := h.2.2.1 i j w hE
  have := hv i j h1 h2 h3
  omega
theorem Mat.walk {F : Int} {N : Nat} {E : Ed} {M : Mx} (h : Mat F N E M) (hF : 0 < F) : ∀ (r : List (Nat × Int)) (i : Nat), i < N → pw E i r → pe i r < N ∧ M i (pe i r) < F ∧ M i (pe i r) ≤ pt r
  | [], i, hi, _ => by simp only [pe, pt]; rw [h.1 i hi]; exact ⟨hi, hF, Int.le_refl _⟩
  | a :: r, i, hi, q => by
    obtain ⟨_, h2, h3, h4⟩ := h.2.2.1 _ _ _ q.1
    obtain ⟨g0, g1, g2⟩ := Mat.walk h hF r a.1 h2 q.2
    simp only [pe, pt]
    obtain ⟨e1, e2⟩ := h.2.1 i (pe a.1 r) a.1 hi g0 h2 h3 g1
    exact ⟨g0, e1, by omega⟩
/-- no two alike, all below N: at most N -/
theorem nodup_le : ∀ (N : Nat) (l : List Nat), l.Nodup → (∀ x ∈ l, x < N) → l.length ≤ N
  | 0, l, _, h => by
    cases l with
    | nil => simp
    | cons x r => exact absurd (h x List.mem_cons_self) (Nat.not_lt_zero _)
  | N + 1, l, hn, h => by
    by_cases hm : N ∈ l
    · have h1 := nodup_le N (l.erase N) (hn.erase N) (fun x hx => by
        have h2 := (hn.mem_erase_iff).mp hx
        have h3 := h x h2.2
        have h4 := h2.1
        omega)
      have h2 := List.length_erase_of_mem hm
      omega
    · have h1 := nodup_le N l hn (fun x hx => by
        have h3 := h x hx
        have h4 : x ≠ N := fun e => hm (e ▸ hx)
        omega)
      omega
theorem walk_dup : ∀ (r : List (Nat × Int)) (i : Nat), ¬ (i :: r.map Prod.fst).Nodup → ∃ r1 r2 r3, r = r1 ++ (r2 ++ r3) ∧ r2 ≠ [] ∧ pe (pe i r1) r2 = pe i r1
  | [], i, h => absurd (by simp) h
  | a :: r, i, h => by
    by_cases hm : i ∈ (a :: r).map Prod.fst
    · obtain ⟨b, hb, e⟩ := List.mem_map.mp hm
      obtain ⟨u, t, hut⟩ := List.append_of_mem hb
      refine ⟨[], u ++ [b], t, by simp [hut], by simp, ?_⟩
      simp [pe_app, pe, e]
    · have h2 : ¬ (a.1 :: r.map Prod.fst).Nodup := fun q => h (List.nodup_cons.mpr ⟨hm, by simpa using q⟩)
      obtain ⟨r1, r2, r3, e1, e2, e3⟩ := walk_dup r a.1 h2
      exact ⟨a :: r1, r2, r3, by simp [e1], e2, e3⟩
theorem walk_lt {F : Int} {N : Nat} {E : Ed} {M : Mx} (h : Mat F N E M) : ∀ (r : List (Nat × Int)) (i : Nat), i < N → pw E i r → ∀ x ∈ i :: r.map Prod.fst, x < N
  | [], i, hi, _, x, hx => by simp at hx; omega
  | a :: r, i, hi, q, x, hx => by
    rcases List.mem_cons.mp hx with e | e
    · omega
    · exact walk_lt h r a.1 (h.2.2.1 _ _ _ q.1).2.1 q.2 x (by simpa using e)
theorem Mat.short {F : Int} {N : Nat} {E E1 : Ed} {M : Mx} (h : Mat F N E M) (hF : 0 < F) (hs : ∀ i j w, E1 i j w → E i j w) : ∀ (k : Nat) (r : List (Nat × Int)) (i : Nat), r.length ≤ k → i < N → pw E1 i r → ∃ t, pw E1 i t ∧ pe i t = pe i r ∧ pt t ≤ pt r ∧ t.length < N := by
  intro k
  induction k with
  | zero =>
    intro r i hk hi q
    exact ⟨r, q, rfl, Int.le_refl _, by omega⟩
  | succ k ih =>
    intro r i hk hi q
    by_cases hl : r.length < N
    · exact ⟨r, q, rfl, Int.le_refl _, hl⟩
    · have hd : ¬ (i :: r.map Prod.fst).Nodup := fun hn => by
        have := nodup_le N _ hn (walk_lt h r i hi (pw_mono hs r i q))
        simp at this
        omega
      obtain ⟨r1, r2, r3, e1, e2, e3⟩ := walk_dup r i hd
      subst e1
      rw [pw_app, pw_app, e3] at q
      obtain ⟨q1, q2, q3⟩ := q
      have hi1 := (h.walk hF r1 i hi (pw_mono hs r1 i q1)).1
      obtain ⟨_, c1, c2⟩ := h.walk hF r2 (pe i r1) hi1 (pw_mono hs r2 _ q2)
      rw [e3, h.1 _ hi1] at c2
      have hl2 : 0 < r2.length := List.length_pos_iff.mpr e2
      obtain ⟨t, t1, t2, t3, t4⟩ := ih (r1 ++ r3) i (by simp at hk ⊢; omega) hi ((pw_app E1 r1 r3 i).mpr ⟨q1, q3⟩)
      refine ⟨t, t1, ?_, ?_, t4⟩
      · rw [t2, pe_app, pe_app, pe_app, e3]
      · rw [pt_app] at t3
        rw [pt_app, pt_app]
        omega
theorem pt_le {E : Ed} {W : Int} (hW : ∀ i j w, E i j w → -W ≤ w ∧ w ≤ W) : ∀ (r : List (Nat × Int)) (i : Nat), pw E i r → -(r.length * W) ≤ pt r ∧ pt r ≤ r.length * W
  | [], i, _ => by simp [pt]
  | a :: r, i, q => by
    have h1 := hW _ _ _ q.1
    have h2 := pt_le hW r a.1 q.2
    simp only [pt, List.length_cons]
    have e : ((r.length + 1 : Nat) : Int) * W = r.length * W + W := by
      rw [Int.natCast_add, Int.add_mul]; simp
    rw [e]
    omega
/-- entries are small where edges are -/
theorem Mat.small {F : Int} {N : Nat} {E : Ed} {M : Mx} (h : Mat F N E M) (hF : 0 < F) {W : Int} (hW : ∀ i j w, E i j w → -W ≤ w ∧ w ≤ W) (h0 : 0 ≤ W) {i j : Nat} (hi : i < N) (hj : j < N) (hf : M i j < F) : -(N * W) ≤ M i j ∧ M i j ≤ N * W := by
  obtain ⟨r, h1, h2, h3⟩ := h.2.2.2 i j hi hj hf
  obtain ⟨t, t1, t2, t3, t4⟩ := h.short (E1 := E) hF (fun _ _ _ q => q) r.length r i (Nat.le_refl _) hi h1
  have hw := h.walk hF t i hi t1
  rw [t2, h2] at hw
  have hp := pt_le hW t i t1
  have hm : (t.length : Int) * W ≤ N * W := Int.mul_le_mul_of_nonneg_right (by omega) h0
  omega
/-- edges that lead back from t to s do not count for the way from s to t -/
theorem walk_last {E E1 : Ed} {s t : Nat} (hE : ∀ i j w, E i j w → E1 i j w ∨ (i = t ∧ j = s)) : ∀ (r : List (Nat × Int)) (i : Nat), pw E i r → pw E1 i r ∨ ∃ r1 r2 w, r = r1 ++ (s, w) :: r2 ∧ pw E1 s r2
  | [], i, _ => Or.inl trivial
  | a :: r, i, q => by
    rcases walk_last hE r a.1 q.2 with h | ⟨r1, r2, w, h1, h2⟩
    · rcases hE _ _ _ q.1 with e | ⟨e1, e2⟩
      · exact Or.inl ⟨e, h⟩
      · obtain ⟨b, w⟩ := a
        dsimp only at e2 h
        subst e2
        exact Or.inr ⟨[], r, w, rfl, h⟩
    · exact Or.inr ⟨a :: r1, r2, w, by rw [h1]; rfl, h2⟩
theorem Mat.small1 {F : Int} {N : Nat} {E E1 : Ed} {M : Mx} (h : Mat F N E M) (hF : 0 < F) {s t : Nat} (hE : ∀ i j w, E i j w → E1 i j w ∨ (i = t ∧ j = s)) (hsub : ∀ i j w, E1 i j w → E i j w) {W : Int} (hW : ∀ i j w, E1 i j w → -W ≤ w ∧ w ≤ W) (h0 : 0 ≤ W) (hs : s < N) (ht : t < N) (hf : M s t < F) : -(N * W) ≤ M s t ∧ M s t ≤ N * W := by
  obtain ⟨r, h1, h2, h3⟩ := h.2.2.2 s t hs ht hf
  have key : ∃ u, pw E1 s u ∧ pe s u = t ∧ pt u ≤ M s t := by
    rcases walk_last hE r s h1 with q | ⟨r1, r2, w, e, q⟩
    · exact ⟨r, q, h2, by omega⟩
    · subst e
      have hc : pw E s (r1 ++ [(s, w)]) := by
        rw [pw_app] at h1 ⊢
        exact ⟨h1.1, h1.2.1, trivial⟩
      obtain ⟨_, c1, c2⟩ := h.walk hF _ s hs hc
      rw [pe_app] at c2
      simp only [pe] at c2
      rw [h.1 s hs, pt_app] at c2
      simp only [pt] at c2
      refine ⟨r2, q, ?_, ?_⟩
      · rw [pe_app] at h2; exact h2
      · rw [pt_app] at h3; simp only [pt] at h3; omega
  obtain ⟨u, u1, u2, u3⟩ := key
  obtain ⟨x, t1, t2, t3, t4⟩ := h.short hF hsub u.length u s (Nat.le_refl _) hs u1
  have hw := h.walk hF x s hs (pw_mono hsub x s t1)
  rw [t2, u2] at hw
  have hp := pt_le hW x s t1
  have hm : (x.length : Int) * W ≤ N * W := Int.mul_le_mul_of_nonneg_right (by omega) h0
  omega
/-- one more edge -/
def adE (E : Ed) (s t : Nat) (w : Int) : Ed := fun i j x => E i j x ∨ (i = s ∧ j = t ∧ x = w)
def adM (F : Int) (M : Mx) (s t : Nat) (w : Int) : Mx := fun i j => if M i s < F ∧ M t j < F then (if M i s + w + M t j < M i j then M i s + w + M t j else M i j) else M i j
theorem Mat.add {F : Int} {N : Nat} {E : Ed} {M : Mx} (h : Mat F N E M) (hF : 0 < F) {s t : Nat} {w : Int} (hs : s < N) (ht : t < N) (hc : M t s < F → 0 ≤ M t s + w) (hb : ∀ i j, i < N → j < N → M i s < F → M t j < F → M i s + w + M t j < F) : Mat F N (adE E s t w) (adM F M s t w) := by
  obtain ⟨d0, d1, d2, d3⟩ := id h
  -- what the new table is at most
  have le1 : ∀ i j, adM F M s t w i j ≤ M i j := by
    intro i j; unfold adM; split
    · split <;> omega
    · omega
  have le2 : ∀ i j, M i s < F → M t j < F → adM F M s t w i j ≤ M i s + w + M t j := by
    intro i j h1 h2; unfold adM; rw [if_pos ⟨h1, h2⟩]; split <;> omega
  have ge : ∀ i j, adM F M s t w i j = M i j ∨ (M i s < F ∧ M t j < F ∧ adM F M s t w i j = M i s + w + M t j) := by
    intro i j; unfold adM
    by_cases h1 : M i s < F ∧ M t j < F
    · rw [if_pos h1]; split
      · exact Or.inr ⟨h1.1, h1.2, rfl⟩
      · exact Or.inl rfl
    · rw [if_neg h1]; exact Or.inl rfl
  have hss := d0 s hs
  have htt := d0 t ht
  refine ⟨?_, ?_, ?_, ?_⟩
  · intro i hi
    rcases ge i i with e | ⟨h1, h2, e⟩
    · rw [e]; exact d0 i hi
    · have h3 := le1 i i
      obtain ⟨h4, h5⟩ := d1 t s i ht hs hi h2 h1
      have h6 := hc h4
      have h7 := d0 i hi
      omega
  · intro i j k hi hj hk h1 h2
    rcases ge i k with e1 | ⟨a1, a2, e1⟩
    · rcases ge k j with e2 | ⟨b1, b2, e2⟩
      · rw [e1] at h1; rw [e2] at h2
        obtain ⟨c1, c2⟩ := d1 i j k hi hj hk h1 h2
        have := le1 i j
        exact ⟨by omega, by omega⟩
      · rw [e1] at h1
        obtain ⟨c1, c2⟩ := d1 i s k hi hs hk h1 b1
        have := le2 i j c1 b2
        have := hb i j hi hj c1 b2
        exact ⟨by omega, by omega⟩
    · rcases ge k j with e2 | ⟨b1, b2, e2⟩
      · rw [e2] at h2
        obtain ⟨c1, c2⟩ := d1 t j k ht hj hk a2 h2
        have := le2 i j a1 c1
        have := hb i j hi hj a1 c1
        exact ⟨by omega, by omega⟩
      · obtain ⟨c1, c2⟩ := d1 t s k ht hs hk a2 b1
        have := hc c1
        have := le2 i j a1 b2
        have := hb i j hi hj a1 b2
        exact ⟨by omega, by omega⟩
  · intro i j x hE
    rcases hE with hE | ⟨rfl, rfl, rfl⟩
    · obtain ⟨h1, h2, h3, h4⟩ := d2 i j x hE
      have := le1 i j
      exact ⟨h1, h2, by omega, by omega⟩
    · have := le2 i j (by rw [hss]; exact hF) (by rw [htt]; exact hF)
      have := hb i j hs ht (by rw [hss]; exact hF) (by rw [htt]; exact hF)
      exact ⟨hs, ht, by omega, by omega⟩
  · intro i j hi hj hf
    rcases ge i j with e | ⟨h1, h2, e⟩
    · rw [e] at hf ⊢
      obtain ⟨r, r1, r2, r3⟩ := d3 i j hi hj hf
      exact ⟨r, pw_mono (fun _ _ _ q => Or.inl q) r i r1, r2, r3⟩
    · obtain ⟨r, r1, r2, r3⟩ := d3 i s hi hs h1
      obtain ⟨u, u1, u2, u3⟩ := d3 t j ht hj h2
      refine ⟨r ++ (t, w) :: u, ?_, ?_, ?_⟩
      · rw [pw_app, r2]
        exact ⟨pw_mono (fun _ _ _ q => Or.inl q) r i r1, Or.inr ⟨rfl, rfl, rfl⟩, pw_mono (fun _ _ _ q => Or.inl q) u t u1⟩
      · rw [pe_app, r2]; exact u2
      · rw [pt_app, r3, e]; simp only [pt]; rw [u3]; omega
/-- an edge that is there already by other ones -/
theorem Mat.idle {F : Int} {N : Nat} {E : Ed} {M : Mx} (h : Mat F N E M) {s t : Nat} {w : Int} (hs : s < N) (ht : t < N) (hf : M s t < F) (hw : M s t ≤ w) : Mat F N (adE E s t w) M := by
  obtain ⟨d0, d1, d2, d3⟩ := id h
  refine ⟨d0, d1, ?_, ?_⟩
  · intro i j x hE
    rcases hE with hE | ⟨rfl, rfl, rfl⟩
    · exact d2 i j x hE
    · exact ⟨hs, ht, hf, hw⟩
  · intro i j hi hj hf
    obtain ⟨r, r1, r2, r3⟩ := d3 i j hi hj hf
    exact ⟨r, pw_mono (fun _ _ _ q => Or.inl q) r i r1, r2, r3⟩
/-- two tables of edges that say the same -/
theorem Mat.le {F G : Int} {N : Nat} {E E2 : Ed} {M M2 : Mx} (h : Mat F N E M) (hF : 0 < F) (h2 : Mat G N E2 M2) (hE : ∀ i j w, E2 i j w → M i j < F ∧ M i j ≤ w) {i j : Nat} (hi : i < N) (hj : j < N) (hf : M2 i j < G) : M i j < F ∧ M i j ≤ M2 i j := by
  obtain ⟨r, r1, r2, r3⟩ := h2.2.2.2 i j hi hj hf
  have key : ∀ (r : List (Nat × Int)) (i : Nat), i < N → pw E2 i r → pe i r < N ∧ M i (pe i r) < F ∧ M i (pe i r) ≤ pt r := by
    intro r
    induction r with
    | nil => intro i hi _; simp only [pe, pt]; rw [h.1 i hi]; exact ⟨hi, hF, Int.le_refl _⟩
    | cons a r ih =>
      intro i hi q
      have b := hE _ _ _ q.1
      have hb := (h2.2.2.1 _ _ _ q.1).2.1
      obtain ⟨g0, g1, g2⟩ := ih a.1 hb q.2
      simp only [pe, pt]
      obtain ⟨e1, e2⟩ := h.2.1 i (pe a.1 r) a.1 hi g0 hb b.1 g1
      exact ⟨g0, e1, by omega⟩
  have := key r i hi r1
  rw [r2, r3] at this
  exact this.2
/-- the least of a row -/
def lowN (M : Mx) (x : Nat) : Nat → Int
  | 0 => 0
  | k + 1 => if M x k < lowN M x k then M x k else lowN M x k
theorem lowN_le (M : Mx) (x : Nat) : ∀ (k w : Nat), w < k → lowN M x k ≤ M x w
  | 0, w, h => absurd h (Nat.not_lt_zero _)
  | k + 1, w, h => by
    have h1 := fun q => lowN_le M x k w q
    simp only [lowN]
    by_cases e : w = k
    · subst e; split <;> omega
    · have := h1 (by omega); split <;> omega
theorem lowN_0 (M : Mx) (x : Nat) : ∀ k, lowN M x k ≤ 0
  | 0 => Int.le_refl _
  | k + 1 => by have := lowN_0 M x k; simp only [lowN]; split <;> omega
theorem lowN_at (M : Mx) (x : Nat) : ∀ k, lowN M x k = 0 ∨ ∃ w, w < k ∧ lowN M x k = M x w
  | 0 => Or.inl rfl
  | k + 1 => by
    simp only [lowN]
    split
    · exact Or.inr ⟨k, by omega, rfl⟩
    · rcases lowN_at M x k with h | ⟨w, h1, h2⟩
      · exact Or.inl h
      · exact Or.inr ⟨w, by omega, h2⟩
/-- values: towards j as great as they may be, the others great by W -/
def fillW (F : Int) (N : Nat) (M : Mx) (j : Nat) (W : Int) (x : Nat) : Int := if M x j < F ∧ M x j < lowN M x N + W then M x j else lowN M x N + W
theorem low_tri {F : Int} {N : Nat} {E : Ed} {M : Mx} (h : Mat F N E M) (hF : 0 < F) {x y : Nat} (hx : x < N) (hy : y < N) (hf : M x y < F) : lowN M x N ≤ M x y + lowN M y N := by
  rcases lowN_at M y N with e | ⟨w, h1, e⟩
  · rw [e]; have := lowN_le M x N y hy; omega
  · by_cases hw : M y w < F
    · obtain ⟨c1, c2⟩ := h.2.1 x w y hx h1 hy hf hw
      have := lowN_le M x N w h1
      omega
    · have := lowN_0 M y N
      omega
theorem fillW_sat {F : Int} {N : Nat} {E : Ed} {M : Mx} (h : Mat F N E M) (hF : 0 < F) {j : Nat} (hj : j < N) (W : Int) : Sat E (fillW F N M j W) := by
  refine h.ofsat (fun x y hx hy hf => ?_)
  have h1 := low_tri h hF hx hy hf
  unfold fillW
  by_cases hy1 : M y j < F ∧ M y j < lowN M y N + W
  · rw [if_pos hy1]
    obtain ⟨c1, c2⟩ := h.2.1 x j y hx hj hy hf hy1.1
    split <;> omega
  · rw [if_neg hy1]
    split <;> omega
