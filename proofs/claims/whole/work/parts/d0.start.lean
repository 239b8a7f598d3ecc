/-! WHERE IT STARTS: no literals, no page -/
def gst : Gh := ((0, fun _ => (0, [], [], 0)), (0, fun _ => 0), (0, 0, 0))
theorem s_start : ∃ S1, f_X9_layTerms NB S0 = some ((), S1) ∧ Inv S1 := by
  obtain ⟨T, a, b, -, k⟩ := layTerms_m (n := NB) (L := 0) (S := S0) (G := fun _ => (0, [], [], 0)) (Nat.le_trans (by decide) (NB110 (Nat.le_refl _))) (by decide) rfl (by decide) (fun k h => absurd h (Nat.not_lt_zero _))
  have e : ∀ c j, c < 28 → T.1 c j = s0F c j := fun c j h => k.2 c j (by omega) (by omega)
  have e28 : ∀ j, j ≠ 18 → T.1 28 j = s0F 28 j := fun j h => k.2 28 j (by omega) (by omega)
  have z : ∀ {P : Nat → Prop}, ∀ k, k < 0 → P k := fun k h => absurd h (Nat.not_lt_zero _)
  refine ⟨T, a, gst, ⟨⟨by decide, z, z, by decide⟩, ⟨by decide, z⟩, by decide⟩, ⟨⟨⟨tb0_wf, by decide, e 6 4 (by decide), fun t _ => ?_, fun t h1 h2 => absurd h2 (by show ¬ t < 5; omega), fun t ht => ?_⟩, ⟨e 16 4 (by decide), z⟩, ⟨e 0 1 (by decide), z⟩, e 0 9 (by decide), e 0 10 (by decide), e 0 11 (by decide)⟩, Or.inl (e 0 12 (by decide)), Or.inl (e 0 13 (by decide)), Or.inl (e 0 15 (by decide))⟩, b, ⟨e28 2 (by decide), z⟩, z, ⟨e28 0 (by decide), z⟩, e28 7 (by decide), e28 8 (by decide), e28 9 (by decide)⟩
  · exact e 7 t (by decide)
  · refine ⟨(e 8 t (by decide)).trans ?_, (e 9 t (by decide)).trans ?_, (e 10 t (by decide)).trans ?_⟩
    · show (if t < 5 then (-2000000001 : Int32) else 0) = _; rw [if_pos ht]
    · show (if t < 5 then (-2000000001 : Int32) else 0) = _; rw [if_pos ht]
    · show (if t < 5 then (1 : Int32) else 0) = _; rw [if_pos ht]
