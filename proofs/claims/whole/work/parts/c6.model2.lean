/-! the end of the reference's constructor: its terms are laid (made by genmodel.py) -/
set_option maxHeartbeats 4000000 in
set_option maxRecDepth 100000 in
theorem c9_end {p : Program} {l : Launch} {e : Env} {s : State} {m : MethodId} {below : List Frame} {meth : Method} {c : Code} {H : Heap} {locs : List Loc} {ls : Array Slot} {D : va_G} {y : y4} {ad adc : Nat → Nat} {z0 aL aU h0 n : Nat} {S1 : St} (hf : f_X9_layTerms n S0 = some ((), S1)) (hx : p.tables.exec = Jvm.exec) (hb : c.code = cX9_init) (hml : c.maxLocals = 1) (hr : meth.sig.returnType = none) (hlocks : meth.locks = false) (hown : s.vm.findClass RX9 = some m.cls) (hts : ∀ w ∈ wsX9_init, w.before ([.ref h0] : List Value).toArray s = true) (hK : va_K D vwCl (tysY y) s) (hcd : va_D (fun q => z0 ≤ q ∧ q ≠ h0) (wlc y adc S0)) (hZB : ZB z0 aL aU s s.heap) (hz1 : z0 ≤ h0) (hz2 : z0 ≤ s.heap.size) (hPW : PW D y ad S0 H) (hP9 : P9 adc h0 s.heap.size ad) (hS : va_S (NA h0 s.heap.size) s.heap H locs) (hl : lv_has ls 1 [(0, .ref h0)]) : W p l e (headSpec wsX9_init ({ frames := 4, cells := 21, slots := 8179, locals := 91 })).room s m ([.ref h0] : List Value).toArray below meth c H locs 21 8179 (MQ below (va_Qv (P9 adc h0 s.heap.size) (fun ad t => PW D y ad S1 t.heap) (A9 adc h0 s.heap.size)) ([.ref h0] : List Value).toArray s 21 8179 (A9 adc h0 s.heap.size)) (F0 m 175 ls []) := by
  obtain ⟨p28, pK, pI, pO⟩ := id hP9
  have big : ∀ c, c < 122 → z0 ≤ ad c := by
    intro c hc1
    by_cases q : 28 ≤ c ∧ c < 50
    · rcases pO c q with h | h
      · rw [h]; exact hz1
      · exact Nat.le_trans hz2 h
    · have hk : isK c := by unfold isK; omega
      rw [pK c hk]
      obtain ⟨k, hk1, rfl⟩ := clsF_of hk
      exact (hcd.2 k _ (wlc_at hk1)).1
  have aA : ∀ q, AA ad q → A9 adc h0 s.heap.size q := by
    rintro q ⟨c, hc1, rfl⟩
    by_cases q : 28 ≤ c ∧ c < 50
    · exact Or.inl (pO c q)
    · have hk : isK c := by unfold isK; omega
      exact Or.inr ⟨c, hk, pK c hk⟩
  have naA : ∀ a, a < s.heap.size → ¬ AA ad a → ¬ A9 adc h0 s.heap.size a := by
    intro a ha hn h
    rcases h with (h | h) | ⟨c, hk, h⟩
    · exact hn ⟨28, by decide, by rw [p28]; exact h⟩
    · omega
    · exact hn ⟨c, by unfold isK at hk; omega, by rw [pK c hk]; exact h⟩
  have hS9 : va_S (A9 adc h0 s.heap.size) s.heap H locs := hS.up (fun q h => Or.inl h)
  have hZ : ZZ ad aL aU s s.heap := hZB.zz big
  refine lv_aload_n hx hb dX9_init_175 rfl (lv_at hl 0 rfl) ?_
  refine W.eq (g2 := F0 m 176 ls [.ref (ad 28)]) (by rw [p28]) ?_
  refine va_callv (va_runV (As := []) (rest := []) ⟨hx, hb, hml, hown, hts⟩ (c_X9_layTerms l D y ad aL aU pI n S0 () S1 hf) (cwV 0 hts gX9_init_X9_layTerms rfl rfl rfl (by decide +kernel) ⟨(Nat.le_of_ble_eq_true rfl), (Nat.le_of_ble_eq_true rfl)⟩) ⟨pwu_blind, va_recv hK hPW rfl (show (wl y ad S0)[28]? = some (ad 28, .inr (9, lyO ad S0 28 _)) by rw [wl_get (by decide), lyE_obj t_28.2]), fun U hU hW => ⟨rfl, by rw [hU]; exact hPW, va_K.moved hW.alike hK, ZZ.go hW (fun a h1 h2 => by rw [hU]; exact hS9.2.1 a h1 (naA a h1 h2)) hZ⟩⟩ rfl rfl hl.1 rfl (lv_room (Nat.le_of_ble_eq_true rfl)) dX9_init_176 ⟨(Nat.le_of_ble_eq_true rfl), (Nat.le_of_ble_eq_true rfl)⟩) hS9 (fun q _ h => aA q h) aA (fun u t H1 locs1 ht hvm hw hB hz1 hk1 hS1 => ?_)
  subst hw
  rw [ht] at hB
  refine W.widen (k := 21) (n := 8179) (Nat.le_of_ble_eq_true rfl) (Nat.le_of_ble_eq_true rfl) ?_
  exact W.vret hx hb hr (fun t2 ht2 hW => ⟨⟨ad, rfl, hP9, by dsimp only; rw [ht2]; exact hB⟩, hS1.F ht2⟩) hS1.2.2 dX9_init_179
