/-! THE LAW, from its entry (made by genstart.py) -/
theorem split_last {D : va_G} {cl : List vw_C} {ws : va_W} {q : Nat} {e : va_E} {A : Nat → Prop} {H : Heap} (hP : va_P D cl (ws ++ [(q, e)]) H) (hD : va_D A (ws ++ [(q, e)])) : va_P D cl [(q, e)] H ∧ va_P D cl ws H ∧ va_D (fun x => A x ∧ x ≠ q) ws ∧ A q := by
  have last : (ws ++ [(q, e)])[ws.length]? = some (q, e) := by rw [List.getElem?_append_right (Nat.le_refl _), Nat.sub_self]; rfl
  have old : ∀ (k : Nat) (x : Nat × va_E), ws[k]? = some x → (ws ++ [(q, e)])[k]? = some x := fun k x hx => by rw [List.getElem?_append_left (List.getElem?_eq_some_iff.mp hx).1]; exact hx
  refine ⟨fun k x hx => ?_, fun k x hx => hP k x (old k x hx), ⟨fun i j x z hi hj he => hD.1 i j x z (old i x hi) (old j z hj) he, fun k x hx => ⟨hD.2 k x (old k x hx), fun he => ?_⟩⟩, hD.2 _ _ last⟩
  · have hk : k < 1 := (List.getElem?_eq_some_iff.mp hx).1
    rw [show k = 0 by omega] at hx
    cases hx
    exact hP _ _ last
  · have h1 := hD.1 k ws.length x (q, e) (old k x hx) last he
    have h2 := (List.getElem?_eq_some_iff.mp hx).1
    omega
theorem c9_blind {D : va_G} {y : y4} {adc : Nat → Nat} {z0 aL aU h0 sz : Nat} {av : List Value} : FrameBlind (va_Pc av (C9 D y adc z0 aL aU h0 sz)) := fun a U g mk h =>
  ⟨h.1, h.2.1, h.2.2.1, va_K.moved (u := U) (U := U.calling g mk a) (Vm.Alike.refl U.vm) h.2.2.2.1, h.2.2.2.2.1, ZB.same (u := U) (U := U.calling g mk a) rfl h.2.2.2.2.2.1, h.2.2.2.2.2.2⟩
set_option maxHeartbeats 4000000 in
set_option maxRecDepth 100000 in
theorem whole_start {p : Program} {e : Env} {s : State} {m : MethodId} {below : List Frame} {meth : Method} {c : Code} (l : Launch) (hflags : l.flags = flags0) {b L : Nat} {xs : Nat → Int32} (hL : L ≤ 2048) (C0 : lw_At p s m meth c b L xs) : W p l e room_1 s m #[Value.ref b] below meth c s.heap [] 0 0 (lw_Z below #[Value.ref b] s) (entryFrame m ([Value.ref b] : List Value).toArray 4) := by
  obtain ⟨hx, hb, hr, hml, hown, hts, hX, hbl, hlocks, hgv⟩ := id C0
  have hown : s.vm.findClass RL = some m.cls := hown
  have hA : ∀ q : Nat, s.heap.size ≤ q → (fun q : Nat => s.heap.size ≤ q) q := fun _ h => h
  obtain ⟨D, y, hK⟩ := lw_K hts
  have hN := lw_NX hts
  obtain ⟨aL, aU, hZ⟩ := lw_Z0 hts hgv
  obtain ⟨S1, hf, hV⟩ := s_start
  have hS : va_S (fun q : Nat => s.heap.size ≤ q) s.heap s.heap [] := va_S.rf
  have hP : va_P D vwCl [] s.heap := fun k q h => by simp at h
  have hD : va_D (fun q : Nat => s.heap.size ≤ q) [] := ⟨fun i j p q h => by simp at h, fun k q h => by simp at h⟩
  have hl := lv_entry ([.ref b]) (n := 4) (Nat.le_of_ble_eq_true rfl)
  rw [lg_entry_eq]
  generalize (lg_sl ([.ref b]) ++ List.replicate (4 - (lg_sl ([.ref b])).length) Slot.unset).toArray = ls at hl ⊢
  have hl : lv_has ls 4 [(0, .ref b)] := hl
  refine va_new (ci := 8) (fs := [.null, .int 0, .null, .null, .null, .null, .null, .null, .null, .int 0, .int 0, .int 0, .int 0, .int 0, .int 0, .int 0]) (C := RX8) (T := TX8) (N := 16) hx hb hts uw_wsX80 tyX8 tyX8_ok hown (hts (.classLink RL 7 RX8) (by decide +kernel)) (hts (.instantiable RX8 16) (by decide +kernel)) (hts (.initialized RX8) (by decide +kernel)) hK hP hD hS hA rfl (fun j hj => by rcases (show j = 0 ∨ j = 1 ∨ j = 2 ∨ j = 3 ∨ j = 4 ∨ j = 5 ∨ j = 6 ∨ j = 7 ∨ j = 8 ∨ j = 9 ∨ j = 10 ∨ j = 11 ∨ j = 12 ∨ j = 13 ∨ j = 14 ∨ j = 15 by omega) with rfl | rfl | rfl | rfl | rfl | rfl | rfl | rfl | rfl | rfl | rfl | rfl | rfl | rfl | rfl | rfl <;> rfl) (Nat.le_of_ble_eq_true rfl) (Nat.le_of_ble_eq_true rfl) dL_law_0 (fun h8 H hP hD hS => ?_)
  have hP : va_P D vwCl [(h8, .inr (8, [.null, .int 0, .null, .null, .null, .null, .null, .null, .null, .int 0, .int 0, .int 0, .int 0, .int 0, .int 0, .int 0]))] H := hP
  have hD : va_D (fun q : Nat => s.heap.size ≤ q) [(h8, .inr (8, [.null, .int 0, .null, .null, .null, .null, .null, .null, .null, .int 0, .int 0, .int 0, .int 0, .int 0, .int 0, .int 0]))] := hD
  refine lv_dup hx hb dL_law_3 rfl ?_
  refine k_call (va_runI (As := []) (rest := [.ref h8]) ⟨hx, hb, hml, hown, hts⟩ (c_X8_init l D y h8 H.size) (cwI 0 hts gw_X8_init rfl rfl rfl (hts (.initialized RX8) (by decide +kernel)) (hts (.methodLink RL 9 yX8_init) (by decide +kernel)) (hts (.instanceMethod yX8_init) (by decide +kernel)) rfl (by decide +kernel) ⟨(Nat.le_of_ble_eq_true rfl), (Nat.le_of_ble_eq_true rfl)⟩) (CP.preS hP hK hN 0 rfl) rfl rfl hl.1 rfl (lv_room (Nat.le_of_ble_eq_true rfl)) dL_law_4 ⟨(Nat.le_of_ble_eq_true rfl), (Nat.le_of_ble_eq_true rfl)⟩) hP hD hS hA 0 rfl (fun adc H locs hp hP hD hS => ?_)
  have eW : [(h8, lyE y adc S0 0)] ++ (List.range 99).map (fun k => (adc (clsF (k + 1)), lyE y adc S0 (clsF (k + 1)))) = wlc y adc S0 := by rw [wlc_cons, hp]; rfl
  have hP : va_P D vwCl (wlc y adc S0) H := eW ▸ hP
  have hD : va_D (fun q : Nat => s.heap.size ≤ q) (wlc y adc S0) := eW ▸ hD
  refine lv_astore_n (lv' := [(1, .ref h8), (0, .ref b)]) hx hb dL_law_7 rfl hl (by decide) rfl (fun ls hl => ?_)
  refine va_new (ci := 9) (fs := [.int 0, .null, .int 0, .null, .null, .null, .null, .int 0, .int 0, .int 0, .int 0, .int 0, .null, .int 0, .int 0, .int 0, .int 0, .int 0, .int 0, .null, .null, .null, .null, .null, .null, .null, .null, .int 0, .int 0, .null, .null, .int 0, .int 0, .int 0, .int 0, .int 0, .int 0, .int 0, .int 0, .int 0, .int 0, .long 0, .null, .null, .null, .null, .null, .long 0]) (C := RX9) (T := TX9) (N := 48) hx hb hts uw_wsX90 tyX9 tyX9_ok hown (hts (.classLink RL 10 RX9) (by decide +kernel)) (hts (.instantiable RX9 48) (by decide +kernel)) (hts (.initialized RX9) (by decide +kernel)) hK hP hD hS hA rfl (fun j hj => by rcases (show j = 0 ∨ j = 1 ∨ j = 2 ∨ j = 3 ∨ j = 4 ∨ j = 5 ∨ j = 6 ∨ j = 7 ∨ j = 8 ∨ j = 9 ∨ j = 10 ∨ j = 11 ∨ j = 12 ∨ j = 13 ∨ j = 14 ∨ j = 15 ∨ j = 16 ∨ j = 17 ∨ j = 18 ∨ j = 19 ∨ j = 20 ∨ j = 21 ∨ j = 22 ∨ j = 23 ∨ j = 24 ∨ j = 25 ∨ j = 26 ∨ j = 27 ∨ j = 28 ∨ j = 29 ∨ j = 30 ∨ j = 31 ∨ j = 32 ∨ j = 33 ∨ j = 34 ∨ j = 35 ∨ j = 36 ∨ j = 37 ∨ j = 38 ∨ j = 39 ∨ j = 40 ∨ j = 41 ∨ j = 42 ∨ j = 43 ∨ j = 44 ∨ j = 45 ∨ j = 46 ∨ j = 47 by omega) with rfl | rfl | rfl | rfl | rfl | rfl | rfl | rfl | rfl | rfl | rfl | rfl | rfl | rfl | rfl | rfl | rfl | rfl | rfl | rfl | rfl | rfl | rfl | rfl | rfl | rfl | rfl | rfl | rfl | rfl | rfl | rfl | rfl | rfl | rfl | rfl | rfl | rfl | rfl | rfl | rfl | rfl | rfl | rfl | rfl | rfl | rfl | rfl <;> rfl) (Nat.le_of_ble_eq_true rfl) (Nat.le_of_ble_eq_true rfl) dL_law_8 (fun h9 H hP hD hS => ?_)
  obtain ⟨hP9, hPc, hDc, hz9⟩ := split_last hP hD
  have hz9 : s.heap.size ≤ h9 := hz9
  refine lv_dup hx hb dL_law_11 rfl ?_
  have adz : ∀ c, isK c → s.heap.size ≤ adc c := fun c hc => by
    obtain ⟨k, hk, rfl⟩ := clsF_of hc
    exact (hDc.2 k _ (wlc_at hk)).1
  have a9 : ∀ q, A9 adc h9 H.size q → (fun q : Nat => s.heap.size ≤ q) q := by
    rintro q ((h | h) | ⟨c, hc, h⟩)
    · rw [h]; exact hz9
    · exact Nat.le_trans hS.1 h
    · rw [h]; exact adz c hc
  refine va_callv (va_runI (As := []) (rest := [.ref h9]) ⟨hx, hb, hml, hown, hts⟩ (c_X9_init l D y adc s.heap.size aL aU h9 H.size NB S1 hf) (cwI 0 hts gw_X9_init rfl rfl rfl (hts (.initialized RX9) (by decide +kernel)) (hts (.methodLink RL 12 yX9_init) (by decide +kernel)) (hts (.instanceMethod yX9_init) (by decide +kernel)) rfl (by decide +kernel) ⟨(Nat.le_of_ble_eq_true rfl), (Nat.le_of_ble_eq_true rfl)⟩) ⟨c9_blind, fun U hU hW => ⟨rfl, by rw [hU], by rw [hU]; exact hP9, va_K.moved hW.alike hK, ⟨by rw [hU]; exact hPc, hDc⟩, ZB.go hW (fun a h1 h2 => by rw [hU]; exact hS.2.1 a h1 h2) hZ, hz9, hS.1⟩⟩ rfl rfl hl.1 rfl (lv_room (Nat.le_of_ble_eq_true rfl)) dL_law_12 ⟨(Nat.le_of_ble_eq_true rfl), (Nat.le_of_ble_eq_true rfl)⟩) hS (fun q _ h => a9 q h) a9 (fun ad t H1 locs1 ht hvm hw hB hz1 hk1 hS => ?_)
  rw [ht] at hB
  obtain ⟨p28, pK, pI, pO⟩ := hw
  have e0 : ad 0 = h8 := (pK 0 (Or.inl (by decide))).trans hp
  have hG : LG D y ad aL aU s := ⟨pI, hK, hZ, fun c hc => by
    by_cases q : 28 ≤ c ∧ c < 50
    · rcases pO c q with h | h
      · rw [h]; exact hz9
      · exact a9 _ (Or.inl (Or.inr h))
    · have hk : isK c := by unfold isK; omega
      rw [pK c hk]; exact adz c hk⟩
  refine lv_astore_n (lv' := [(2, .ref h9), (1, .ref h8), (0, .ref b)]) hx hb dL_law_15 rfl hl (by decide) rfl (fun ls hl => ?_)
  refine lv_iconst (v := 0) hx hb dL_law_16 (by decide) ?_
  refine lv_istore_n (lv' := [(3, .int 0), (2, .ref h9), (1, .ref h8), (0, .ref b)]) hx hb dL_law_17 rfl hl (by decide) rfl (fun ls hl => ?_)
  exact law_loop hL C0 hG (L + 1) 0 (Nat.zero_le L) (by omega) S1 _ _ hB hV hS ls (by rw [e0, p28]; exact lv_sub hl [3, 2, 1, 0] rfl)
