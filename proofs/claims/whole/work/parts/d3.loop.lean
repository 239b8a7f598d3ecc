/-! THE LAW'S LOOP (made by genwalk.py) -/
theorem lw_four {i L : Nat} (hi : i < 2 ^ 30) (hL : L < 2 ^ 30) (h : ¬ Int32.ofNat L - 4 < nI i) : i + 4 ≤ L := by
  rw [Int32.lt_iff_toInt_lt, Int32.toInt_sub, nI_toInt (by omega), show (Int32.ofNat L).toInt = (L : Int) from nI_toInt (by omega), show (4 : Int32).toInt = 4 from rfl, Int.bmod_eq_of_le (by omega) (by omega)] at h
  omega
theorem lw_x {i k L : Nat} (h : i + k < L) (hL : L < 2 ^ 31) : vp_in (nI i + nI k) L := by rw [nI_add]; exact vp_in_nI h hL
set_option maxHeartbeats 4000000 in
set_option maxRecDepth 100000 in
theorem law_loop {p : Program} {l : Launch} {e : Env} {s : State} {m : MethodId} {below : List Frame} {meth : Method} {c : Code} {b L : Nat} {xs : Nat → Int32} {D : va_G} {y : y4} {ad : Nat → Nat} {aL aU : Nat} (hL : L ≤ 2048) (C0 : lw_At p s m meth c b L xs) (hG : LG D y ad aL aU s) :
    ∀ (n i : Nat), i ≤ L → L + 1 ≤ i + n → ∀ (S : St) (H : Heap) (locs : List Loc), PW D y ad S H → Inv S → va_S (fun q : Nat => s.heap.size ≤ q) s.heap H locs → ∀ (ls : Array Slot), lv_has ls 4 [(0, .ref b), (1, .ref (ad 0)), (2, .ref (ad 28)), (3, .int (nI i))] → W p l e room_1 s m #[Value.ref b] below meth c H locs 122 11312 (lw_Z below #[Value.ref b] s) (F0 m 18 ls []) := by
  obtain ⟨hx, hb, hr, hml, hown, hts, hX, hbl, hlocks, hgv⟩ := id C0
  have hbA : ¬ (fun q : Nat => s.heap.size ≤ q) b := Nat.not_le.mpr hbl
  intro n
  induction n with
  | zero => intro i h1 h2; exact absurd h2 (by omega)
  | succ n ih =>
    intro i hi hin S H locs hP hV hS ls hl
    refine lv_iload_n hx hb dL_law_18 rfl (lv_at hl 3 rfl) ?_
    refine lv_aload_n hx hb dL_law_19 rfl (lv_at hl 0 rfl) ?_
    refine va_slen hx hb hX hbl hbA hS dL_law_20 ?_
    refine lv_iconst (v := 4) hx hb dL_law_21 (by decide) ?_
    refine lv_isub hx hb dL_law_22 ?_
    refine lv_icmp_gt (tgt := 514) hx hb dL_law_23 (by decide) (fun _ => ?_) (fun hc => ?_)
    · refine lv_iconst (v := 1) hx hb dL_law_514 (by decide) ?_
      refine va_forget (fun q hq => hS.2.2 q hq) ?_
      refine W.widen (k := 600000) (n := 7302250) (Nat.le_of_ble_eq_true rfl) (Nat.le_of_ble_eq_true rfl) ?_
      exact lw_ret hx hb hr hlocks dL_law_515
    · have h4 : i + 4 ≤ L := lw_four (by omega) (by omega) hc
      have v0 : vp_in (nI i) L := vp_in_nI (by omega) (by omega)
      have v1 : vp_in (nI i + 1) L := lw_x (k := 1) (by omega) (by omega)
      have v2 : vp_in (nI i + 2) L := lw_x (k := 2) (by omega) (by omega)
      have v3 : vp_in (nI i + 3) L := lw_x (k := 3) (by omega) (by omega)
      have kk : ∀ (S : St) (H : Heap) (locs : List Loc), PW D y ad S H → Inv S → va_S (fun q : Nat => s.heap.size ≤ q) s.heap H locs → W p l e room_1 s m #[Value.ref b] below meth c H locs 122 11312 (lw_Z below #[Value.ref b] s) (F0 m 508 ls []) := by
        intro S H locs hP hV hS
        refine lv_iinc (v := nI (i + 4)) (lv' := [(3, .int (nI (i + 4))), (0, .ref b), (1, .ref (ad 0)), (2, .ref (ad 28))]) hx hb dL_law_508 hl (k := 3) rfl (nI_add i 4) (by decide) rfl (fun ls hl => ?_)
        refine lv_goto (tgt := 18) hx hb dL_law_511 (by decide) ?_
        exact ih (i + 4) h4 (by omega) S H locs hP hV hS ls (lv_sub hl [1, 2, 3, 0] rfl)
      refine lv_aload_n hx hb dL_law_26 rfl (lv_at hl 0 rfl) ?_
      refine lv_iload_n hx hb dL_law_27 rfl (lv_at hl 3 rfl) ?_
      refine va_sld hx hb hX hbl hbA hS v0 dL_law_28 ?_
      refine lv_bipush (v := 31) hx hb dL_law_29 (by decide) ?_
      refine lv_iand hx hb dL_law_31 ?_
      generalize xs (nI i).toNatClampNeg &&& 31 = w
      by_cases b_0 : w = 0
      · exact lv_tableIn (tgt := 116) hx hb dL_law_32 (by rw [b_0]; decide) (by rw [b_0]; decide) (by rw [b_0]; rfl) (by decide) (law_letter C0 hG hl hP hV hS v1 kk)
      by_cases b_1 : w = 1
      · exact lv_tableIn (tgt := 139) hx hb dL_law_32 (by rw [b_1]; decide) (by rw [b_1]; decide) (by rw [b_1]; rfl) (by decide) (law_blank C0 hG hl hP hV hS  kk)
      by_cases b_2 : w = 2
      · exact lv_tableIn (tgt := 152) hx hb dL_law_32 (by rw [b_2]; decide) (by rw [b_2]; decide) (by rw [b_2]; rfl) (by decide) (law_fault C0 hG hl hP hV hS  kk)
      by_cases b_3 : w = 3
      · exact lv_tableIn (tgt := 165) hx hb dL_law_32 (by rw [b_3]; decide) (by rw [b_3]; decide) (by rw [b_3]; rfl) (by decide) (law_add C0 hG hl hP hV hS  kk)
      by_cases b_4 : w = 4
      · exact lv_tableIn (tgt := 178) hx hb dL_law_32 (by rw [b_4]; decide) (by rw [b_4]; decide) (by rw [b_4]; rfl) (by decide) (law_drop C0 hG hl hP hV hS v1 kk)
      by_cases b_5 : w = 5
      · exact lv_tableIn (tgt := 201) hx hb dL_law_32 (by rw [b_5]; decide) (by rw [b_5]; decide) (by rw [b_5]; rfl) (by decide) (law_scale C0 hG hl hP hV hS v1 kk)
      by_cases b_6 : w = 6
      · exact lv_tableIn (tgt := 224) hx hb dL_law_32 (by rw [b_6]; decide) (by rw [b_6]; decide) (by rw [b_6]; rfl) (by decide) (law_literal C0 hG hl hP hV hS v1 v2 kk)
      by_cases b_7 : w = 7
      · exact lv_tableIn (tgt := 257) hx hb dL_law_32 (by rw [b_7]; decide) (by rw [b_7]; decide) (by rw [b_7]; rfl) (by decide) (law_term C0 hG hl hP hV hS v1 v2 kk)
      by_cases b_8 : w = 8
      · exact lv_tableIn (tgt := 290) hx hb dL_law_32 (by rw [b_8]; decide) (by rw [b_8]; decide) (by rw [b_8]; rfl) (by decide) (law_exchange C0 hG hl hP hV hS v1 kk)
      by_cases b_9 : w = 9
      · exact lv_tableIn (tgt := 313) hx hb dL_law_32 (by rw [b_9]; decide) (by rw [b_9]; decide) (by rw [b_9]; rfl) (by decide) (law_far C0 hG hl hP hV hS v1 v2 kk)
      by_cases b_10 : w = 10
      · exact lv_tableIn (tgt := 346) hx hb dL_law_32 (by rw [b_10]; decide) (by rw [b_10]; decide) (by rw [b_10]; rfl) (by decide) (law_holds C0 hG hl hP hV hS  kk)
      by_cases b_11 : w = 11
      · exact lv_tableIn (tgt := 359) hx hb dL_law_32 (by rw [b_11]; decide) (by rw [b_11]; decide) (by rw [b_11]; rfl) (by decide) (law_apart C0 hG hl hP hV hS v1 v2 kk)
      by_cases b_12 : w = 12
      · exact lv_tableIn (tgt := 392) hx hb dL_law_32 (by rw [b_12]; decide) (by rw [b_12]; decide) (by rw [b_12]; rfl) (by decide) (law_implied C0 hG hl hP hV hS v1 v2 v3 kk)
      by_cases b_13 : w = 13
      · exact lv_tableIn (tgt := 435) hx hb dL_law_32 (by rw [b_13]; decide) (by rw [b_13]; decide) (by rw [b_13]; rfl) (by decide) (law_why C0 hG hl hP hV hS  kk)
      by_cases b_14 : w = 14
      · exact lv_tableIn (tgt := 448) hx hb dL_law_32 (by rw [b_14]; decide) (by rw [b_14]; decide) (by rw [b_14]; rfl) (by decide) (law_either C0 hG hl hP hV hS v1 kk)
      by_cases b_15 : w = 15
      · exact lv_tableIn (tgt := 471) hx hb dL_law_32 (by rw [b_15]; decide) (by rw [b_15]; decide) (by rw [b_15]; rfl) (by decide) (law_count C0 hG hl hP hV hS v1 kk)
      by_cases b_16 : w = 16
      · exact lv_tableIn (tgt := 494) hx hb dL_law_32 (by rw [b_16]; decide) (by rw [b_16]; decide) (by rw [b_16]; rfl) (by decide) (law_digest C0 hG hl hP hV hS  kk)
      exact lv_tableOut (tgt := 508) hx hb dL_law_32 (by have i0 : w.toInt ≠ (0 : Int) := ne_toInt b_0; have i1 : w.toInt ≠ (1 : Int) := ne_toInt b_1; have i2 : w.toInt ≠ (2 : Int) := ne_toInt b_2; have i3 : w.toInt ≠ (3 : Int) := ne_toInt b_3; have i4 : w.toInt ≠ (4 : Int) := ne_toInt b_4; have i5 : w.toInt ≠ (5 : Int) := ne_toInt b_5; have i6 : w.toInt ≠ (6 : Int) := ne_toInt b_6; have i7 : w.toInt ≠ (7 : Int) := ne_toInt b_7; have i8 : w.toInt ≠ (8 : Int) := ne_toInt b_8; have i9 : w.toInt ≠ (9 : Int) := ne_toInt b_9; have i10 : w.toInt ≠ (10 : Int) := ne_toInt b_10; have i11 : w.toInt ≠ (11 : Int) := ne_toInt b_11; have i12 : w.toInt ≠ (12 : Int) := ne_toInt b_12; have i13 : w.toInt ≠ (13 : Int) := ne_toInt b_13; have i14 : w.toInt ≠ (14 : Int) := ne_toInt b_14; have i15 : w.toInt ≠ (15 : Int) := ne_toInt b_15; have i16 : w.toInt ≠ (16 : Int) := ne_toInt b_16; omega) (by decide) (kk S H locs hP hV hS)
