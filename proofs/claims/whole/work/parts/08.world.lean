abbrev vwCl : List vw_C := [(RX0, TX0, 7), (RX1, TX1, 1), (RX2, TX2, 6), (RX3, TX3, 5), (RX4, TX4, 4), (RX5, TX5, 10), (RX6, TX6, 10), (RX7, TX7, 5), (RX8, TX8, 16), (RX9, TX9, 48)]
/-! THE WORLD: where each cell lies, ad tells -/
abbrev y4 : Type := ClassId × ClassId × ClassId × ClassId
def lyTab : List (Nat × Nat × List Nat) := [(0, 8, [2, 0, 2, 2, 2, 2, 2, 2, 2, 0, 0, 0, 0, 0, 0, 0]), (1, 40, []), (0, 5, [0, 2, 0, 2, 0, 0, 0, 0, 2, 0]), (1, 40, []), (1, 40, []), (1, 40, []), (0, 7, [2, 2, 2, 2, 0]), (1, 10, []), (1, 10, []), (1, 10, []), (1, 10, []), (0, 7, [2, 2, 2, 2, 0]), (1, 10, []), (1, 10, []), (1, 10, []), (1, 10, []), (0, 3, [2, 2, 2, 2, 0]), (1, 10, []), (1, 10, []), (1, 10, []), (1, 10, []), (0, 2, [2, 2, 2, 2, 0, 0]), (1, 10, []), (0, 6, [2, 2, 2, 0, 2, 2, 0, 0, 0, 0]), (3, 22, []), (4, 23, []), (0, 4, [2, 2, 0, 0]), (1, 10, []), (0, 9, [0, 2, 0, 2, 2, 2, 2, 0, 0, 0, 0, 0, 2, 0, 0, 0, 0, 0, 0, 2, 2, 2, 2, 2, 2, 2, 2, 0, 0, 2, 2, 0, 0, 0, 0, 0, 0, 0, 0, 0, 0, 1, 2, 2, 2, 2, 2, 1]), (1, 40, []), (1, 400, []), (1, 10, []), (1, 10, []), (1, 10, []), (1, 40, []), (1, 64, []), (1, 64, []), (1, 64, []), (1, 10, []), (1, 10, []), (1, 40, []), (1, 10, []), (2, 100, []), (2, 6400, []), (2, 640, []), (1, 64, []), (1, 64, []), (1, 64, []), (1, 65, []), (1, 10, [])]
def lyRef : List (List Nat) := [[1, 0, 2, 6, 11, 16, 21, 23, 26, 0, 0, 0, 0, 0, 0, 0], [], [0, 3, 0, 4, 0, 0, 0, 0, 5, 0], [], [], [], [7, 8, 9, 10, 0], [], [], [], [], [12, 13, 14, 15, 0], [], [], [], [], [17, 18, 19, 20, 0], [], [], [], [], [6, 16, 96, 22, 0, 0], [], [6, 16, 24, 0, 25, 95, 0, 0, 0, 0], [], [], [23, 27, 0, 0], [], [0, 29, 0, 30, 31, 32, 33, 0, 0, 0, 0, 0, 34, 0, 0, 0, 0, 0, 0, 35, 36, 37, 38, 39, 40, 41, 42, 0, 0, 43, 44, 0, 0, 0, 0, 0, 0, 0, 0, 0, 0, 0, 45, 46, 47, 48, 49, 0], [], [], [], [], [], [], [], [], [], [], [], [], [], [], [], [], [], [], [], [], []]
def lyT (c : Nat) : Nat × Nat × List Nat := if 97 ≤ c then (2, 100, []) else if 72 ≤ c then (0, 1, [2]) else if 50 ≤ c then (0, 0, [0, 0, 0, 0, 0, 0, 0]) else lyTab.getD c (9, 0, [])
def lyR (c k : Nat) : Nat := if 72 ≤ c then c + 25 else (lyRef.getD c []).getD k 0
def lyF (ad : Nat → Nat) (S : St) (c k t : Nat) : Value := if t = 0 then .int (S.1 c k) else if t = 1 then .long (S.2 c k) else .ref (ad (lyR c k))
def lyO (ad : Nat → Nat) (S : St) (c : Nat) (ts : List Nat) : List Value := (List.range ts.length).map (fun k => lyF ad S c k (ts.getD k 0))
def lyE (y : y4) (ad : Nat → Nat) (S : St) (c : Nat) : va_E :=
  if (lyT c).1 = 0 then .inr ((lyT c).2.1, lyO ad S c (lyT c).2.2)
  else if (lyT c).1 = 1 then .inl (y.1, (lyT c).2.1, .inl (S.1 c))
  else if (lyT c).1 = 2 then .inl (y.2.1, (lyT c).2.1, .inr (.inl (S.2 c)))
  else if (lyT c).1 = 3 then .inl (y.2.2.1, (lyT c).2.1, .inr (.inr (.inr (.inr (fun j => some (ad (50 + j)))))))
  else .inl (y.2.2.2, (lyT c).2.1, .inr (.inr (.inr (.inr (fun j => some (ad (72 + j)))))))
def wl (y : y4) (ad : Nat → Nat) (S : St) : va_W := (List.range 122).map (fun c => (ad c, lyE y ad S c))
theorem wl_get {y : y4} {ad : Nat → Nat} {S : St} {c : Nat} (h : c < 122) : (wl y ad S)[c]? = some (ad c, lyE y ad S c) := by
  simp [wl, List.getElem?_map, List.getElem?_range h]
theorem wl_set {y : y4} {ad : Nat → Nat} {S S' : St} {c : Nat} {e : va_E} (h : c < 122) (he : lyE y ad S' c = e) (hn : ∀ d, d ≠ c → lyE y ad S' d = lyE y ad S d) : (wl y ad S).set c (ad c, e) = wl y ad S' := by
  apply List.ext_getElem?
  intro i
  by_cases hi : i = c
  · subst hi
    rw [wl_get h, List.getElem?_set_self (by simpa [wl] using h), he]
  · rw [List.getElem?_set_ne (fun q => hi q.symm)]
    by_cases hl : i < 122
    · rw [wl_get hl, wl_get hl, hn i hi]
    · have e1 : ∀ T : St, (wl y ad T)[i]? = none := fun T => List.getElem?_eq_none (by simp [wl]; omega)
      rw [e1, e1]
/-- the cells of the world -/
def AA (ad : Nat → Nat) : Nat → Prop := fun q => ∃ c, c < 122 ∧ q = ad c
def Inj (ad : Nat → Nat) : Prop := ∀ c d, c < 122 → d < 122 → ad c = ad d → c = d
theorem wl_D {y : y4} {ad : Nat → Nat} (hI : Inj ad) (S : St) : va_D (AA ad) (wl y ad S) := by
  have hh : ∀ (i : Nat) (p : Nat × va_E), (wl y ad S)[i]? = some p → i < 122 ∧ p.1 = ad i := by
    intro i p h
    have hl : i < 122 := by
      have := (List.getElem?_eq_some_iff.mp h).1
      simpa [wl] using this
    rw [wl_get hl] at h
    exact ⟨hl, by rw [← Option.some.inj h]⟩
  refine ⟨fun i j p q h1 h2 e => ?_, fun k q h => ⟨k, (hh k q h).1, (hh k q h).2⟩⟩
  exact hI i j (hh i p h1).1 (hh j q h2).1 (by rw [← (hh i p h1).2, ← (hh j q h2).2, e])
def PW (D : va_G) (y : y4) (ad : Nat → Nat) (S : St) (H : Heap) : Prop := va_P D vwCl (wl y ad S) H
abbrev tysY (y : y4) : List (ClassId × FieldType) := [(y.1, .int), (y.2.1, .long), (y.2.2.1, .object "JoinedTheories$Clause"), (y.2.2.2, .object "JoinedTheories$Distances")]
theorem lyE_obj {y : y4} {ad : Nat → Nat} {S : St} {c ci : Nat} {ts : List Nat} (h : lyT c = (0, ci, ts)) : lyE y ad S c = .inr (ci, lyO ad S c ts) := by
  simp [lyE, h]
theorem lyE_I {y : y4} {ad : Nat → Nat} {S : St} {c n : Nat} {ts : List Nat} (h : lyT c = (1, n, ts)) : lyE y ad S c = .inl (y.1, n, .inl (S.1 c)) := by
  simp [lyE, h]
theorem lyE_J {y : y4} {ad : Nat → Nat} {S : St} {c n : Nat} {ts : List Nat} (h : lyT c = (2, n, ts)) : lyE y ad S c = .inl (y.2.1, n, .inr (.inl (S.2 c))) := by
  simp [lyE, h]
theorem lyE_C {y : y4} {ad : Nat → Nat} {S : St} {c n : Nat} {ts : List Nat} (h : lyT c = (3, n, ts)) : lyE y ad S c = .inl (y.2.2.1, n, .inr (.inr (.inr (.inr (fun j => some (ad (50 + j))))))) := by
  simp [lyE, h]
theorem lyE_D {y : y4} {ad : Nat → Nat} {S : St} {c n : Nat} {ts : List Nat} (h : lyT c = (4, n, ts)) : lyE y ad S c = .inl (y.2.2.2, n, .inr (.inr (.inr (.inr (fun j => some (ad (72 + j))))))) := by
  simp [lyE, h]
theorem lyO_at {ad : Nat → Nat} {S : St} {c k t : Nat} {ts : List Nat} (h : ts[k]? = some t) : (lyO ad S c ts)[k]? = some (lyF ad S c k t) := by
  have hk : k < ts.length := (List.getElem?_eq_some_iff.mp h).1
  simp [lyO, List.getElem?_map, List.getElem?_range hk, List.getD_eq_getElem?_getD, h]
theorem lyO_len {ad : Nat → Nat} {S : St} {c : Nat} {ts : List Nat} : (lyO ad S c ts).length = ts.length := by simp [lyO]
theorem lyO_setI {ad : Nat → Nat} {S : St} {c k : Nat} {ts : List Nat} (v : Int32) (h : ts[k]? = some 0) : lyO ad (sI S c k v) c ts = (lyO ad S c ts).set k (.int v) := by
  apply List.ext_getElem?
  intro i
  by_cases hi : i = k
  · subst hi
    rw [List.getElem?_set_self (by rw [lyO_len]; exact (List.getElem?_eq_some_iff.mp h).1), lyO_at h]
    simp [lyF, sI]
  · rw [List.getElem?_set_ne (fun q => hi q.symm)]
    cases hq : ts[i]? with
    | none =>
      have hl := List.getElem?_eq_none_iff.mp hq
      rw [List.getElem?_eq_none (by rw [lyO_len]; exact hl), List.getElem?_eq_none (by rw [lyO_len]; exact hl)]
    | some t =>
      rw [lyO_at hq, lyO_at hq]
      simp [lyF, sI, hi]
theorem lyO_setL {ad : Nat → Nat} {S : St} {c k : Nat} {ts : List Nat} (v : Int64) (h : ts[k]? = some 1) : lyO ad (sL S c k v) c ts = (lyO ad S c ts).set k (.long v) := by
  apply List.ext_getElem?
  intro i
  by_cases hi : i = k
  · subst hi
    rw [List.getElem?_set_self (by rw [lyO_len]; exact (List.getElem?_eq_some_iff.mp h).1), lyO_at h]
    simp [lyF, sL]
  · rw [List.getElem?_set_ne (fun q => hi q.symm)]
    cases hq : ts[i]? with
    | none =>
      have hl := List.getElem?_eq_none_iff.mp hq
      rw [List.getElem?_eq_none (by rw [lyO_len]; exact hl), List.getElem?_eq_none (by rw [lyO_len]; exact hl)]
    | some t =>
      rw [lyO_at hq, lyO_at hq]
      simp [lyF, sL, hi]
theorem lyE_sI {y : y4} {ad : Nat → Nat} {S : St} {c k d : Nat} {v : Int32} (h : d ≠ c) : lyE y ad (sI S c k v) d = lyE y ad S d := by
  have e1 : ∀ b, (sI S c k v).1 d b = S.1 d b := fun b => by simp [sI, h]
  have e2 : (sI S c k v).1 d = S.1 d := funext e1
  have e3 : (sI S c k v).2 = S.2 := rfl
  have e4 : ∀ ts, lyO ad (sI S c k v) d ts = lyO ad S d ts := fun ts => by simp only [lyO, lyF, e1, e3]
  simp only [lyE, e2, e3, e4]
theorem lyE_sL {y : y4} {ad : Nat → Nat} {S : St} {c k d : Nat} {v : Int64} (h : d ≠ c) : lyE y ad (sL S c k v) d = lyE y ad S d := by
  have e1 : ∀ b, (sL S c k v).2 d b = S.2 d b := fun b => by simp [sL, h]
  have e2 : (sL S c k v).2 d = S.2 d := funext e1
  have e3 : (sL S c k v).1 = S.1 := rfl
  have e4 : ∀ ts, lyO ad (sL S c k v) d ts = lyO ad S d ts := fun ts => by simp only [lyO, lyF, e1, e3]
  simp only [lyE, e2, e3, e4]
theorem lyE_sR {y : y4} {ad : Nat → Nat} {S : St} {c d : Nat} {f : Nat → Int64} (h : d ≠ c) : lyE y ad (sR S c f) d = lyE y ad S d := by
  have e1 : ∀ b, (sR S c f).2 d b = S.2 d b := fun b => by simp [sR, h]
  have e2 : (sR S c f).2 d = S.2 d := funext e1
  have e3 : (sR S c f).1 = S.1 := rfl
  have e4 : ∀ ts, lyO ad (sR S c f) d ts = lyO ad S d ts := fun ts => by simp only [lyO, lyF, e1, e3]
  simp only [lyE, e2, e3, e4]
theorem PW.setI {D : va_G} {y : y4} {ad : Nat → Nat} {S : St} {c k ci : Nat} {ts : List Nat} {v : Int32} {H : Heap} (hc : c < 122) (ht : lyT c = (0, ci, ts)) (hk : ts[k]? = some 0) (h : va_P D vwCl ((wl y ad S).set c (ad c, .inr (ci, (lyO ad S c ts).set k (.int v)))) H) : PW D y ad (sI S c k v) H := by
  unfold PW
  rw [wl_set hc (by rw [lyE_obj ht, lyO_setI v hk]) (fun d hd => lyE_sI hd)] at h
  exact h
theorem PW.setL {D : va_G} {y : y4} {ad : Nat → Nat} {S : St} {c k ci : Nat} {ts : List Nat} {v : Int64} {H : Heap} (hc : c < 122) (ht : lyT c = (0, ci, ts)) (hk : ts[k]? = some 1) (h : va_P D vwCl ((wl y ad S).set c (ad c, .inr (ci, (lyO ad S c ts).set k (.long v)))) H) : PW D y ad (sL S c k v) H := by
  unfold PW
  rw [wl_set hc (by rw [lyE_obj ht, lyO_setL v hk]) (fun d hd => lyE_sL hd)] at h
  exact h
theorem PW.arrI {D : va_G} {y : y4} {ad : Nat → Nat} {S : St} {c k n : Nat} {ts : List Nat} {v : Int32} {H : Heap} (hc : c < 122) (ht : lyT c = (1, n, ts)) (h : va_P D vwCl ((wl y ad S).set c (ad c, .inl (y.1, n, .inl (upd (S.1 c) k v)))) H) : PW D y ad (sI S c k v) H := by
  have e1 : (sI S c k v).1 c = upd (S.1 c) k v := by funext b; simp [sI, upd]
  unfold PW
  rw [wl_set hc (by rw [lyE_I ht, e1]) (fun d hd => lyE_sI hd)] at h
  exact h
theorem PW.arrL {D : va_G} {y : y4} {ad : Nat → Nat} {S : St} {c k n : Nat} {ts : List Nat} {v : Int64} {H : Heap} (hc : c < 122) (ht : lyT c = (2, n, ts)) (h : va_P D vwCl ((wl y ad S).set c (ad c, .inl (y.2.1, n, .inr (.inl (vp_updL (S.2 c) k v))))) H) : PW D y ad (sL S c k v) H := by
  have e1 : (sL S c k v).2 c = vp_updL (S.2 c) k v := by funext b; simp [sL, vp_updL]
  unfold PW
  rw [wl_set hc (by rw [lyE_J ht, e1]) (fun d hd => lyE_sL hd)] at h
  exact h
theorem PW.row {D : va_G} {y : y4} {ad : Nat → Nat} {S : St} {c n : Nat} {ts : List Nat} {f : Nat → Int64} {H : Heap} (hc : c < 122) (ht : lyT c = (2, n, ts)) (h : va_P D vwCl ((wl y ad S).set c (ad c, .inl (y.2.1, n, .inr (.inl f)))) H) : PW D y ad (sR S c f) H := by
  have e1 : (sR S c f).2 c = f := by funext b; simp [sR]
  unfold PW
  rw [wl_set hc (by rw [lyE_J ht, e1]) (fun d hd => lyE_sR hd)] at h
  exact h
def nwL : Cond := .fieldLinkNest "JoinedTheories$PairFinder" 56 "JoinedTheories" "LOWER" "[I" "JoinedTheories"
def nwU : Cond := .fieldLinkNest "JoinedTheories$PairFinder" 59 "JoinedTheories" "UPPER" "[I" "JoinedTheories"
def ZZ (ad : Nat → Nat) (aL aU : Nat) (U : State) (H : Heap) : Prop :=
  (va_Z "JoinedTheories" "LOWER" "[I" (.ref aL) (AA ad) U H ∧ va_T .int aL 10 (fun j => .int (loF j)) (AA ad) U H) ∧ (va_Z "JoinedTheories" "UPPER" "[I" (.ref aU) (AA ad) U H ∧ va_T .int aU 10 (fun j => .int (upF j)) (AA ad) U H) ∧ va_Nw nwL U ∧ va_Nw nwU U
/-- the world at the start of a method -/
def PWU (D : va_G) (y : y4) (ad : Nat → Nat) (aL aU : Nat) (S : St) (U : State) : Prop := PW D y ad S U.heap ∧ va_K D vwCl (tysY y) U ∧ ZZ ad aL aU U U.heap
