/-! The start's heap. -/
def wr : List (Nat × Int32) → Nat → Int32
  | [], _ => 0
  | (a, v) :: t, j => if j = a then v else wr t j
def trE (cs : cid) (g : Nat → Nat) (x : AE) : va_E := match x with
  | .inl (c, fs) => .inr (c, fs.map (rz g))
  | .inr (t, n, ws) => match t with
    | 1 => .inl (cs.1, n, .inl (wr ws))
    | 2 => .inl (cs.2.1, n, .inr (.inl (fun _ => 0)))
    | 3 => .inl (cs.2.2.1, n, .inl (fun _ => 0))
    | _ => .inl (cs.2.2.2, n, .inr (.inr (.inr (.inr (fun _ => none)))))
def wsA (cs : cid) (g : Nat → Nat) (E : List AE) : va_W := E.mapIdx (fun i x => (g i, trE cs g x))
theorem wsA_get {cs : cid} {g : Nat → Nat} {E : List AE} (i : Nat) : (wsA cs g E)[i]? = (E[i]?).map (fun x => (g i, trE cs g x)) := by
  unfold wsA
  rw [List.getElem?_mapIdx]
theorem wsA_len {cs : cid} {g : Nat → Nat} {E : List AE} : (wsA cs g E).length = E.length := by
  unfold wsA
  rw [List.length_mapIdx]
theorem wsA_set {cs : cid} {g : Nat → Nat} {E : List AE} {o : Nat} {x : AE} : wsA cs g (E.set o x) = (wsA cs g E).set o (g o, trE cs g x) := by
  apply List.ext_getElem?
  intro i
  rw [wsA_get]
  by_cases e : i = o
  · subst e
    by_cases hl : i < E.length
    · rw [List.getElem?_set_self hl, List.getElem?_set_self (by rw [wsA_len]; exact hl)]
      rfl
    · rw [List.getElem?_eq_none (by rw [List.length_set]; omega), List.getElem?_eq_none (by rw [List.length_set, wsA_len]; omega)]
      rfl
  · rw [List.getElem?_set_ne (Ne.symm e), List.getElem?_set_ne (Ne.symm e), wsA_get]
def gup (g : Nat → Nat) (n q : Nat) : Nat → Nat := fun i => if i = n then q else g i
theorem rz_same {g g' : Nat → Nat} {n : Nat} (h : ∀ i, (i < n ∨ 70000 ≤ i) → g' i = g i) {v : Value} (hv : wfV n v = true) : rz g' v = rz g v := by
  cases v with
  | ref r =>
    have hv : (Nat.blt r n || Nat.ble 70000 r) = true := hv
    rw [Bool.or_eq_true] at hv
    show Value.ref (g' r) = Value.ref (g r)
    rw [h r (hv.imp (fun q => Nat.blt_eq.mp q) Nat.le_of_ble_eq_true)]
  | _ => rfl
theorem map_same {g g' : Nat → Nat} {n : Nat} (h : ∀ i, (i < n ∨ 70000 ≤ i) → g' i = g i) {l : List Value} (hl : l.all (wfV n) = true) : l.map (rz g') = l.map (rz g) :=
  List.map_congr_left fun v hv => rz_same h (List.all_eq_true.mp hl v hv)
theorem trE_same {cs : cid} {g g' : Nat → Nat} {n : Nat} (h : ∀ i, (i < n ∨ 70000 ≤ i) → g' i = g i) {x : AE} (hx : wfE n x = true) : trE cs g' x = trE cs g x := by
  unfold wfE at hx
  split at hx
  · unfold trE
    dsimp only
    rw [map_same h hx]
  · rfl
theorem wsA_same {cs : cid} {g g' : Nat → Nat} {E : List AE} (h : ∀ i, (i < E.length ∨ 70000 ≤ i) → g' i = g i) (hE : E.all (wfE E.length) = true) : wsA cs g' E = wsA cs g E := by
  apply List.ext_getElem?
  intro i
  rw [wsA_get, wsA_get]
  cases hi : E[i]? with
  | none => rfl
  | some x =>
    have hl := (List.getElem?_eq_some_iff.mp hi).1
    have hx := List.all_eq_true.mp hE x (List.mem_of_getElem? hi)
    show some (g' i, trE cs g' x) = some (g i, trE cs g x)
    rw [h i (Or.inl hl), trE_same h hx]
theorem wsA_push {cs : cid} {g : Nat → Nat} {E : List AE} {q : Nat} {x : AE} (hE : E.all (wfE E.length) = true) (hs : E.length < 60000) (hx : trE cs (gup g E.length q) x = trE cs g x) : wsA cs (gup g E.length q) (E ++ [x]) = wsA cs g E ++ [(q, trE cs g x)] := by
  have h : ∀ i, (i < E.length ∨ 70000 ≤ i) → gup g E.length q i = g i := fun i hi => by
    unfold gup
    rw [if_neg (by omega)]
  unfold wsA
  rw [List.mapIdx_append]
  have h1 : E.mapIdx (fun i x => (gup g E.length q i, trE cs (gup g E.length q) x)) = wsA cs g E := wsA_same h hE
  rw [h1]
  show wsA cs g E ++ [(gup g E.length q (0 + E.length), trE cs (gup g E.length q) x)] = _
  rw [Nat.zero_add, hx]
  unfold gup
  rw [if_pos rfl]
  rfl
theorem wfA_spec {L st : List Value} {E : List AE} (h : wfA L st E = true) : L.all (wfV E.length) = true ∧ st.all (wfV E.length) = true ∧ E.all (wfE E.length) = true ∧ E.length < 60000 := by
  unfold wfA at h
  have q := and2 h; have q2 := and2 q.2; have q3 := and2 q2.2
  exact ⟨q.1, q2.1, q3.1, Nat.blt_eq.mp q3.2⟩
theorem gup_ok {g : Nat → Nat} {n q : Nat} (hs : n < 60000) : ∀ i, (i < n ∨ 70000 ≤ i) → gup g n q i = g i := fun i hi => by
  unfold gup
  rw [if_neg (by omega)]
theorem dfl_rz {g : Nat → Nat} {c : Nat} : (dfl c).map (rz g) = dfl c := by
  unfold dfl
  rw [List.map_map]
  refine List.map_congr_left fun s _ => ?_
  dsimp only [Function.comp]
  split <;> rfl
theorem dfl_tr {cs : cid} {g g' : Nat → Nat} {c : Nat} : trE cs g' (.inl (c, dfl c)) = trE cs g (.inl (c, dfl c)) := by
  unfold trE
  dsimp only
  rw [dfl_rz, dfl_rz]
theorem arr_tr {cs : cid} {g g' : Nat → Nat} {t n : Nat} {ws : List (Nat × Int32)} : trE cs g' (.inr (t, n, ws)) = trE cs g (.inr (t, n, ws)) := rfl
theorem wr_upd (ws : List (Nat × Int32)) (j : Nat) (v : Int32) : wr ((j, v) :: ws) = upd (wr ws) j v := by
  funext b
  show (if b = j then v else wr ws b) = _
  unfold upd
  by_cases e : b = j
  · subst e; simp
  · simp [e]
theorem dfl_at : ∀ c, c < 13 → ∀ j, j < nfL.getD c 0 → defaultValue (tyc c j) = vp_V (dfl c) j := by decide +kernel
