/-! Locals. -/
def okV : Value → Prop
  | .int _ => True
  | .long _ => True
  | .ref _ => True
  | _ => False
def lol (ad : Nat → Nat) : Nat → Lo → List (Nat × Value)
  | _, [] => []
  | k, none :: t => lol ad (k + 1) t
  | k, some v :: t => (k, rz ad v) :: lol ad (k + 1) t
theorem lol_mem {ad : Nat → Nat} : ∀ {L : Lo} {i k : Nat} {v : Value}, lgt L i = some v → (k + i, rz ad v) ∈ lol ad k L
  | [], i, k, v, h => by simp [lgt] at h
  | none :: t, 0, k, v, h => by simp [lgt] at h
  | some w :: t, 0, k, v, h => by
    have e : w = v := by simpa [lgt] using h
    subst e
    exact List.mem_cons_self
  | none :: t, i + 1, k, v, h => by
    have h1 := lol_mem (ad := ad) (k := k + 1) (show lgt t i = some v from h)
    rw [show k + 1 + i = k + (i + 1) by omega] at h1
    exact h1
  | some w :: t, i + 1, k, v, h => by
    have h1 := lol_mem (ad := ad) (k := k + 1) (show lgt t i = some v from h)
    rw [show k + 1 + i = k + (i + 1) by omega] at h1
    exact List.mem_cons_of_mem _ h1
theorem lol_spec {ad : Nat → Nat} : ∀ {L : Lo} {k : Nat} {q : Nat × Value}, q ∈ lol ad k L → ∃ i v, lgt L i = some v ∧ q = (k + i, rz ad v)
  | [], k, q, h => by cases h
  | none :: t, k, q, h => by
    obtain ⟨i, v, h1, h2⟩ := lol_spec (L := t) (k := k + 1) h
    exact ⟨i + 1, v, h1, by rw [h2, show k + 1 + i = k + (i + 1) by omega]⟩
  | some w :: t, k, q, h => by
    rcases List.mem_cons.mp h with h | h
    · exact ⟨0, w, rfl, h⟩
    · obtain ⟨i, v, h1, h2⟩ := lol_spec (L := t) (k := k + 1) h
      exact ⟨i + 1, v, h1, by rw [h2, show k + 1 + i = k + (i + 1) by omega]⟩
def LOK (ad : Nat → Nat) (ls : Array Slot) (n : Nat) (L : Lo) : Prop := lv_has ls n (lol ad 0 L) ∧ L.length = n ∧ ∀ i v, lgt L i = some v → okV v
theorem LOK.at {ad : Nat → Nat} {ls : Array Slot} {n i : Nat} {L : Lo} {v : Value} (h : LOK ad ls n L) (hv : lgt L i = some v) : ls[i]? = some (.val (rz ad v)) := by
  have h1 := h.1.2.2 _ (lol_mem (ad := ad) (k := 0) hv)
  simpa using h1
theorem LOK.sub {ad : Nat → Nat} {ls : Array Slot} {n : Nat} {L L' : Lo} (h : LOK ad ls n L) (hl : L'.length = L.length) (hs : ∀ i v, lgt L' i = some v → lgt L i = some v) : LOK ad ls n L' := by
  refine ⟨⟨h.1.1, h.1.2.1, fun q hq => ?_⟩, hl.trans h.2.1, fun i v hv => h.2.2 i v (hs i v hv)⟩
  obtain ⟨i, v, h1, rfl⟩ := lol_spec hq
  have h2 := h.at (hs i v h1)
  simpa using h2
theorem trim_len : ∀ (m : Nat) (L : Lo), (trim m L).length = L.length
  | _, [] => rfl
  | m, a :: t => by simp [trim, trim_len (m / 2) t]
theorem trim_get : ∀ (m : Nat) (L : Lo) (i : Nat) (v : Value), lgt (trim m L) i = some v → lgt L i = some v
  | _, [], i, v, h => h
  | m, a :: t, 0, v, h => by
    have h1 : cond (Nat.beq (m % 2) 1) a none = some v := h
    cases hb : Nat.beq (m % 2) 1 with
    | true => rw [hb] at h1; exact h1
    | false => rw [hb] at h1; cases h1
  | m, a :: t, i + 1, v, h => trim_get (m / 2) t i v h
theorem LOK.trim {ad : Nat → Nat} {ls : Array Slot} {n m : Nat} {L : Lo} (h : LOK ad ls n L) : LOK ad ls n (trim m L) := h.sub (trim_len m L) (trim_get m L)
theorem lkill_get {a : Option Value} {w : Value} (h : lkill a = some w) : a = some w ∧ ∀ x, w ≠ .long x := by
  unfold lkill at h
  split at h
  · cases h
  · rename_i hne
    refine ⟨h, fun x e => ?_⟩
    subst e
    exact hne x h
theorem lst1_len : ∀ (L : Lo) (i : Nat) (v : Option Value), (lst1 L i v).length = L.length
  | [], _, _ => rfl
  | _ :: t, 0, v => rfl
  | a :: t, 1, v => by simp [lst1, lst1_len t 0 v]
  | a :: t, n + 2, v => by simp [lst1, lst1_len t (n + 1) v]
theorem lst1_get : ∀ (L : Lo) (i : Nat) (v : Option Value) (j : Nat) (w : Value), lgt (lst1 L i v) j = some w → (j = i ∧ v = some w) ∨ (j ≠ i ∧ lgt L j = some w ∧ (j + 1 = i → ∀ x, w ≠ .long x))
  | [], i, v, j, w, h => by simp [lst1, lgt] at h
  | a :: t, 0, v, 0, w, h => Or.inl ⟨rfl, h⟩
  | a :: t, 0, v, j + 1, w, h => Or.inr ⟨by omega, h, fun e => by omega⟩
  | a :: t, 1, v, 0, w, h => by
    obtain ⟨h1, h2⟩ := lkill_get (show lkill a = some w from h)
    exact Or.inr ⟨by omega, h1, fun _ => h2⟩
  | a :: t, 1, v, j + 1, w, h => by
    rcases lst1_get t 0 v j w h with ⟨h1, h2⟩ | ⟨h1, h2, h3⟩
    · exact Or.inl ⟨by omega, h2⟩
    · exact Or.inr ⟨by omega, h2, fun e => by omega⟩
  | a :: t, n + 2, v, 0, w, h => Or.inr ⟨by omega, h, fun e => by omega⟩
  | a :: t, n + 2, v, j + 1, w, h => by
    rcases lst1_get t (n + 1) v j w h with ⟨h1, h2⟩ | ⟨h1, h2, h3⟩
    · exact Or.inl ⟨by omega, h2⟩
    · exact Or.inr ⟨by omega, h2, fun e => h3 (by omega)⟩
theorem lst2_len : ∀ (L : Lo) (i : Nat) (v : Option Value), (lst2 L i v).length = L.length
  | [], _, _ => rfl
  | [_], 0, _ => rfl
  | _ :: _ :: t, 0, v => rfl
  | [a], 1, v => rfl
  | a :: b :: t, 1, v => by
    show (lkill a :: lst2 (b :: t) 0 v).length = _
    simp [lst2_len (b :: t) 0 v]
  | [a], n + 2, v => rfl
  | a :: b :: t, n + 2, v => by
    show (a :: lst2 (b :: t) (n + 1) v).length = _
    simp [lst2_len (b :: t) (n + 1) v]
theorem lst2_get : ∀ (L : Lo) (i : Nat) (v : Option Value) (j : Nat) (w : Value), lgt (lst2 L i v) j = some w → (j = i ∧ v = some w) ∨ (j ≠ i ∧ j ≠ i + 1 ∧ lgt L j = some w ∧ (j + 1 = i → ∀ x, w ≠ .long x))
  | [], i, v, j, w, h => by simp [lst2, lgt] at h
  | [a], 0, v, 0, w, h => by simp [lst2, lgt] at h
  | [a], 0, v, j + 1, w, h => by simp [lst2, lgt] at h
  | a :: b :: t, 0, v, 0, w, h => Or.inl ⟨rfl, h⟩
  | a :: b :: t, 0, v, 1, w, h => by simp [lst2, lgt] at h
  | a :: b :: t, 0, v, j + 2, w, h => Or.inr ⟨by omega, by omega, h, fun e => by omega⟩
  | [a], 1, v, 0, w, h => by
    obtain ⟨h1, h2⟩ := lkill_get (show lkill a = some w from h)
    exact Or.inr ⟨by omega, by omega, h1, fun _ => h2⟩
  | a :: b :: t, 1, v, 0, w, h => by
    obtain ⟨h1, h2⟩ := lkill_get (show lkill a = some w from h)
    exact Or.inr ⟨by omega, by omega, h1, fun _ => h2⟩
  | [a], 1, v, j + 1, w, h => by simp [lst2, lgt] at h
  | a :: b :: t, 1, v, j + 1, w, h => by
    rcases lst2_get (b :: t) 0 v j w h with ⟨h1, h2⟩ | ⟨h1, h2, h3, h4⟩
    · exact Or.inl ⟨by omega, h2⟩
    · exact Or.inr ⟨by omega, by omega, h3, fun e => by omega⟩
  | [a], n + 2, v, 0, w, h => Or.inr ⟨by omega, by omega, h, fun e => by omega⟩
  | a :: b :: t, n + 2, v, 0, w, h => Or.inr ⟨by omega, by omega, h, fun e => by omega⟩
  | [a], n + 2, v, j + 1, w, h => by simp [lst2, lgt] at h
  | a :: b :: t, n + 2, v, j + 1, w, h => by
    rcases lst2_get (b :: t) (n + 1) v j w h with ⟨h1, h2⟩ | ⟨h1, h2, h3, h4⟩
    · exact Or.inl ⟨by omega, h2⟩
    · exact Or.inr ⟨by omega, by omega, h3, fun e => h4 (by omega)⟩
theorem cat_long {ad : Nat → Nat} {w : Value} (h : okV w) (h2 : ∀ x, w ≠ .long x) : ((rz ad w).category == 2) = false := by
  cases w with
  | long x => exact absurd rfl (h2 x)
  | int x => rfl
  | ref x => rfl
  | _ => exact h.elim
/-- behind a store of one place -/
theorem LOK.st1 {ad : Nat → Nat} {ls ls' : Array Slot} {n i : Nat} {L : Lo} {v : Value} (h : LOK ad ls n L) (hv : okV v) (h' : lv_has ls' n ((i, rz ad v) :: (lol ad 0 L).filter (fun q => !(q.1 == i) && !(q.1 + 1 == i && q.2.category == 2)))) : LOK ad ls' n (lst1 L i (some v)) := by
  refine ⟨⟨h'.1, h'.2.1, fun q hq => h'.2.2 q ?_⟩, (lst1_len _ _ _).trans h.2.1, fun j w hw => ?_⟩
  · obtain ⟨j, w, h1, rfl⟩ := lol_spec hq
    rw [Nat.zero_add]
    rcases lst1_get L i (some v) j w h1 with ⟨h2, h3⟩ | ⟨h2, h3, h4⟩
    · cases h3; subst h2; exact List.mem_cons_self
    · refine List.mem_cons_of_mem _ (List.mem_filter.mpr ⟨?_, ?_⟩)
      · have h5 := lol_mem (ad := ad) (k := 0) h3
        rwa [Nat.zero_add] at h5
      · have e1 : (j == i) = false := by simpa using h2
        show (!(j == i) && !(j + 1 == i && (rz ad w).category == 2)) = true
        rw [e1]
        by_cases e2 : j + 1 = i
        · rw [cat_long (h.2.2 j w h3) (h4 e2)]; simp
        · simp [e2]
  · rcases lst1_get L i (some v) j w hw with ⟨-, h3⟩ | ⟨-, h3, -⟩
    · cases h3; exact hv
    · exact h.2.2 j w h3
theorem LOK.st2 {ad : Nat → Nat} {ls ls' : Array Slot} {n i : Nat} {L : Lo} {v : Value} (h : LOK ad ls n L) (hv : okV v) (h' : lv_has ls' n ((i, rz ad v) :: (lol ad 0 L).filter (fun q => !(q.1 == i) && (!(q.1 == i + 1) && !(q.1 + 1 == i && q.2.category == 2))))) : LOK ad ls' n (lst2 L i (some v)) := by
  refine ⟨⟨h'.1, h'.2.1, fun q hq => h'.2.2 q ?_⟩, (lst2_len _ _ _).trans h.2.1, fun j w hw => ?_⟩
  · obtain ⟨j, w, h1, rfl⟩ := lol_spec hq
    rw [Nat.zero_add]
    rcases lst2_get L i (some v) j w h1 with ⟨h2, h3⟩ | ⟨h2, h2', h3, h4⟩
    · cases h3; subst h2; exact List.mem_cons_self
    · refine List.mem_cons_of_mem _ (List.mem_filter.mpr ⟨?_, ?_⟩)
      · have h5 := lol_mem (ad := ad) (k := 0) h3
        rwa [Nat.zero_add] at h5
      · have e1 : (j == i) = false := by simpa using h2
        have e1' : (j == i + 1) = false := by simpa using h2'
        show (!(j == i) && (!(j == i + 1) && !(j + 1 == i && (rz ad w).category == 2))) = true
        rw [e1, e1']
        by_cases e2 : j + 1 = i
        · rw [cat_long (h.2.2 j w h3) (h4 e2)]; simp
        · simp [e2]
  · rcases lst2_get L i (some v) j w hw with ⟨-, h3⟩ | ⟨-, -, h3, -⟩
    · cases h3; exact hv
    · exact h.2.2 j w h3
/-- the locals at a method's entry -/
def entL : List Value → Nat → Lo
  | [], n => List.replicate n none
  | .long x :: t, n => some (.long x) :: none :: entL t (n - 2)
  | v :: t, n => some v :: entL t (n - 1)
