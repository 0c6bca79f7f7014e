/-! THE HEAP AGAINST THE MEMORY: every cell of the list lies at its address and holds what the memory says. -/
def cells : List Nat := [0, 1025, 1026, 1027, 1028, 1029, 1030, 1031, 1032, 1, 1089, 1090, 1091, 1092, 1093, 1094, 1095, 1096, 2, 1153, 1154, 1155, 1156, 1157, 1158, 1159, 1160, 64, 5123, 5124, 5125, 5126, 5127, 128, 192, 13313, 13314, 13315, 13320, 13321, 13322, 256, 17409, 17410, 17411, 320, 21505, 21506, 384, 25600, 512, 33794, 33798, 33799, 33800, 33803, 33805, 33807, 33809, 33810, 513, 33858, 33862, 33863, 33864, 33867, 33869, 33871, 33873, 33874, 576, 37894, 640, 41991, 41992, 41993, 41994, 41995, 41996, 704, 768, 50177, 50178, 50180, 50187, 50189, 50192, 50193, 50194, 50200, 50201, 50202, 50203, 50204, 50206, 50207, 50208, 50209, 50210, 50211, 50212, 50213, 50215, 50216, 70000]
theorem cells_nd : va_nd cells = true := by decide +kernel
def er (ad : Nat → Nat) (r : Nat) : Option Nat := if r = 0 then none else some (ad r)
def fv (ad : Nat → Nat) (M : Mm) (k s : Nat) : Value := match fk (k / 64) s with
  | 0 => .int (M.1 k s)
  | 1 => .long (M.2.1 k s)
  | 2 => .ref (ad (RC k s))
  | 3 => .ref (ad (1024 + 64 * k + s))
  | 4 => va_rf (er ad (M.2.2 k s))
  | _ => .int (M.1 k s)
abbrev cid : Type := ClassId × ClassId × ClassId × ClassId
def fvs (ad : Nat → Nat) (M : Mm) (k : Nat) : List Value := (List.range (nfL.getD (k / 64) 0)).map (fv ad M k)
def arE (cs : cid) (ad : Nat → Nat) (M : Mm) (k t : Nat) : va_E := match t with
  | 1 => .inl (cs.1, len k, .inl (M.1 k))
  | 2 => .inl (cs.2.1, len k, .inr (.inl (M.2.1 k)))
  | 3 => .inl (cs.2.2.1, len k, .inl (M.1 k))
  | _ => .inl (cs.2.2.2, len k, .inr (.inr (.inr (.inr (fun j => er ad (M.2.2 k j))))))
def ent (cs : cid) (ad : Nat → Nat) (M : Mm) (k : Nat) : va_E := if k < 1024 then .inr (k / 64, fvs ad M k) else arE cs ad M k (typ k)
def wsO (cs : cid) (ad : Nat → Nat) (M : Mm) : va_W := cells.map (fun k => (ad k, ent cs ad M k))
def tysO (cs : cid) : List (ClassId × FieldType) := [(cs.1, .int), (cs.2.1, .long), (cs.2.2.1, .byte), (cs.2.2.2, .object "WellPumps$Thing")]
def BY (M : Mm) : Prop := ∀ k, isAr k = true → typ k = 3 → ∀ j, (M.1 k j).toInt8.toInt32 = M.1 k j
def SCO (L : Nat) (xs : Nat → Int32) (M : Mm) : Prop := M.1 70001 4000 = nI L ∧ ∀ j, j < L → M.1 70001 j = xs j
def HOK (D : va_G) (cs : cid) (ad : Nat → Nat) (L : Nat) (xs : Nat → Int32) (M : Mm) (H : Heap) : Prop := va_P D vwCl (wsO cs ad M) H ∧ BY M ∧ SCO L xs M
/-- the addresses: apart, and above the base -/
def ADK (ad : Nat → Nat) (base : Nat) : Prop := (∀ j k, j ∈ cells → k ∈ cells → ad j = ad k → j = k) ∧ ∀ k, k ∈ cells → base ≤ ad k
theorem obCell_fin : ∀ c, c < 13 → ∀ t, t < 3 → isOb c (64 * c + t) = true → (64 * c + t) ∈ cells := by decide +kernel
theorem cntL_0 {c : Nat} (h : 13 ≤ c) : cntL.getD c 0 = 0 := by
  rw [List.getD_eq_getElem?_getD, List.getElem?_eq_none (by exact h)]; rfl
theorem cntL_3 : ∀ c, c < 13 → cntL.getD c 0 ≤ 3 := by decide +kernel
theorem isOb_spec {c o : Nat} (h : isOb c o = true) : o ∈ cells ∧ o / 64 = c ∧ o < 1024 ∧ c < 13 := by
  unfold isOb at h
  simp only [Bool.and_eq_true] at h
  have h1 := beqN h.1
  have h2 : o % 64 < cntL.getD c 0 := Nat.blt_eq.mp h.2
  have hc : c < 13 := by
    rcases Nat.lt_or_ge c 13 with q | q
    · exact q
    · rw [cntL_0 q] at h2; omega
  have h3 := cntL_3 c hc
  have e : o = 64 * c + o % 64 := by omega
  refine ⟨?_, h1, by omega, hc⟩
  rw [e]
  refine obCell_fin c hc _ (by omega) ?_
  rw [← e]
  unfold isOb
  simp only [Bool.and_eq_true]
  exact h
theorem arCell_fin0 : (List.range 13).all (fun c => (List.range 3).all (fun t => (List.range 64).all (fun s => !(isAr (1024 + 4096 * c + 64 * t + s)) || cells.contains (1024 + 4096 * c + 64 * t + s)))) = true := by decide +kernel
theorem arCell_fin (c : Nat) (hc : c < 13) (t : Nat) (ht : t < 3) (s : Nat) (hs : s < 64) (h : isAr (1024 + 4096 * c + 64 * t + s) = true) : (1024 + 4096 * c + 64 * t + s) ∈ cells := by
  have h1 := List.all_eq_true.mp arCell_fin0 c (List.mem_range.mpr hc)
  have h2 := List.all_eq_true.mp h1 t (List.mem_range.mpr ht)
  have h3 := List.all_eq_true.mp h2 s (List.mem_range.mpr hs)
  rw [h] at h3
  simpa using h3
theorem isAr_spec {k : Nat} (h : isAr k = true) : k ∈ cells ∧ ¬ k < 1024 := by
  by_cases e7 : k = 70000
  · subst e7; exact ⟨by decide +kernel, by decide⟩
  · have h0 := h
    unfold isAr at h
    simp only [Bool.or_eq_true, Bool.and_eq_true] at h
    rcases h with h | ⟨⟨h1, h2⟩, -⟩
    · exact absurd (beqN h) e7
    · have h1 := Nat.le_of_ble_eq_true h1
      have h2 : ((k - 1024) / 64) % 64 < cntL.getD ((k - 1024) / 4096) 0 := Nat.blt_eq.mp h2
      have hc : (k - 1024) / 4096 < 13 := by
        rcases Nat.lt_or_ge ((k - 1024) / 4096) 13 with q | q
        · exact q
        · rw [cntL_0 q] at h2; omega
      have h3 := cntL_3 _ hc
      have e : k = 1024 + 4096 * ((k - 1024) / 4096) + 64 * (((k - 1024) / 64) % 64) + k % 64 := by omega
      refine ⟨?_, by omega⟩
      rw [e]
      refine arCell_fin _ hc _ (by omega) _ (by omega) ?_
      rw [← e]
      exact h0
theorem ws_at {cs : cid} {ad : Nat → Nat} {M : Mm} {k : Nat} (h : k ∈ cells) : ∃ p : Nat, cells[p]? = some k ∧ (wsO cs ad M)[p]? = some (ad k, ent cs ad M k) := by
  obtain ⟨p, hp⟩ := List.getElem?_of_mem h
  exact ⟨p, hp, by unfold wsO; rw [List.getElem?_map, hp]; rfl⟩
/-- one cell has changed -/
theorem ws_set {cs : cid} {ad : Nat → Nat} {M M' : Mm} {k p : Nat} (hp : cells[p]? = some k) (ho : ∀ j, j ∈ cells → j ≠ k → ent cs ad M' j = ent cs ad M j) : (wsO cs ad M).set p (ad k, ent cs ad M' k) = wsO cs ad M' := by
  apply List.ext_getElem?
  intro i
  by_cases hi : i = p
  · subst hi
    have hl : i < cells.length := (List.getElem?_eq_some_iff.mp hp).1
    rw [List.getElem?_set_self (by unfold wsO; rw [List.length_map]; exact hl)]
    unfold wsO
    rw [List.getElem?_map, hp]
    rfl
  · rw [List.getElem?_set_ne (Ne.symm hi)]
    unfold wsO
    rw [List.getElem?_map, List.getElem?_map]
    cases hc : cells[i]? with
    | none => rfl
    | some j =>
      have hj : j ≠ k := fun e => by
        subst e
        exact hi (va_nd_inj cells cells_nd i p j hc hp)
      show some (ad j, ent cs ad M j) = some (ad j, ent cs ad M' j)
      rw [ho j (List.mem_of_getElem? hc) hj]
theorem ws_D {cs : cid} {ad : Nat → Nat} {M : Mm} {base : Nat} (h : ADK ad base) : va_D (fun q => base ≤ q) (wsO cs ad M) := by
  have key : ∀ (i : Nat) (q : Nat × va_E), (wsO cs ad M)[i]? = some q → ∃ k, cells[i]? = some k ∧ q.1 = ad k := by
    intro i q hq
    unfold wsO at hq
    rw [List.getElem?_map] at hq
    cases hc : cells[i]? with
    | none => rw [hc] at hq; cases hq
    | some k => rw [hc] at hq; cases hq; exact ⟨k, rfl, rfl⟩
  refine ⟨fun i j x y hi hj hxy => ?_, fun i q hq => ?_⟩
  · obtain ⟨a, h1, h2⟩ := key i x hi
    obtain ⟨b, h3, h4⟩ := key j y hj
    have e : a = b := h.1 a b (List.mem_of_getElem? h1) (List.mem_of_getElem? h3) (by rw [← h2, ← h4]; exact hxy)
    subst e
    exact va_nd_inj cells cells_nd i j a h1 h3
  · obtain ⟨a, h1, h2⟩ := key i q hq
    rw [h2]
    exact h.2 a (List.mem_of_getElem? h1)
theorem fvs_at {ad : Nat → Nat} {M : Mm} {o k : Nat} (h : k < nfL.getD (o / 64) 0) : (fvs ad M o)[k]? = some (fv ad M o k) := by
  unfold fvs
  rw [List.getElem?_map, List.getElem?_range h]
  rfl
theorem fvs_len {ad : Nat → Nat} {M : Mm} {o : Nat} : (fvs ad M o).length = nfL.getD (o / 64) 0 := by
  unfold fvs
  rw [List.length_map, List.length_range]
theorem fvs_set {ad : Nat → Nat} {M M' : Mm} {o k : Nat} {v : Value} (hv : fv ad M' o k = v) (ho : ∀ j, j ≠ k → fv ad M' o j = fv ad M o j) : (fvs ad M o).set k v = fvs ad M' o := by
  apply List.ext_getElem?
  intro i
  by_cases hi : i < nfL.getD (o / 64) 0
  · by_cases e : i = k
    · subst e
      rw [List.getElem?_set_self (by rw [fvs_len]; exact hi), fvs_at hi, hv]
    · rw [List.getElem?_set_ne (Ne.symm e), fvs_at hi, fvs_at hi, ho i e]
  · rw [List.getElem?_eq_none (by rw [List.length_set, fvs_len]; omega), List.getElem?_eq_none (by rw [fvs_len]; omega)]
-- what a write leaves
theorem sI_at (M : Mm) (k j : Nat) (v : Int32) : (sI M k j v).1 k j = v := by simp [sI]
theorem sI_ne (M : Mm) {k j a b : Nat} (v : Int32) (h : ¬ (a = k ∧ b = j)) : (sI M k j v).1 a b = M.1 a b := by simp only [sI]; rw [if_neg h]
theorem sI_row (M : Mm) (k j : Nat) (v : Int32) : (sI M k j v).1 k = upd (M.1 k) j v := by
  funext b
  by_cases e : b = j
  · subst e; simp [sI, upd]
  · simp [sI, upd, e]
theorem sI_row_ne (M : Mm) {k a : Nat} (j : Nat) (v : Int32) (h : a ≠ k) : (sI M k j v).1 a = M.1 a := by
  funext b
  exact sI_ne M v (fun q => h q.1)
theorem sJ_at (M : Mm) (k j : Nat) (v : Int64) : (sJ M k j v).2.1 k j = v := by simp [sJ]
theorem sJ_ne (M : Mm) {k j a b : Nat} (v : Int64) (h : ¬ (a = k ∧ b = j)) : (sJ M k j v).2.1 a b = M.2.1 a b := by simp only [sJ]; rw [if_neg h]
theorem sJ_row (M : Mm) (k j : Nat) (v : Int64) : (sJ M k j v).2.1 k = vp_updL (M.2.1 k) j v := by
  funext b
  by_cases e : b = j
  · subst e; simp [sJ, vp_updL]
  · simp [sJ, vp_updL, e]
theorem sJ_row_ne (M : Mm) {k a : Nat} (j : Nat) (v : Int64) (h : a ≠ k) : (sJ M k j v).2.1 a = M.2.1 a := by
  funext b
  exact sJ_ne M v (fun q => h q.1)
theorem sR_at (M : Mm) (k j v : Nat) : (sR M k j v).2.2 k j = v := by simp [sR]
theorem sR_ne (M : Mm) {k j a b : Nat} (v : Nat) (h : ¬ (a = k ∧ b = j)) : (sR M k j v).2.2 a b = M.2.2 a b := by simp only [sR]; rw [if_neg h]
theorem ent_sI {cs : cid} {ad : Nat → Nat} {M : Mm} {k j a : Nat} {v : Int32} (h : a ≠ k) : ent cs ad (sI M k j v) a = ent cs ad M a := by
  unfold ent
  have e1 : fvs ad (sI M k j v) a = fvs ad M a := by
    unfold fvs; congr 1; funext s; unfold fv
    have e : (sI M k j v).1 a s = M.1 a s := sI_ne M v (fun q => h q.1)
    rw [e]; rfl
  have e2 : arE cs ad (sI M k j v) a (typ a) = arE cs ad M a (typ a) := by
    unfold arE; rw [sI_row_ne M j v h]; rfl
  rw [e1, e2]
theorem ent_sJ {cs : cid} {ad : Nat → Nat} {M : Mm} {k j a : Nat} {v : Int64} (h : a ≠ k) : ent cs ad (sJ M k j v) a = ent cs ad M a := by
  unfold ent
  have e1 : fvs ad (sJ M k j v) a = fvs ad M a := by
    unfold fvs; congr 1; funext s; unfold fv
    have e : (sJ M k j v).2.1 a s = M.2.1 a s := sJ_ne M v (fun q => h q.1)
    rw [e]; rfl
  have e2 : arE cs ad (sJ M k j v) a (typ a) = arE cs ad M a (typ a) := by
    unfold arE; rw [sJ_row_ne M j v h]; rfl
  rw [e1, e2]
theorem ent_sR {cs : cid} {ad : Nat → Nat} {M : Mm} {k j a v : Nat} (h : a ≠ k) : ent cs ad (sR M k j v) a = ent cs ad M a := by
  unfold ent
  have e0 : ∀ s, (sR M k j v).2.2 a s = M.2.2 a s := fun s => sR_ne M v (fun q => h q.1)
  have e1 : fvs ad (sR M k j v) a = fvs ad M a := by
    unfold fvs; congr 1; funext s; unfold fv
    rw [e0]; rfl
  have e2 : arE cs ad (sR M k j v) a (typ a) = arE cs ad M a (typ a) := by
    unfold arE; simp only [e0]; rfl
  rw [e1, e2]

