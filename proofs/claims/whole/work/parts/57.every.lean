/-! The start: every constructor. -/
theorem rfs_of {as : List Value} {g : Nat → Nat} (h : as.all (fun v => isRf [v]) = true) : (lg_sl (as.map (rz g))).length = as.length := by
  induction as with
  | nil => rfl
  | cons v t ih =>
    have h2 := and2 (show (isRf [v] && t.all (fun v => isRf [v])) = true from h)
    have h3 := ih h2.2
    have h4 := h2.1
    unfold isRf at h4
    split at h4
    · rename_i r _ heq
      cases heq
      unfold lg_sl at h3 ⊢
      rw [List.map_cons, List.flatMap_cons, List.length_append, h3]
      show 1 + t.length = t.length + 1
      omega
    · cases h4
theorem ent_sz {as : List Value} {g : Nat → Nat} {k : Nat} (hr : as.all (fun v => isRf [v]) = true) (h : as.length = k) : ((lg_sl (as.map (rz g)) ++ List.replicate (k - (lg_sl (as.map (rz g))).length) Slot.unset).toArray).size = k := by
  have := rfs_of (g := g) hr
  simp [this, h]
theorem lg_rf : ∀ {as : List Value} {g : Nat → Nat}, as.all (fun v => isRf [v]) = true → lg_sl (as.map (rz g)) = as.map (fun v => Slot.val (rz g v))
  | [], _, _ => rfl
  | v :: t, g, h => by
    have h2 := and2 (show (isRf [v] && t.all (fun v => isRf [v])) = true from h)
    have h3 := lg_rf (g := g) h2.2
    have h4 := h2.1
    unfold isRf at h4
    split at h4
    · rename_i r _ heq
      cases heq
      unfold lg_sl at h3 ⊢
      rw [List.map_cons, List.flatMap_cons, h3]
      rfl
    · cases h4
theorem ent_at {as : List Value} {g : Nat → Nat} {n : Nat} (hr : as.all (fun v => isRf [v]) = true) : ∀ (k : Nat) (v : Value), as[k]? = some v → ((lg_sl (as.map (rz g)) ++ List.replicate n Slot.unset).toArray)[k]? = some (Slot.val (rz g v)) := by
  intro k v hv
  have hl := (List.getElem?_eq_some_iff.mp hv).1
  rw [lg_rf hr, List.getElem?_toArray, List.getElem?_append_left (by rw [List.length_map]; exact hl), List.getElem?_map, hv]
  rfl
theorem con_am {l : Launch} {D : va_G} {cs : cid} {base e0 : Nat} : ∀ dd, CA l D cs base e0 dd
  | 0 => fun c0 as E E' _ _ _ h => by cases h
  | dd + 1 => by
    intro c0 as E E' hCL hlen hrf h g he
    have h : amx (am dd) c0 (cI c0) 200 0 as [] E = some E' := h
    obtain ⟨w1, w2, w3, w4, w5, w6, w7⟩ := ctor_w c0 hCL
    refine va_MetF w4 rfl ?_
    intro p e s m args below meth c s₁ B hml hP
    obtain ⟨hv, hA, hK⟩ := hP
    have hown : s.vm.findClass (on c0) = some m.cls := by rw [← w5]; exact findClass_of_methodNamed B.named
    have hname : meth.name = "<init>" := by rw [← w6]; exact (name_of_methodNamed B.named B.method).1
    have hc : CI p (headSpec (Cond.code (yI c0) (cI c0) (naI c0 + 1) none :: BIG) (rmI (dd + 1 + 1) (E'.length - E.length) (sE E' - sE E))).room s m args c c0 (cI c0) (naI c0 + 1) D cs base e0 (dd + 2) (E'.length - E.length) (sE E' - sE E) :=
      ⟨B.exec, B.bytes, hml, fun w hw => atoms_spec (ws := Cond.code (yI c0) (cI c0) (naI c0 + 1) none :: BIG) B.pre w (List.mem_cons_of_mem _ hw), hown, hK, Nat.le_refl _, Nat.le_refl _, Nat.le_refl _, Nat.le_refl _⟩
    have hW := amx_sound (l := l) (e := e) (below := below) hc hname (av_of (l := l) (e := e) (below := below) (meth := meth) hc (con_am dd)) (Q := fun E1 g0 n0 => MQ below (QcI D cs base g0 n0 E1) args s (E'.length - E.length) (sE E' - sE E) (AB base))
      (fun pc E1 g1 g0 n0 ls H locs cl sl hd hg hA hS hcl hsl => W.widen hcl hsl (W.vret B.exec B.bytes B.returns (fun t ht _ => ⟨⟨rfl, g1, hg, by rw [ht]; exact hA⟩, hS.F ht⟩) hS.2.2 hd B.notSynchronized)) 200 0 as [] E E' h
    subst hv
    rw [lg_entry_eq m (as.map (rz g)) (naI c0 + 1)]
    refine hW.2 g g E.length _ s.heap [] 0 0 (Nat.le_refl _) (fun _ _ => rfl) he ?_ ?_ hA va_S.rf (by omega) (by omega)
    · exact ent_sz hrf hlen
    · exact ent_at hrf
