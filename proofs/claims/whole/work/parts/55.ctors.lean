/-! The start: what a constructor calls. -/
theorem mono_c {cal : Nat → List Value → List AE → Option (List AE)} (hcal : ∀ c as E E', cal c as E = some E' → E.length ≤ E'.length ∧ sE E ≤ sE E') {c0 : Nat} {as : List Value} {E E1 : List AE} (h : cond (Nat.beq c0 99) (some E) (cal c0 as E) = some E1) : E.length ≤ E1.length ∧ sE E ≤ sE E1 := by
  cases hb : Nat.beq c0 99 with
  | true => rw [hb] at h; cases h; exact ⟨Nat.le_refl _, Nat.le_refl _⟩
  | false => rw [hb] at h; exact hcal _ _ _ _ h
set_option maxHeartbeats 4000000 in
theorem amx_mono {cal : Nat → List Value → List AE → Option (List AE)} (hcal : ∀ c as E E', cal c as E = some E' → E.length ≤ E'.length ∧ sE E ≤ sE E') {own : Nat} {b : ByteArray} : ∀ (f pc : Nat) (L st : List Value) (E E' : List AE), amx cal own b f pc L st E = some E' → E.length ≤ E'.length ∧ sE E ≤ sE E' := by
  intro f
  induction f with
  | zero => intro pc L st E E' h; cases h
  | succ f ih =>
    intro pc L st E E' h
    unfold amx at h
    split at h
    · have hh := condN h
      replace h := hh.2
      clear hh
      split at h
      · split at h <;> first | cases h; done | exact ih _ _ _ _ _ h
      · exact ih _ _ _ _ _ h
      · exact ih _ _ _ _ _ h
      · exact ih _ _ _ _ _ h
      · exact ih _ _ _ _ _ h
      · split at h <;> first | cases h; done | skip
        split at h <;> first | cases h; done | skip
        have q := ih _ _ _ _ _ (condN h).2
        rw [len1, sE_pa] at q
        omega
      · split at h <;> first | cases h; done | skip
        have q := ih _ _ _ _ _ (condN h).2
        rw [len1, sE_pa] at q
        omega
      · split at h <;> first | cases h; done | skip
        split at h <;> first | cases h; done | skip
        rename_i hk ho
        have q := ih _ _ _ _ _ (condN h).2
        rw [List.length_set, sE_so ho] at q
        exact q
      · split at h <;> first | cases h; done | skip
        split at h <;> first | cases h; done | skip
        split at h <;> first | cases h; done | skip
        exact ih _ _ _ _ _ (condN h).2
      · exact ih _ _ _ _ _ (condN h).2
      · split at h <;> first | cases h; done | skip
        split at h <;> first | cases h; done | skip
        rename_i ho
        have q := ih _ _ _ _ _ (condN h).2
        rw [List.length_set, sE_sa ho] at q
        exact q
      · split at h <;> first | cases h; done | skip
        have q := ih _ _ _ _ _ (condN h).2
        rw [len1, sE_po] at q
        omega
      · split at h <;> first | cases h; done | exact ih _ _ _ _ _ h
      · split at h <;> first | cases h; done | skip
        split at h <;> first | cases h; done | skip
        have hh := condN h
        replace h := hh.2
        clear hh
        split at h <;> first | cases h; done | skip
        rename_i hE1
        have q := ih _ _ _ _ _ h
        have q2 := mono_c hcal hE1
        omega
      · split at h <;> first | cases h; done | skip
        have e2 := Option.some.inj h
        subst e2
        exact ⟨Nat.le_refl _, Nat.le_refl _⟩
      · cases h
    · cases h
theorem am_mono : ∀ (d c : Nat) (as : List Value) (E E' : List AE), am d c as E = some E' → E.length ≤ E'.length ∧ sE E ≤ sE E'
  | 0, _, _, _, _, h => by cases h
  | d + 1, c, as, E, E', h => amx_mono (am_mono d) _ _ _ _ _ _ h
theorem ctor_w : ∀ c ∈ [0, 1, 2, 3, 4, 5, 6, 8, 9, 10, 11, 12], (Cond.code (yI c) (cI c) (naI c + 1) none ∈ lw_tbl ∧ goodWord (Cond.code (yI c) (cI c) (naI c + 1) none) = true) ∧ (Cond.initialized (yI c).cls ∈ lw_tbl ∧ goodWord (Cond.initialized (yI c).cls) = true) ∧ (Cond.instanceMethod (yI c) ∈ lw_tbl ∧ goodWord (Cond.instanceMethod (yI c)) = true) ∧ plainFor (yI c) = true ∧ (yI c).cls = on c ∧ (yI c).name = "<init>" ∧ (parseMethodDescriptor (yI c).desc).map (fun d => d.parameters.length) = some (naI c) := by decide +kernel
def yJ (c : Nat) : MethodName := cond (Nat.beq c 99) Lib.objectInit (yI c)
theorem link_w : ∀ e ∈ liL, (e.1 = 11 ∧ (e.2.1 = 9 ∨ e.2.1 = 37)) ∨ (Cond.methodLink (on e.1) e.2.1 (yJ e.2.2.1) ∈ lw_tbl ∧ goodWord (Cond.methodLink (on e.1) e.2.1 (yJ e.2.2.1)) = true) := by decide +kernel
theorem li_c : ∀ e ∈ liL, e.2.2.1 = 99 ∨ e.2.2.1 ∈ [0, 1, 2, 3, 4, 5, 6, 8, 9, 10, 11, 12] := by decide +kernel
theorem ob_w : (Cond.instanceMethod Lib.objectInit ∈ lw_tbl ∧ goodWord (Cond.instanceMethod Lib.objectInit) = true) ∧ (Cond.code Lib.objectInit ⟨#[0xb1]⟩ 1 none ∈ lw_tbl ∧ goodWord (Cond.code Lib.objectInit ⟨#[0xb1]⟩ 1 none) = true) := by decide +kernel
