/-! Contracts by depth. -/
theorem own_of {k : Nat} (h : k < 264) {s : State} {m : MethodId} (hn : s.methodNamed? (yOf k) = some m) : s.vm.findClass (on (owOf k)) = some m.cls := by
  rw [← (mt_of h).2.2.2.1]
  exact findClass_of_methodNamed hn
theorem pln_of : ∀ k, k < 264 → owOf k = 11 ∨ 234 ≤ k → plainName (on (owOf k)) = true := by
  intro k h h2
  have h1 : (List.range 264).all (fun k => plainName (on (owOf k)) || !(Nat.beq (owOf k) 11 || Nat.ble 234 k)) = true := by decide +kernel
  have h3 := List.all_eq_true.mp h1 k (List.mem_range.mpr h)
  rw [Bool.or_eq_true] at h3
  rcases h3 with h3 | h3
  · exact h3
  · exfalso
    have h4 : (Nat.beq (owOf k) 11 || Nat.ble 234 k) = true := by
      rw [Bool.or_eq_true]
      rcases h2 with h2 | h2
      · exact Or.inl (by rw [h2]; rfl)
      · exact Or.inr (Nat.ble_eq.mpr h2)
    rw [h4] at h3
    cases h3
section CO
variable {l : Launch} {D : va_G} {cs : cid} {ad : Nat → Nat} {Ls : Nat} {xs : Nat → Int32} {base d : Nat}
theorem cx_of {p : Program} {e : Env} {s : State} {m : MethodId} {args : Array Value} {below : List Frame} {meth : Method} {c : Code} {s₁ : State} {k g : Nat} {cd : Cond} (hk : k < 264)
    (B : BodyLoose p l (yOf k) (headSpec (cd :: BIG) (rmD (d + 1) g)) (bOf k) (mlOf k) (rtOf k) e s m args below meth c s₁) (hml : c.maxLocals = mlOf k) (hK : KOK D cs ad Ls xs base s) (hL : Ls < 2 ^ 31) (hA : ADK ad base) :
    CX p (headSpec (cd :: BIG) (rmD (d + 1) g)).room s m args c (owOf k) (bOf k) (mlOf k) D cs ad Ls xs base d g (6 * g) :=
  ⟨B.exec, B.bytes, hml, fun w hw => atoms_spec (ws := cd :: BIG) B.pre w (List.mem_cons_of_mem _ hw), own_of hk B.named, hK, hL, hA, by show d + 9 ≤ d + 1 + 8; omega, by show 64 * d + 360 ≤ 64 * (d + 1) + 300; omega, Nat.le_refl _, Nat.le_refl _⟩
/-- a method that returns -/
theorem con_C {C : CT} {T : TT} (hcon : CON l D cs ad Ls xs base d C T) (hL : Ls < 2 ^ 31) (hA : ADK ad base) {k : Nat} {as : List Value} {M : Mm} {Qm : List Value → Mm → Prop} (hk : k < 234) (ha : aOK as (mlOf k) = true) (hw : Wp C T (RP Qm) (hdC k Qm) (txOf k) (gOf k) 0 (entL as (mlOf k)) [] M) :
    Met l (yOf k) (Cond.code (yOf k) (bOf k) (mlOf k) (rtOf k) :: BIG) (rmD (d + 1) 0) (PcC D cs ad Ls xs base as M) (QcC D cs ad Ls xs base Qm) 0 0 (AB base) := by
  have hk2 : k < 264 := by omega
  refine va_MetF (mt_of hk2).2.2.2.2.1 rfl ?_
  intro p e s m args below meth c s₁ B hml hP
  obtain ⟨hv, hH, hK⟩ := hP
  have hc := cx_of (d := d) hk2 B hml hK hL hA
  subst hv
  obtain ⟨ls, e1, e2⟩ := entry_ok (ad := ad) ha m
  rw [e1]
  have hg : gOf k = 0 := by
    unfold gOf
    have : Nat.ble 234 k = false := by
      cases hb : Nat.ble 234 k with
      | true => have := Nat.le_of_ble_eq_true hb; omega
      | false => rfl
    rw [this]; rfl
  have hd0 : hdC k Qm = hdN := by
    unfold hdC
    rw [show Nat.blt k 234 = true from Nat.blt_eq.mpr hk]; rfl
  rw [hg, hd0] at hw
  obtain ⟨c1, c2⟩ := ckp_all k hk2
  refine hw (PQ p l e _ s m _ below meth c _ (mlOf k) D cs ad Ls xs base 0 0) ?_ ls s.heap [] 0 0 e2 hH va_S.rf (by omega) (by omega)
  intro g pc L st M hb
  unfold blk at hb
  split at hb
  · rename_i mm is htx
    have hmem := txf_mem htx
    have hck : chk (owOf k) (bOf k) pc is = true := List.all_eq_true.mp c1 _ hmem
    have hcs : chS (mlOf k) (rtOf k) is = true := List.all_eq_true.mp c2 _ hmem
    have hW := walk hc hcon (R' := RP Qm) (K := PQ p l e _ s m _ below meth c _ (mlOf k) D cs ad Ls xs base 0 0) (Hd := fun _ _ _ _ => False) (rt := rtOf k) (Gd := fun _ _ => True) (okp := fun _ => True) (fun _ _ _ _ _ _ _ => trivial) (fun _ _ _ _ _ => trivial) (fun _ _ _ _ _ q => q)
      (fun i ri len pc vs g M ls H locs cl sl hq ho hr hd hH hS hcl hsl => ret_go B.exec B.bytes B.returns B.notSynchronized hq.2 ho hr hd hH hS hcl hsl)
      (fun E pc g M ls H locs cl sl hq => absurd hq.1 (by omega))
      (fun E g pc L st M ls H locs cl sl q ce _ hq => hq.elim) is pc g (trim mm L) st M hck hcs trivial hb
    intro ls H locs cl sl hLs
    exact hW ls H locs cl sl hLs.trim
  · exact hb.elim
/-- a method that throws -/
theorem con_T (hthr : ∀ E, E < 4 → THR l E) {C : CT} {T : TT} (hcon : CON l D cs ad Ls xs base d C T) (hL : Ls < 2 ^ 31) (hA : ADK ad base) {k : Nat} {as : List Value} {M : Mm} {QE : Nat → Mm → Prop} (hk : k < 234) (hown : owOf k = 11) (ha : aOK as (mlOf k) = true) (hw : Wp C T (RE QE) (hdE QE) (txOf k) 1 0 (entL as (mlOf k)) [] M) :
    vx_Met l (yOf k) (Cond.code (yOf k) (bOf k) (mlOf k) (rtOf k) :: BIG) (rmD (d + 1) 1) (PcC D cs ad Ls xs base as M) (fun _ _ _ _ => False) (XcC D cs ad Ls xs base QE) 1 6 (AB base) := by
  have hk2 : k < 264 := by omega
  refine vx_ofW (by rw [(mt_of hk2).2.2.2.1]; exact pln_of k hk2 (Or.inl hown)) rfl ?_
  intro p e s m args below meth c s₁ B hml htb hP
  obtain ⟨hv, hH, hK⟩ := hP
  have hc := cx_of (d := d) hk2 B hml hK hL hA
  subst hv
  obtain ⟨ls, e1, e2⟩ := entry_ok (ad := ad) ha m
  rw [e1]
  obtain ⟨c1, c2⟩ := ckp_all k hk2
  refine hw (PQ p l e _ s m _ below meth c _ (mlOf k) D cs ad Ls xs base 1 6) ?_ ls s.heap [] 0 0 e2 hH va_S.rf (by omega) (by omega)
  intro g pc L st M hb
  unfold blk at hb
  split at hb
  · rename_i mm is htx
    have hmem := txf_mem htx
    have hck : chk (owOf k) (bOf k) pc is = true := List.all_eq_true.mp c1 _ hmem
    have hcs : chS (mlOf k) (rtOf k) is = true := List.all_eq_true.mp c2 _ hmem
    have hc11 := hc
    rw [hown] at hc11
    have hW := walk hc hcon (R' := RE QE) (K := PQ p l e _ s m _ below meth c _ (mlOf k) D cs ad Ls xs base 1 6) (Hd := fun _ E _ M => E < 4 ∧ QE E M) (rt := rtOf k) (Gd := fun _ _ => True) (okp := fun _ => True) (fun _ _ _ _ _ _ _ => trivial) (fun _ _ _ _ _ => trivial) (fun _ _ _ _ _ q => q)
      (fun i ri len pc vs g M ls H locs cl sl hq => absurd rfl hq.1)
      (fun E pc g M ls H locs cl sl hq hct hls hH hS hcl hsl => by
        obtain ⟨-, hE, ik, is, ic, text, x1, x2, x3, x4, x5⟩ := chT_spec hct
        exact hthr E hE hc11 B.notSynchronized htb hq.2.2 hH hS hls (by omega) (by omega) x1 x2 x3 x4 x5)
      (fun E g pc L st M ls H locs cl sl q ce hE hq _ hLs hH hS hcl hsl h1 h2 h3 => vx_out (fun x hx => (htb x hx).elim) B.notSynchronized h1 h2 h3 (fun t ht _ => ⟨E, M, hE, rfl, hq.2, by rw [ht]; exact hH, hS.F ht⟩) hS.2.2 (by omega) (by omega)) is pc g (trim mm L) st M hck hcs trivial hb
    intro ls H locs cl sl hLs
    exact hW ls H locs cl sl hLs.trim
  · exact hb.elim
end CO
