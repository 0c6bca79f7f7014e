/-! The law's wrappers: what they catch. -/
def cov (hh : List (Nat × Nat × Nat × Nat)) (pc : Nat) : Bool := hh.all (fun z => Nat.ble z.1 pc && Nat.blt pc z.2.1)
def isX : Instr → Bool
  | .invokespecial _ => true
  | _ => false
def chE (b : ByteArray) (hh : List (Nat × Nat × Nat × Nat)) : Nat → List Ins → Bool
  | _, [] => true
  | pc, (_, i) :: is => (!(isX i) || cov hh pc) && (match decode b pc with
    | .ok (_, len) => chE b hh (pc + len) is
    | _ => true)
theorem ce_all0 : (List.range 30).all (fun j => (txOf (234 + j)).all (fun b => chE (bOf (234 + j)) (hhOf (234 + j)) b.1 b.2.2)) = true := by decide +kernel
theorem ce_all {k : Nat} (h0 : 234 ≤ k) (h : k < 264) : (txOf k).all (fun b => chE (bOf k) (hhOf k) b.1 b.2.2) = true := by
  have h1 := List.all_eq_true.mp ce_all0 (k - 234) (List.mem_range.mpr (by omega))
  rw [show 234 + (k - 234) = k by omega] at h1
  exact h1
/-- store it, a number, return -/
def hdl (b : ByteArray) (ml h v : Nat) : Bool := match decode b h with
  | .ok (.astore n, len) => Nat.beq len 2 && (Nat.blt n ml && (decide (decode b (h + 2) = .ok (.iconst (v : Int), 1)) && decide (decode b (h + 3) = .ok (.ireturn, 1))))
  | .ok (.astore_n n, len) => Nat.beq len 1 && (Nat.blt (n : Nat) ml && (decide (decode b (h + 1) = .ok (.iconst (v : Int), 1)) && decide (decode b (h + 2) = .ok (.ireturn, 1))))
  | _ => false
def hOK (k E : Nat) : Bool := match hdc k E with
  | none => true
  | some v => match (hhOf k)[v - 1]? with
    | some z => Nat.beq z.2.2.2 (ctE E) && (Nat.blt v 4 && (hdl (bOf k) (mlOf k) z.2.2.1 v && ((hhOf k).take (v - 1)).all (fun z => (List.range 4).any (fun F => !(Nat.beq F E) && Nat.beq z.2.2.2 (ctE F)))))
    | none => false
theorem hOK_all0 : (List.range 30).all (fun j => (List.range 4).all (fun E => hOK (234 + j) E) && (decide (rtOf (234 + j) = some .int) && (Nat.beq (owOf (234 + j)) 13 && Nat.beq (gOf (234 + j)) 1))) = true := by decide +kernel
theorem hOK_all {k : Nat} (h0 : 234 ≤ k) (h : k < 264) : (∀ E, E < 4 → hOK k E = true) ∧ rtOf k = some .int ∧ owOf k = 13 ∧ gOf k = 1 := by
  have h1 := List.all_eq_true.mp hOK_all0 (k - 234) (List.mem_range.mpr (by omega))
  rw [show 234 + (k - 234) = k by omega] at h1
  have q := and2 h1; have q2 := and2 q.2; have q3 := and2 q2.2
  exact ⟨fun E hE => List.all_eq_true.mp q.1 E (List.mem_range.mpr hE), dec q2.1, beqN q3.1, beqN q3.2⟩
theorem cl_words : ∀ E, E < 4 → (Cond.classLink (on 13) (ctE E) (exN4.getD E "") ∈ lw_tbl ∧ goodWord (Cond.classLink (on 13) (ctE E) (exN4.getD E "")) = true) ∧ (Cond.castable (exN4.getD E "") (exN4.getD E "") ∈ tables_1) ∧ ctE E ≠ 0 := by decide +kernel
section CW
variable {p : Program} {l : Launch} {e : Env} {R : Room} {s : State} {m : MethodId} {args : Array Value} {below : List Frame} {meth : Method} {c : Code} {H : Heap} {locs : List Loc} {cl sl : Nat}
variable {pc n d G GS k : Nat} {ls : Array Slot} {D : va_G} {cs : cid} {ad : Nat → Nat} {Ls : Nat} {xs : Nat → Int32} {base : Nat} {M : Mm} {L : Lo} {st : List Value}
theorem hdl_go (hx : p.tables.exec = Jvm.exec) {b : ByteArray} (hb : c.code = b) (hrt : meth.sig.returnType = some .int) (hlk : meth.locks = false) {Qm : List Value → Mm → Prop} {h v : Nat} (hh : hdl b n h v = true) (hv : v < 4) (hq : Qm [.int (nI v)] M) (hLs : LOK ad ls n L) (hH : HOK D cs ad Ls xs M H) (hS : va_S (AB base) s.heap H locs) (hcl : cl ≤ G) (hsl : sl ≤ GS) {q : Addr} :
    W p l e R s m args below meth c H locs cl sl (MQ below (QcC D cs ad Ls xs base Qm) args s G GS (AB base)) (F0 m h ls [.ref q]) := by
  unfold hdl at hh
  have fin : ∀ (pc : Nat) (ls' : Array Slot), decode b pc = .ok (.iconst (v : Int), 1) → decode b (pc + 1) = .ok (.ireturn, 1) → W p l e R s m args below meth c H locs cl sl (MQ below (QcC D cs ad Ls xs base Qm) args s G GS (AB base)) (F0 m pc ls' []) := by
    intro pc ls' d1 d2
    refine lv_iconst hx hb d1 (ofInt_nat v) ?_
    exact ret_go (ad := ad) (own := 13) (i := .ireturn) (vs := [.int (nI v)]) hx hb hrt hlk hq (Or.inl ⟨rfl, ⟨_, rfl⟩, rfl⟩) (by unfold relC; simp) d2 hH hS hcl hsl
  split at hh
  · rename_i hd
    have q := and2 hh; have q2 := and2 q.2; have q3 := and2 q2.2
    have e1 := beqN q.1; subst e1
    exact lv_astore hx hb hd hLs.1 (Nat.blt_eq.mp q2.1) rfl (fun ls' _ => fin _ ls' (dec q3.1) (dec q3.2))
  · rename_i hd
    have q := and2 hh; have q2 := and2 q.2; have q3 := and2 q2.2
    have e1 := beqN q.1; subst e1
    exact lv_astore_n hx hb hd rfl hLs.1 (Nat.blt_eq.mp q2.1) rfl (fun ls' _ => fin _ ls' (dec q3.1) (dec q3.2))
  · cases hh
theorem take_split {α : Type} : ∀ (l : List α) (i : Nat) (x : α), l[i]? = some x → l = l.take i ++ x :: l.drop (i + 1)
  | [], i, x, h => by cases h
  | a :: t, 0, x, h => by have e : a = x := Option.some.inj h; subst e; rfl
  | a :: t, i + 1, x, h => by
    have h2 := take_split t i x h
    show a :: t = a :: (t.take i ++ x :: t.drop (i + 1))
    rw [← h2]
theorem hdW_go (hc : CX p R s m args c (owOf k) (bOf k) (mlOf k) D cs ad Ls xs base d G GS) (h0 : 234 ≤ k) (hk : k < 264) (hrt : meth.sig.returnType = rtOf k) (hlk : meth.locks = false) (htb : c.exceptionTable.toList = tableOf (hhOf k)) {Qm : List Value → Mm → Prop} {K : KT} {g E : Nat} (hE : E < 4) (hq : hdW k Qm K g E L M) (hcov : cov (hhOf k) pc = true) (hLs : LOK ad ls (mlOf k) L) (hH : HOK D cs ad Ls xs M H) (hS : va_S (AB base) s.heap H locs) (hcl : cl ≤ G) (hsl : sl ≤ GS)
    {q : Addr} {ce : Cell} (h1 : H[q]? = some ce) (h2 : ce.vm = .none) (h3 : s.vm.findClass (exN4.getD E "") = some ce.cls) :
    vx_W p l e R s m args below meth c H locs cl sl (MQ below (QcC D cs ad Ls xs base Qm) args s G GS (AB base)) (F0 m pc ls (st.map (rz ad))) q := by
  obtain ⟨o1, o2, o3, o4⟩ := hOK_all h0 hk
  have o5 := o1 E hE
  unfold hdW at hq
  unfold hOK at o5
  cases hv : hdc k E with
  | none => rw [hv] at hq; exact hq.elim
  | some v =>
    rw [hv] at hq o5
    dsimp only at hq o5
    split at o5
    · rename_i z hz
      have q1 := and2 o5; have q2 := and2 q1.2; have q3 := and2 q2.2
      have e1 := beqN q1.1
      have hsp := take_split _ _ _ hz
      have hmem : z ∈ hhOf k := List.mem_of_getElem? hz
      have hcz := List.all_eq_true.mp hcov
      obtain ⟨hx, hb, hml, hts, hown, hKO, -, -, -, -, -, -⟩ := hc
      rw [o3] at hown
      have hbad := hKO.2.2.1.2.2.2.1
      have hnck := hKO.2.2.1.2.2.2.2
      refine vx_catch (own := on 13) (name := exN4.getD E "") hown (((hhOf k).take (v - 1)).map fun q => ⟨q.1, q.2.1, q.2.2.1, q.2.2.2⟩) ⟨z.1, z.2.1, z.2.2.1, z.2.2.2⟩ (((hhOf k).drop (v - 1 + 1)).map fun q => ⟨q.1, q.2.1, q.2.2.1, q.2.2.2⟩) ?_ ?_ ?_ ?_ ?_ ?_ h1 h2 h3 ?_
      · rw [htb]
        show (hhOf k).map (fun q => (⟨q.1, q.2.1, q.2.2.1, q.2.2.2⟩ : ExceptionTableEntry)) = _
        conv => lhs; rw [hsp]
        rw [List.map_append, List.map_cons]
      · intro y hy
        obtain ⟨w, hw, rfl⟩ := List.mem_map.mp hy
        have hw2 := List.all_eq_true.mp q3.2 w hw
        obtain ⟨F, hF, hF2⟩ := List.any_eq_true.mp hw2
        have r := and2 hF2
        have hF4 := List.mem_range.mp hF
        have e2 := beqN r.2
        have hne : F ≠ E := fun e => by rw [e] at r; have := r.1; simp at this
        have cw := cl_words F hF4
        refine Or.inr ⟨by show w.2.2.2 ≠ 0; rw [e2]; exact cw.2.2, exN4.getD F "", ?_, hnck E hE F hF4 (Ne.symm hne)⟩
        show (Cond.classLink (on 13) w.2.2.2 (exN4.getD F "")).before args s = true
        rw [e2]
        exact hts _ (big_of cw.1.1 cw.1.2)
      · have hz2 := and2 (hcz z hmem)
        show (decide (z.1 ≤ pc) && decide (pc < z.2.1)) = true
        rw [decide_eq_true (Nat.le_of_ble_eq_true hz2.1), decide_eq_true (Nat.blt_eq.mp hz2.2)]; rfl
      · show z.2.2.2 ≠ 0
        rw [e1]; exact (cl_words E hE).2.2
      · show (Cond.classLink (on 13) z.2.2.2 (exN4.getD E "")).before args s = true
        rw [e1]
        exact hts _ (big_of (cl_words E hE).1.1 (cl_words E hE).1.2)
      · exact va_Nw.use rfl (hbad _ (List.mem_filter.mpr ⟨(cl_words E hE).2.1, rfl⟩))
      · exact hdl_go hx hb (hrt.trans o2) hlk q3.1 (Nat.blt_eq.mp q2.1) hq hLs hH hS hcl hsl
    · cases o5
end CW
section CV
variable {l : Launch} {D : va_G} {cs : cid} {ad : Nat → Nat} {Ls : Nat} {xs : Nat → Int32} {base d : Nat}
theorem chE_1 {b : ByteArray} {hh : List (Nat × Nat × Nat × Nat)} {pc len : Nat} {x : Ins} {is : List Ins} {ri : Instr} (hd : decode b pc = .ok (ri, len)) (h : chE b hh pc (x :: is) = true) : chE b hh (pc + len) is = true := by
  obtain ⟨a, i⟩ := x
  unfold chE at h
  have h2 := (and2 h).2
  rw [hd] at h2
  exact h2
theorem chE_2 {b : ByteArray} {hh : List (Nat × Nat × Nat × Nat)} {pc k j : Nat} {is : List Ins} (h : chE b hh pc ((k, .invokespecial j) :: is) = true) : cov hh pc = true := by
  unfold chE at h
  have h2 := (and2 h).1
  simpa [isX] using h2
/-- a wrapper of the law -/
theorem con_W {C : CT} {T : TT} (hcon : CON l D cs ad Ls xs base d C T) (hL : Ls < 2 ^ 31) (hA : ADK ad base) {k : Nat} {as : List Value} {M : Mm} {Qm : List Value → Mm → Prop} (h0 : 234 ≤ k) (hk : k < 264) (ha : aOK as (mlOf k) = true) (hw : Wp C T (RP Qm) (hdC k Qm) (txOf k) (gOf k) 0 (entL as (mlOf k)) [] M) :
    Met l (yOf k) (Cond.codeWith (yOf k) (bOf k) (mlOf k) (rtOf k) (hhOf k) :: BIG) (rmD (d + 1) 1) (PcC D cs ad Ls xs base as M) (QcC D cs ad Ls xs base Qm) 1 6 (AB base) := by
  obtain ⟨-, o2, o3, o4⟩ := hOK_all h0 hk
  refine va_MetW (by rw [(mt_of hk).2.2.2.1]; exact pln_of k hk (Or.inr h0)) rfl ?_
  intro p e s m args below meth c s₁ B hml hP
  obtain ⟨hv, hH, hK⟩ := hP
  have hc := cx_of (d := d) hk B hml hK hL hA
  have htb : c.exceptionTable.toList = tableOf (hhOf k) := vx_table (x := yOf k) B (atoms_spec (ws := Cond.codeWith (yOf k) (bOf k) (mlOf k) (rtOf k) (hhOf k) :: BIG) B.pre _ List.mem_cons_self)
  subst hv
  obtain ⟨ls, e1, e2⟩ := entry_ok (ad := ad) ha m
  rw [e1]
  have hd0 : hdC k Qm = hdW k Qm := by
    unfold hdC
    have : Nat.blt k 234 = false := by
      cases hb : Nat.blt k 234 with
      | true => have h3 : k < 234 := Nat.blt_eq.mp hb; omega
      | false => rfl
    rw [this]; rfl
  rw [o4, hd0] at hw
  obtain ⟨c1, c2⟩ := ckp_all k hk
  have c3 := ce_all h0 hk
  refine hw (PQ p l e _ s m _ below meth c _ (mlOf k) D cs ad Ls xs base 1 6) ?_ ls s.heap [] 0 0 e2 hH va_S.rf (by omega) (by omega)
  intro g pc L st M hb
  unfold blk at hb
  split at hb
  · rename_i mm is htx
    have hmem := txf_mem htx
    have hck : chk (owOf k) (bOf k) pc is = true := List.all_eq_true.mp c1 _ hmem
    have hcs : chS (mlOf k) (rtOf k) is = true := List.all_eq_true.mp c2 _ hmem
    have hce : chE (bOf k) (hhOf k) pc is = true := List.all_eq_true.mp c3 _ hmem
    have hW := walk hc hcon (R' := RP Qm) (K := PQ p l e _ s m _ below meth c _ (mlOf k) D cs ad Ls xs base 1 6) (rt := rtOf k) (Gd := fun pc is => chE (bOf k) (hhOf k) pc is = true) (okp := fun pc => cov (hhOf k) pc = true) (fun _ _ _ _ _ hd h => chE_1 hd h) (fun _ _ _ _ h => chE_2 h) (fun _ _ _ _ _ q => q)
      (fun i ri len pc vs g M ls H locs cl sl hq ho hr hd hH hS hcl hsl => ret_go B.exec B.bytes B.returns B.notSynchronized hq.2 ho hr hd hH hS hcl hsl)
      (fun E pc g M ls H locs cl sl hq => absurd hq.1 (by omega))
      (fun E g pc L st M ls H locs cl sl q ce hE hq hcv hLs hH hS hcl hsl h1 h2 h3 => hdW_go hc h0 hk B.returns B.notSynchronized htb hE hq hcv hLs hH hS (by omega) (by omega) h1 h2 h3) is pc g (trim mm L) st M hck hcs hce hb
    intro ls H locs cl sl hLs
    exact hW ls H locs cl sl hLs.trim
  · exact hb.elim
/-- String's three -/
def ORC (l : Launch) (D : va_G) (cs : cid) (ad : Nat → Nat) (Ls : Nat) (xs : Nat → Int32) (base : Nat) : Prop := ∀ d k as M Qm, (k = 1001 ∨ k = 1002 ∨ k = 1003) → orc k as M Qm → Met l (yS k) (Cond.code (yS k) (bS k) (lS k) (rS k) :: BIG) (rmD d 0) (PcC D cs ad Ls xs base as M) (QcC D cs ad Ls xs base Qm) 0 0 (AB base)
/-- WHAT sem SAYS HOLDS -/
theorem con_sem (hthr : ∀ E, E < 4 → THR l E) (horc : ORC l D cs ad Ls xs base) (hL : Ls < 2 ^ 31) (hA : ADK ad base) : ∀ d, CON l D cs ad Ls xs base d (sem d).1 (sem d).2
  | 0 => ⟨fun k as M Qm hk h => absurd h.1 (by omega), fun k as M Qm _ hk h => absurd h.1 (by omega), fun k as M Qm hk h => horc 0 k as M Qm hk h.2, fun k as M QE _ h => h.elim⟩
  | d + 1 => by
    have ih := con_sem hthr horc hL hA d
    refine ⟨fun k as M Qm hk h => ?_, fun k as M Qm h0 hk h => ?_, fun k as M Qm hk h => ?_, fun k as M QE hk h => ?_⟩
    · rcases h with h | h
      · exact absurd h.1 (by omega)
      · exact con_C ih hL hA hk h.2.1 h.2.2
    · rcases h with h | h
      · exact absurd h.1 (by omega)
      · exact con_W ih hL hA h0 hk h.2.1 h.2.2
    · rcases h with h | h
      · exact horc (d + 1) k as M Qm hk h.2
      · exact absurd h.1 (by omega)
    · exact ⟨h.2.1, con_T hthr ih hL hA hk h.2.2.1 h.2.2.2.1 h.2.2.2.2⟩
end CV
