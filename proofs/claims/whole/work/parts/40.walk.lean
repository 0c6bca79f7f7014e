/-! The walk: what the small machine asks of an instruction list, the machine does. -/
theorem chk_0 {own pc : Nat} {b : ByteArray} {i : Instr} {is : List Ins} (h : chk own b pc ((0, i) :: is) = true) : ∃ ri len, decode b pc = .ok (ri, len) ∧ relN own ri len i = true ∧ chk own b (pc + len) is = true := by
  unfold chk at h
  split at h
  · rename_i ri len hd
    exact ⟨ri, len, hd, (and2 h).1, (and2 h).2⟩
  · cases h
theorem chk_1 {own pc : Nat} {b : ByteArray} {i : Instr} {is : List Ins} (h : chk own b pc ((1, i) :: is) = true) : ∃ ri len, decode b pc = .ok (ri, len) ∧ relM own ri len i = true ∧ chk own b (pc + len) is = true := by
  unfold chk at h
  split at h
  · rename_i ri len hd
    exact ⟨ri, len, hd, (and2 h).1, (and2 h).2⟩
  · cases h
theorem chk_2 {own pc k : Nat} {b : ByteArray} {i : Instr} {is : List Ins} (h : chk own b pc ((k + 2, i) :: is) = true) (h1 : ∀ t, i ≠ .jsr t) (h2 : ∀ E, i ≠ .ldc2_w E) : ∃ ri len, decode b pc = .ok (ri, len) ∧ relC own pc ri len i = true ∧ chk own b (pc + len) is = true := by
  unfold chk at h
  split at h
  · rename_i heq; cases heq
  · rename_i heq; cases heq
  · rename_i heq; cases heq
  · rename_i heq; cases heq; exact absurd rfl (h1 _)
  · rename_i heq; cases heq; exact absurd rfl (h2 _)
  · rename_i heq; cases heq
    split at h
    · rename_i ri len hd
      exact ⟨ri, len, hd, (and2 h).1, (and2 h).2⟩
    · cases h
theorem chk_j {own pc k : Nat} {b : ByteArray} {t : Int} {is : List Ins} (h : chk own b pc ((k + 2, .jsr t) :: is) = true) : t.toNat = pc := by
  unfold chk at h
  exact beqN h
theorem chk_t {own pc k E : Nat} {b : ByteArray} {is : List Ins} (h : chk own b pc ((k + 2, .ldc2_w E) :: is) = true) : chT own b pc E = true := by
  unfold chk at h
  exact h
theorem chS_0 {ml : Nat} {rt : Option FieldType} {i : Instr} {is : List Ins} (h : chS ml rt ((0, i) :: is) = true) : chS ml rt is = true := h
theorem chS_1 {ml : Nat} {rt : Option FieldType} {i : Instr} {is : List Ins} (h : chS ml rt ((1, i) :: is) = true) : chS ml rt is = true := h
theorem chS_2 {ml k : Nat} {rt : Option FieldType} {i : Instr} {is : List Ins} (h : chS ml rt ((k + 2, i) :: is) = true) : chS ml rt is = true := by
  unfold chS at h
  exact (and2 h).2
theorem relC_v {own pc len n : Nat} {ri : Instr} (h : relC own pc ri len (.invokevirtual n) = true) : (relK own pc ri len n = true ∧ n / 512 < 234) ∨ (∃ k, ri = .invokevirtual k ∧ len = 3 ∧ lkf orcL own k = some (n / 512) ∧ n / 16 % 32 = 15 ∧ n % 16 = cond (Nat.beq (n / 512) 1003) 2 1) := by
  unfold relC at h
  dsimp only at h
  rw [Bool.or_eq_true] at h
  rcases h with h | h
  · exact Or.inl ⟨(and2 h).1, Nat.blt_eq.mp (and2 h).2⟩
  · split at h
    · have q := and2 h; have q2 := and2 q.2; have q3 := and2 q2.2
      exact Or.inr ⟨_, rfl, beqN q.1, dec q2.1, beqN q3.1, beqN q3.2⟩
    · cases h
theorem relC_s {own pc len n : Nat} {ri : Instr} (h : relC own pc ri len (.invokestatic n) = true) : relK own pc ri len n = true ∧ 234 ≤ n / 512 ∧ n / 512 < 264 :=
  ⟨(and2 h).1, Nat.le_of_ble_eq_true (and2 (and2 h).2).1, Nat.blt_eq.mp (and2 (and2 h).2).2⟩
theorem relC_x {own pc len n : Nat} {ri : Instr} (h : relC own pc ri len (.invokespecial n) = true) : relK own pc ri len n = true ∧ n / 512 < 234 := ⟨(and2 h).1, Nat.blt_eq.mp (and2 h).2⟩
/-- String's three -/
def yS (k : Nat) : MethodName := cond (Nat.beq k 1001) yJ0_length_8abf5 (cond (Nat.beq k 1002) yJ0_isEmpty_aae02 yJ0_charAt_5068e)
def bS (k : Nat) : ByteArray := cond (Nat.beq k 1001) cJ0_length_8abf5 (cond (Nat.beq k 1002) cJ0_isEmpty_aae02 cJ0_charAt_5068e)
def lS (k : Nat) : Nat := cond (Nat.beq k 1001) 1 (cond (Nat.beq k 1002) 1 2)
def rS (k : Nat) : Option FieldType := cond (Nat.beq k 1001) (some .int) (cond (Nat.beq k 1002) (some .boolean) (some .char))
theorem orc_in {own k n : Nat} (h : lkf orcL own k = some n) : Cond.methodLink (on own) k (yS n) ∈ BIG ∧ (n = 1001 ∨ n = 1002 ∨ n = 1003) := by
  obtain ⟨e, he, h1, h2, h3⟩ := lkf_mem h
  have h4 : ∀ e ∈ orcL, Cond.methodLink (on e.1) e.2.1 (yS e.2.2.1) ∈ BIG ∧ (e.2.2.1 = 1001 ∨ e.2.2.1 = 1002 ∨ e.2.2.1 = 1003) := by
    intro e he
    have h5 : ∀ e ∈ orcL, tables_1[e.2.2.2]? = some (Cond.methodLink (on e.1) e.2.1 (yS e.2.2.1)) ∧ (e.2.2.1 = 1001 ∨ e.2.2.1 = 1002 ∨ e.2.2.1 = 1003) := by decide +kernel
    exact ⟨big_of (tbl_of (List.mem_of_getElem? (h5 e he).1)) rfl, (h5 e he).2⟩
  have h6 := h4 e he
  rw [h1, h2, h3] at h6
  exact h6
theorem orc_mf0 : ∀ n ∈ [1001, 1002, 1003], (Cond.code (yS n) (bS n) (lS n) (rS n) ∈ lw_tbl ∧ goodWord (Cond.code (yS n) (bS n) (lS n) (rS n)) = true) ∧ (Cond.initialized (yS n).cls ∈ lw_tbl ∧ goodWord (Cond.initialized (yS n).cls) = true) ∧ (Cond.instanceMethod (yS n) ∈ lw_tbl ∧ goodWord (Cond.instanceMethod (yS n)) = true) ∧ (Cond.selects (yS n).cls (yS n) (yS n) ∈ lw_tbl ∧ goodWord (Cond.selects (yS n).cls (yS n) (yS n)) = true) ∧ (yS n).cls = "java/lang/String" ∧ (parseMethodDescriptor (yS n).desc).map (fun d => d.parameters.length) = some (cond (Nat.beq n 1003) 1 0) ∧ lS n ≤ 40 := by decide +kernel
theorem isT_spec {r : Nat} (h : isS r = true) : ∃ i, i < 27 ∧ r = 70200 + i := by
  unfold isS at h
  simp only [Bool.and_eq_true] at h
  have h1 := Nat.le_of_ble_eq_true h.1
  have h2 : r < 70227 := Nat.blt_eq.mp h.2
  exact ⟨r - 70200, by omega, by omega⟩
section WK
variable {p : Program} {l : Launch} {e : Env} {R : Room} {s : State} {m : MethodId} {args : Array Value} {below : List Frame} {meth : Method} {c : Code} {Q : State → Prop}
variable {cc : ByteArray} {n d G GS own : Nat} {D : va_G} {cs : cid} {ad : Nat → Nat} {Ls : Nat} {xs : Nat → Int32} {base : Nat}
theorem call_orc (hc : CX p R s m args c own cc n D cs ad Ls xs base d G GS) {H : Heap} {locs : List Loc} {cl sl pc ki k : Nat} {ls : Array Slot} {M : Mm} (ho : lkf orcL own ki = some (k / 512)) (hn : k % 16 = cond (Nat.beq (k / 512) 1003) 2 1) {st as rest : List Value} (hp : popA (k % 16) st [] = some (as, rest)) (h8 : Nat.ble (cats rest) 8 = true) (hs : ∃ o t, as = .ref o :: t ∧ isS o = true) {Qm : List Value → Mm → Prop}
    (hM : Met l (yS (k / 512)) (Cond.code (yS (k / 512)) (bS (k / 512)) (lS (k / 512)) (rS (k / 512)) :: BIG) (rmD d 0) (PcC D cs ad Ls xs base as M) (QcC D cs ad Ls xs base Qm) 0 0 (AB base)) (hls : ls.size = n) (hcl : cl ≤ G) (hsl : sl ≤ GS)
    (hH : HOK D cs ad Ls xs M H) (hS : va_S (AB base) s.heap H locs) (hd : decode cc pc = .ok (.invokevirtual ki, 3))
    (kk : ∀ (vs : List Value) (M' : Mm) (H1 : Heap) (locs1 : List Loc), Qm vs M' → HOK D cs ad Ls xs M' H1 → va_S (AB base) s.heap H1 locs1 → W p l e R s m args below meth c H1 locs1 cl sl Q (F0 m (pc + 3) ls ((vs ++ rest).map (rz ad)))) : W p l e R s m args below meth c H locs cl sl Q (F0 m pc ls (st.map (rz ad))) := by
  obtain ⟨o1, o2⟩ := orc_in ho
  obtain ⟨⟨w1, w1g⟩, ⟨w2, w2g⟩, ⟨w3, w3g⟩, ⟨w4, w4g⟩, w5, w6, w7⟩ := orc_mf0 (k / 512) (by rcases o2 with h | h | h <;> rw [h] <;> decide)
  obtain ⟨o, t, rfl, ho⟩ := hs
  obtain ⟨a1, a2⟩ := popA_0 hp
  have hcell : ∃ cellB : Cell, H[ad o]? = some cellB ∧ cellB.vm.isStatics = false ∧ s.vm.findClass (yS (k / 512)).cls = some cellB.cls := by
    obtain ⟨i, hi, e⟩ := isT_spec ho
    have g3 := (hc.2.2.2.2.2.1.2.1.2.2.2.2.1 i hi).1
    rw [← e] at g3
    obtain ⟨cell, c1, c2, c3, -⟩ := g3.kept hS.2.1
    exact ⟨cell, c1, c2, by rw [w5]; exact c3⟩
  rw [a2]
  refine callV_go (own := own) (o := o) (as := t) hc (na := cond (Nat.beq (k / 512) 1003) 1 0) ⟨big_of w1 w1g, big_of w2 w2g, by rw [w5]; decide, w6, w7⟩ o1 (big_of w3 w3g) (big_of w4 w4g) hcell hM ?_ hls h8 hcl hsl hH hS hd kk
  simp only [List.length_cons] at a1
  rw [hn] at a1
  cases hb3 : Nat.beq (k / 512) 1003 with
  | true => rw [hb3] at a1; have a1 : t.length + 1 = 2 := a1; show t.length = 1; omega
  | false => rw [hb3] at a1; have a1 : t.length + 1 = 1 := a1; show t.length = 0; omega
/-- what the machine does at a place -/
def PQ (p : Program) (l : Launch) (e : Env) (R : Room) (s : State) (m : MethodId) (args : Array Value) (below : List Frame) (meth : Method) (c : Code) (Q : State → Prop) (n : Nat) (D : va_G) (cs : cid) (ad : Nat → Nat) (Ls : Nat) (xs : Nat → Int32) (base G GS g pc : Nat) (L : Lo) (st : List Value) (M : Mm) : Prop :=
  ∀ (ls : Array Slot) (H : Heap) (locs : List Loc) (cl sl : Nat), LOK ad ls n L → HOK D cs ad Ls xs M H → va_S (AB base) s.heap H locs → cl + g ≤ G → sl + 6 * g ≤ GS → W p l e R s m args below meth c H locs cl sl Q (F0 m pc ls (st.map (rz ad)))
/-- the contracts of what is called -/
def CON (l : Launch) (D : va_G) (cs : cid) (ad : Nat → Nat) (Ls : Nat) (xs : Nat → Int32) (base d : Nat) (C : CT) (T : TT) : Prop :=
  (∀ k as M Qm, k < 234 → C k as M Qm → Met l (yOf k) (Cond.code (yOf k) (bOf k) (mlOf k) (rtOf k) :: BIG) (rmD d 0) (PcC D cs ad Ls xs base as M) (QcC D cs ad Ls xs base Qm) 0 0 (AB base)) ∧
  (∀ k as M Qm, 234 ≤ k → k < 264 → C k as M Qm → Met l (yOf k) (Cond.codeWith (yOf k) (bOf k) (mlOf k) (rtOf k) (hhOf k) :: BIG) (rmD d 1) (PcC D cs ad Ls xs base as M) (QcC D cs ad Ls xs base Qm) 1 6 (AB base)) ∧
  (∀ k as M Qm, k = 1001 ∨ k = 1002 ∨ k = 1003 → C k as M Qm → Met l (yS k) (Cond.code (yS k) (bS k) (lS k) (rS k) :: BIG) (rmD d 0) (PcC D cs ad Ls xs base as M) (QcC D cs ad Ls xs base Qm) 0 0 (AB base)) ∧
  (∀ k as M QE, k < 234 → T k as M QE → k ≠ 127 ∧ vx_Met l (yOf k) (Cond.code (yOf k) (bOf k) (mlOf k) (rtOf k) :: BIG) (rmD d 1) (PcC D cs ad Ls xs base as M) (fun _ _ _ _ => False) (XcC D cs ad Ls xs base QE) 1 6 (AB base))
set_option maxHeartbeats 4000000 in
theorem walk (hc : CX p R s m args c own cc n D cs ad Ls xs base d G GS) {C : CT} {T : TT} {R' : RT} {K : KT} {Hd : HT} {rt : Option FieldType} (hcon : CON l D cs ad Ls xs base d C T)
    {Gd : Nat → List Ins → Prop} {okp : Nat → Prop} (hG1 : ∀ pc i is ri len, decode cc pc = .ok (ri, len) → Gd pc (i :: is) → Gd (pc + len) is) (hG2 : ∀ pc k j is, Gd pc ((k, .invokespecial j) :: is) → okp pc)
    (hK : ∀ g t L st M, K g t L st M → PQ p l e R s m args below meth c Q n D cs ad Ls xs base G GS g t L st M)
    (hR : ∀ (i ri : Instr) (len pc : Nat) (vs : List Value) (g : Nat) (M : Mm) (ls : Array Slot) (H : Heap) (locs : List Loc) (cl sl : Nat), R' 0 vs g M → retOK rt i vs → relC own pc ri len i = true → decode cc pc = .ok (ri, len) → HOK D cs ad Ls xs M H → va_S (AB base) s.heap H locs → cl ≤ G → sl ≤ GS → W p l e R s m args below meth c H locs cl sl Q (F0 m pc ls (vs.map (rz ad))))
    (hX : ∀ (E pc g : Nat) (M : Mm) (ls : Array Slot) (H : Heap) (locs : List Loc) (cl sl : Nat), R' (E + 1) [] g M → chT own cc pc E = true → ls.size = n → HOK D cs ad Ls xs M H → va_S (AB base) s.heap H locs → cl + (g + 1) ≤ G → sl + 6 * (g + 1) ≤ GS → W p l e R s m args below meth c H locs cl sl Q (F0 m pc ls []))
    (hHd : ∀ (E g pc : Nat) (L : Lo) (st : List Value) (M : Mm) (ls : Array Slot) (H : Heap) (locs : List Loc) (cl sl : Nat) (q : Addr) (ce : Cell), E < 4 → Hd g E L M → okp pc → LOK ad ls n L → HOK D cs ad Ls xs M H → va_S (AB base) s.heap H locs → cl + g ≤ G → sl + 6 * g ≤ GS → H[q]? = some ce → ce.vm = .none → s.vm.findClass (exN4.getD E "") = some ce.cls → vx_W p l e R s m args below meth c H locs cl sl Q (F0 m pc ls (st.map (rz ad))) q) :
    ∀ (is : List Ins) (pc g : Nat) (L : Lo) (st : List Value) (M : Mm), chk own cc pc is = true → chS n rt is = true → Gd pc is → wpl C T R' K Hd is g L st M → PQ p l e R s m args below meth c Q n D cs ad Ls xs base G GS g pc L st M := by
  have hc0 := hc
  obtain ⟨hx, hb, hml, hts, hown, hKO, hL31, hA, hfr, hlo, hGc, hGs⟩ := hc
  obtain ⟨hC, hWr, hO, hT⟩ := hcon
  intro is
  induction is with
  | nil => intro pc g L st M _ _ _ h; exact h.elim
  | cons x is ih =>
    intro pc g L st M hck hcs hG h ls H locs cl sl hLs hH hS hcl hsl
    have hsz : ls.size = n := hLs.1.1
    obtain ⟨mk, i⟩ := x
    match mk, hck, hcs, hG, h with
    | 0, hck, hcs, hG, h =>
      obtain ⟨ri, len, hd, hr, hck'⟩ := chk_0 hck
      exact sndN hx hb hts hown hKO.2.1 hKO.2.2.1 hS hr hd h (fun st' h' => ih _ _ _ _ _ hck' (chS_0 hcs) (hG1 _ _ _ _ _ hd hG) h' ls H locs cl sl hLs hH hS hcl hsl)
    | 1, hck, hcs, hG, h =>
      obtain ⟨ri, len, hd, hr, hck'⟩ := chk_1 hck
      exact sndM hx hb (by rw [hml, hsz]) hts hown hKO hL31 hA hH hS (by omega) (by omega) hr hd h (fun st' M' H1 locs1 h' hH1 hS1 => ih _ _ _ _ _ hck' (chS_1 hcs) (hG1 _ _ _ _ _ hd hG) h' ls H1 locs1 cl sl hLs hH1 hS1 hcl hsl)
    | mk + 2, hck, hcs, hG, h =>
      have hcs' := chS_2 hcs
      unfold wpl exC at h
      split at h
      -- loads
      · split at h <;> first | exact h.elim | skip
        rename_i hv
        obtain ⟨ri, len, hd, hr, hck'⟩ := chk_2 hck (fun _ q => by cases q) (fun _ q => by cases q)
        exact go_iload hx hb hLs hv hr hd (ih _ _ _ _ _ hck' hcs' (hG1 _ _ _ _ _ hd hG) h ls H locs cl sl hLs hH hS hcl hsl)
      · split at h <;> first | exact h.elim | skip
        rename_i hv
        obtain ⟨ri, len, hd, hr, hck'⟩ := chk_2 hck (fun _ q => by cases q) (fun _ q => by cases q)
        exact go_lload hx hb hLs hv hr hd (ih _ _ _ _ _ hck' hcs' (hG1 _ _ _ _ _ hd hG) h ls H locs cl sl hLs hH hS hcl hsl)
      · split at h <;> first | exact h.elim | skip
        rename_i hv
        obtain ⟨ri, len, hd, hr, hck'⟩ := chk_2 hck (fun _ q => by cases q) (fun _ q => by cases q)
        exact go_aload hx hb hLs hv hr hd (ih _ _ _ _ _ hck' hcs' (hG1 _ _ _ _ _ hd hG) h ls H locs cl sl hLs hH hS hcl hsl)
      -- stores
      · split at h <;> first | exact h.elim | skip
        obtain ⟨ri, len, hd, hr, hck'⟩ := chk_2 hck (fun _ q => by cases q) (fun _ q => by cases q)
        exact go_istore hx hb hLs (Nat.blt_eq.mp (and2 hcs).1) hr hd (fun ls' hL' => ih _ _ _ _ _ hck' hcs' (hG1 _ _ _ _ _ hd hG) h ls' H locs cl sl hL' hH hS hcl hsl)
      · split at h <;> first | exact h.elim | skip
        obtain ⟨ri, len, hd, hr, hck'⟩ := chk_2 hck (fun _ q => by cases q) (fun _ q => by cases q)
        exact go_astore hx hb hLs (Nat.blt_eq.mp (and2 hcs).1) hr hd (fun ls' hL' => ih _ _ _ _ _ hck' hcs' (hG1 _ _ _ _ _ hd hG) h ls' H locs cl sl hL' hH hS hcl hsl)
      · split at h <;> first | exact h.elim | skip
        obtain ⟨ri, len, hd, hr, hck'⟩ := chk_2 hck (fun _ q => by cases q) (fun _ q => by cases q)
        exact go_lstore hx hb hLs (Nat.blt_eq.mp (and2 hcs).1) hr hd (fun ls' hL' => ih _ _ _ _ _ hck' hcs' (hG1 _ _ _ _ _ hd hG) h ls' H locs cl sl hL' hH hS hcl hsl)
      · split at h <;> first | exact h.elim | skip
        rename_i hv
        obtain ⟨ri, len, hd, hr, hck'⟩ := chk_2 hck (fun _ q => by cases q) (fun _ q => by cases q)
        exact go_iinc hx hb hLs hv (Nat.blt_eq.mp (and2 hcs).1) hr hd (fun ls' hL' => ih _ _ _ _ _ hck' hcs' (hG1 _ _ _ _ _ hd hG) h ls' H locs cl sl hL' hH hS hcl hsl)
      -- jumps
      · obtain ⟨ri, len, hd, hr, hck'⟩ := chk_2 hck (fun _ q => by cases q) (fun _ q => by cases q)
        exact go_goto hx hb hr hd (hK _ _ _ _ _ h ls H locs cl sl hLs hH hS hcl hsl)
      · have q := chk_j hck
        rw [q] at h
        exact hK _ _ _ _ _ h ls H locs cl sl hLs hH hS hcl hsl
      · split at h <;> first | exact h.elim | skip
        obtain ⟨ri, len, hd, hr, hck'⟩ := chk_2 hck (fun _ q => by cases q) (fun _ q => by cases q)
        exact go_icmp hx hb h hr hd (fun h => hK _ _ _ _ _ h ls H locs cl sl hLs hH hS hcl hsl) (fun h => ih _ _ _ _ _ hck' hcs' (hG1 _ _ _ _ _ hd hG) h ls H locs cl sl hLs hH hS hcl hsl)
      · split at h <;> first | exact h.elim | skip
        obtain ⟨ri, len, hd, hr, hck'⟩ := chk_2 hck (fun _ q => by cases q) (fun _ q => by cases q)
        exact go_ifc hx hb h hr hd (fun h => hK _ _ _ _ _ h ls H locs cl sl hLs hH hS hcl hsl) (fun h => ih _ _ _ _ _ hck' hcs' (hG1 _ _ _ _ _ hd hG) h ls H locs cl sl hLs hH hS hcl hsl)
      · split at h <;> first | exact h.elim | skip
        obtain ⟨ri, len, hd, hr, hck'⟩ := chk_2 hck (fun _ q => by cases q) (fun _ q => by cases q)
        cases ‹Jvm.ClassFile.ACond›
        · exact go_acmp hx hb hKO.2.1 h.1 (fun _ => h.2) (fun q => by cases q) hr hd (fun h => hK _ _ _ _ _ h ls H locs cl sl hLs hH hS hcl hsl) (fun h => ih _ _ _ _ _ hck' hcs' (hG1 _ _ _ _ _ hd hG) h ls H locs cl sl hLs hH hS hcl hsl)
        · exact go_acmp hx hb hKO.2.1 h.1 (fun q => by cases q) (fun _ => h.2) hr hd (fun h => hK _ _ _ _ _ h ls H locs cl sl hLs hH hS hcl hsl) (fun h => ih _ _ _ _ _ hck' hcs' (hG1 _ _ _ _ _ hd hG) h ls H locs cl sl hLs hH hS hcl hsl)
      · split at h <;> first | exact h.elim | skip
        obtain ⟨ri, len, hd, hr, hck'⟩ := chk_2 hck (fun _ q => by cases q) (fun _ q => by cases q)
        exact go_switch hx hb h hr hd (fun t h => hK _ _ _ _ _ h ls H locs cl sl hLs hH hS hcl hsl) (fun h => hK _ _ _ _ _ h ls H locs cl sl hLs hH hS hcl hsl)
      -- calls
      · split at h <;> first | exact h.elim | skip
        rename_i hp
        obtain ⟨h8, h⟩ := cond_true h
        obtain ⟨ri, len, hd, hr, hck'⟩ := chk_2 hck (fun _ q => by cases q) (fun _ q => by cases q)
        have h2 := rcq_spec h
        rcases relC_v hr with ⟨hr2, hr3⟩ | ⟨ki, rfl, rfl, o1, o2, o3⟩
        · exact call_any hc0 hr2 hr3 hp h8 h (hC _ _ _ _ hr3 h2.1) hsz (by omega) (by omega) hH hS hd (fun vs M' H1 locs1 hq hH1 hS1 => ih _ _ _ _ _ hck' hcs' (hG1 _ _ _ _ _ hd hG) hq ls H1 locs1 cl sl hLs hH1 hS1 hcl hsl)
        · exact call_orc hc0 o1 o3 hp h8 (h2.2.2 o2) (hO _ _ _ _ (orc_in o1).2 h2.1) hsz (by omega) (by omega) hH hS hd (fun vs M' H1 locs1 hq hH1 hS1 => ih _ _ _ _ _ hck' hcs' (hG1 _ _ _ _ _ hd hG) hq ls H1 locs1 cl sl hLs hH1 hS1 hcl hsl)
      · split at h <;> first | exact h.elim | skip
        rename_i hp
        obtain ⟨h8, h⟩ := cond_true h
        obtain ⟨ri, len, hd, hr, hck'⟩ := chk_2 hck (fun _ q => by cases q) (fun _ q => by cases q)
        obtain ⟨e0, e1, e2⟩ := relC_s hr
        unfold thr at h
        split at h <;> first | exact h.elim | skip
        rename_i g
        exact call_wra hc0 e0 e1 e2 (st_w _ e1 e2) hp h8 (hWr _ _ _ _ e1 e2 h) hsz (by omega) (by omega) hH hS hd (fun vs M' H1 locs1 hq hH1 hS1 => ih _ _ _ _ _ hck' hcs' (hG1 _ _ _ _ _ hd hG) hq ls H1 locs1 (cl + 1) (sl + 6) hLs hH1 hS1 (by omega) (by omega))
      · split at h <;> first | exact h.elim | skip
        rename_i hp
        obtain ⟨h8, h⟩ := cond_true h
        obtain ⟨ri, len, hd, hr, hck'⟩ := chk_2 hck (fun _ q => by cases q) (fun _ q => by cases q)
        have h2 := rcq_spec h
        obtain ⟨q1, q2⟩ := relC_x hr
        rcases h2.1 with h3 | h3
        · exact call_any hc0 q1 q2 hp h8 h (hC _ _ _ _ q2 h3) hsz (by omega) (by omega) hH hS hd (fun vs M' H1 locs1 hq hH1 hS1 => ih _ _ _ _ _ hck' hcs' (hG1 _ _ _ _ _ hd hG) hq ls H1 locs1 cl sl hLs hH1 hS1 hcl hsl)
        · unfold thr at h3
          split at h3 <;> first | exact h3.elim | skip
          rename_i g
          obtain ⟨t1, t2⟩ := hT _ _ _ _ q2 h3
          exact call_thr hc0 q1 t1 q2 hp h8 h t2 hsz (by omega) (by omega) hH hS hd (fun E M' H1 locs1 qa ce hE hq hH1 hS1 g1 g2 g3 => hHd E _ pc L _ M' ls H1 locs1 (cl + 1) (sl + 6) qa ce hE hq (hG2 _ _ _ _ hG) hLs hH1 hS1 (by omega) (by omega) g1 g2 g3)
      -- ends
      · split at h <;> first | exact h.elim | skip
        obtain ⟨ri, len, hd, hr, hck'⟩ := chk_2 hck (fun _ q => by cases q) (fun _ q => by cases q)
        exact hR _ _ _ _ _ _ _ ls H locs cl sl h (Or.inl ⟨rfl, ⟨_, rfl⟩, dec (and2 hcs).1⟩) hr hd hH hS (by omega) (by omega)
      · split at h <;> first | exact h.elim | skip
        obtain ⟨ri, len, hd, hr, hck'⟩ := chk_2 hck (fun _ q => by cases q) (fun _ q => by cases q)
        exact hR _ _ _ _ _ _ _ ls H locs cl sl h.2 (Or.inr (Or.inl ⟨rfl, ⟨_, h.1, rfl⟩, dec (and2 hcs).1⟩)) hr hd hH hS (by omega) (by omega)
      · split at h <;> first | exact h.elim | skip
        obtain ⟨ri, len, hd, hr, hck'⟩ := chk_2 hck (fun _ q => by cases q) (fun _ q => by cases q)
        exact hR _ _ _ _ _ _ _ ls H locs cl sl h (Or.inr (Or.inr (Or.inl ⟨rfl, ⟨_, rfl⟩, dec (and2 hcs).1⟩))) hr hd hH hS (by omega) (by omega)
      · split at h <;> first | exact h.elim | skip
        obtain ⟨ri, len, hd, hr, hck'⟩ := chk_2 hck (fun _ q => by cases q) (fun _ q => by cases q)
        exact hR _ _ _ _ _ _ _ ls H locs cl sl h.2 (Or.inr (Or.inr (Or.inr (Or.inl ⟨rfl, ⟨_, h.1, rfl⟩, dec (and2 hcs).1⟩)))) hr hd hH hS (by omega) (by omega)
      · split at h <;> first | exact h.elim | skip
        obtain ⟨ri, len, hd, hr, hck'⟩ := chk_2 hck (fun _ q => by cases q) (fun _ q => by cases q)
        exact hR _ _ _ _ _ _ _ ls H locs cl sl h (Or.inr (Or.inr (Or.inr (Or.inr ⟨rfl, rfl, dec (and2 hcs).1⟩)))) hr hd hH hS (by omega) (by omega)
      · split at h <;> first | exact h.elim | skip
        unfold thr at h
        split at h <;> first | exact h.elim | skip
        rename_i g
        exact hX _ _ _ _ ls H locs cl sl h (chk_t hck) hsz hH hS hcl hsl
      · exact h.elim
end WK
