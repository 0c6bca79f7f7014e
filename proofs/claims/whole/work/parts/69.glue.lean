/-! THE LAW: what the small machine must do, and the claim out of it. -/
def RLW : RT := fun e vs _ _ => e = 0 ∧ vs = [.int 1]
def lo9 : Lo := [some (.ref 70001), some (.ref 704), some (.ref 768), some (.ref 70000), some (.int 0), none, none, none]
/-- THE REST OF IT ALL: the law's text in the small machine -/
def LAWOK : Prop := ∃ d : Nat, d ≤ 100 ∧ ∀ (L : Nat) (xs : Nat → Int32), L ≤ 3072 → Wp (sem d).1 (sem d).2 RLW hdN tx_900 512 23 lo9 [] (M0 L xs)
def R_law : String := "WellPumpsLaw"
def lw_P (b : Addr) (xs : List Int32) (args : Array Value) (s : State) : Prop := args = #[.ref b] ∧ s.IntsAt b xs ∧ xs.length ≤ 3072 ∧ (Jvm.Cond.and given_1 narrow_1).before args s = true
def lw_Q (_ : Array Value) (s : State) (o : Outcome) (t : State) : Prop := o = .returned (some (.int 1)) ∧ Framed s o t [] 601024 7293033
def lw_Z (below : List Frame) (a : Array Value) (s : State) : State → Prop := fun t => ∃ o, t.status = .running ∧ Ended t below o ∧ lw_Q a s o t
/-- the law's own end, with 1 on the stack, nothing written that was there before, its room as the claim has it -/
theorem lw_ret {p : Program} {l : Launch} {e : Env} {s : State} {m : MethodId} {below : List Frame} {meth : Method} {c : Code} {b : Nat} (hx : p.tables.exec = Jvm.exec) (hb : c.code = code) (hr : meth.sig.returnType = ret) (hlocks : meth.locks = false) {pc : Nat} {H : Heap} {ls : Array Slot} (hdg : decode code pc = .ok (.ireturn, 1)) : W p l e room_1 s m #[Value.ref b] below meth c H [] 601024 7293033 (lw_Z below #[Value.ref b] s) (F0 m pc ls [.int 1]) := by
  intro T hT X
  obtain ⟨fs, hret, hrun, hended, hW, hframe⟩ := X.leave (v := some (.int 1)) (hlocks := hlocks) (fun h => by rw [hr] at h; cases h)
  have hmeth' : T.vm.method? m = some meth := X.method'
  refine ⟨T.setFrames fs, ?_, .returned (some (.int 1)), hrun, hended, rfl, ⟨_, rfl⟩, hW, hframe⟩
  jvm_step X.here [X.here.top, hx, hb, hdg, hmeth', hr, ret, narrow_b1]
  (try refine ⟨rfl, ?_⟩); (try refine ⟨rfl, ?_⟩)
  first | (intro acts; rw [hret _ acts rfl rfl rfl]) | rw [hret _ _ rfl rfl rfl]
  exact Steps.refl _
def lw_At (p : Program) (s : State) (m : MethodId) (meth : Method) (c : Code) (b L : Nat) (xs : Nat → Int32) : Prop :=
  p.tables.exec = Jvm.exec ∧ c.code = code ∧ meth.sig.returnType = ret ∧ c.maxLocals = 8 ∧ s.vm.findClass R_law = some m.cls ∧ (∀ w ∈ lw_tbl, w.before #[Value.ref b] s = true) ∧ va_X b L xs s s.heap ∧ b < s.heap.size ∧ meth.locks = false ∧ (Jvm.Cond.and given_1 narrow_1).before #[Value.ref b] s = true
theorem ret_is : ret = some .boolean := rfl
set_option maxHeartbeats 4000000 in
theorem whole_start_of (hok : LAWOK) {p : Program} {e : Env} {s : State} {m : MethodId} {below : List Frame} {meth : Method} {c : Code} (l : Launch) (hflags : l.flags = flags0) {b L : Nat} {xs : Nat → Int32} (hL : L ≤ 3072) (C0 : lw_At p s m meth c b L xs) : W p l e room_1 s m #[Value.ref b] below meth c s.heap [] 0 0 (lw_Z below #[Value.ref b] s) (entryFrame m ([Value.ref b] : List Value).toArray 8) := by
  obtain ⟨hx, hb, hr, hml, hown, hts, hX, hbl, hlocks, hgv⟩ := C0
  obtain ⟨d, hd, hwp⟩ := hok
  have hn := nw_of hgv
  obtain ⟨D, cs, hK⟩ := k_start hts
  obtain ⟨a0, ha0, hE, hSW⟩ := stk_start hts hn b
  have hst : l.stackTraces = false := by unfold Launch.stackTraces; rw [hflags]; rfl
  have htb : ∀ w ∈ BIG, w.before #[Value.ref b] s = true := fun w hw => hts w (List.mem_filter.mp hw).1
  have hKI : KI D cs s.heap.size (a0 70100) s := ⟨hK, va_AO.of (hts _ nw_n.2), hE, ⟨va_Nw.of rfl (hts _ nw_n.1.1), va_Nw.of rfl (hts _ nw_n.1.2)⟩, Nat.le_refl _⟩
  have hCI : CI p room_1 s m #[Value.ref b] c 13 code 8 D cs s.heap.size (a0 70100) 6 200 20000 := ⟨hx, hb, hml, htb, hown, hKI, Nat.le_of_ble_eq_true rfl, Nat.le_of_ble_eq_true rfl, Nat.le_of_ble_eq_true rfl, Nat.le_of_ble_eq_true rfl⟩
  have hl := lv_entry ([.ref b]) (n := 8) (Nat.le_of_ble_eq_true rfl)
  rw [lg_entry_eq]
  generalize (lg_sl ([.ref b]) ++ List.replicate (8 - (lg_sl ([.ref b])).length) Slot.unset).toArray = ls at hl ⊢
  have hl : lv_has ls 8 [(0, .ref b)] := hl
  refine law_born (l := l) (e := e) (below := below) (meth := meth) hCI (g0 := a0) rfl hl ?_
  intro g H locs ls hg hA hS hl
  have hag : ∀ k, 70001 ≤ k → adG g k = a0 k := fun k hk => (adG_o hk).trans (hg k (by omega))
  obtain ⟨hSTK, hWRK⟩ := hSW (adG g) hag
  have hb1 : adG g 70001 = b := (hag 70001 (Nat.le_refl _)).trans ha0
  have hKO : KOK D cs (adG g) L xs s.heap.size s := ⟨hK, hSTK, hWRK, by rw [hb1]; exact hX, by rw [hb1]; exact hbl, Nat.le_refl _⟩
  have hADK := adk_born hA
  have hH := hok_born (xs := xs) hA hL
  have hc : CX p room_1 s m #[Value.ref b] c 13 code 8 D cs (adG g) L xs s.heap.size d (200 + 512) (20000 + 6 * 512) :=
    ⟨hx, hb, hml, htb, hown, hKO, by omega, hADK, by show d + 9 ≤ 2048; omega, by show 64 * d + 360 ≤ 84000; omega, Nat.le_of_ble_eq_true rfl, Nat.le_of_ble_eq_true rfl⟩
  have hcon := con_sem (l := l) (thr_all hst) orc_con (D := D) (cs := cs) (ad := adG g) (Ls := L) (xs := xs) (base := s.heap.size) (by omega) hADK d
  obtain ⟨-, -, ⟨x1, x2, x3⟩, -⟩ := am_num
  have c1 : cells.contains 704 = true := by decide +kernel
  have c2 : cells.contains 768 = true := by decide +kernel
  have c3 : cells.contains 70000 = true := by decide +kernel
  have hLs : LOK (adG g) ls 8 lo9 := by
    have r1 : adG g 704 = g 0 := by rw [adG_c c1, x1]
    have r2 : adG g 768 = g (ix 768) := adG_c c2
    have r3 : adG g 70000 = g 104 := by rw [adG_c c3, x2]
    refine ⟨?_, rfl, ?_⟩
    · show lv_has ls 8 [(0, .ref (adG g 70001)), (1, .ref (adG g 704)), (2, .ref (adG g 768)), (3, .ref (adG g 70000)), (4, .int 0)]
      rw [r1, r2, r3, hb1]
      exact lv_sub hl [4, 3, 2, 1, 0] rfl
    · intro i v hv
      match i, hv with
      | 0, hv => cases hv; exact trivial
      | 1, hv => cases hv; exact trivial
      | 2, hv => cases hv; exact trivial
      | 3, hv => cases hv; exact trivial
      | 4, hv => cases hv; exact trivial
      | 5, hv => cases hv
      | 6, hv => cases hv
      | 7, hv => cases hv
      | i + 8, hv => cases hv
  refine hwp L xs hL (PQ p l e room_1 s m _ below meth c _ 8 D cs (adG g) L xs s.heap.size (200 + 512) (20000 + 6 * 512)) ?_ ls H locs 200 20000 hLs hH hS (Nat.le_refl _) (Nat.le_refl _)
  intro g' pc L' st M' hbk
  unfold blk at hbk
  split at hbk
  · rename_i mm is htx
    have hmem := txf_mem htx
    have hck := and2 (ck9_all _ hmem)
    have hW := walk hc hcon (R' := RLW) (K := PQ p l e room_1 s m _ below meth c (lw_Z below #[Value.ref b] s) 8 D cs (adG g) L xs s.heap.size (200 + 512) (20000 + 6 * 512)) (Hd := fun _ _ _ _ => False) (rt := some .boolean) (Gd := fun _ _ => True) (okp := fun _ => True) (fun _ _ _ _ _ _ _ => trivial) (fun _ _ _ _ _ => trivial) (fun _ _ _ _ _ q => q)
      (fun i ri len pc vs g M ls H locs cl sl hq ho hr2 hd hH hS hcl hsl => by
        obtain ⟨-, rfl⟩ := hq
        refine W.widen (k := 601024) (n := 7293033) (by omega) (by omega) (va_forget (fun q hq => hS.2.2 q hq) ?_)
        rcases ho with ⟨rfl, ⟨x, e0⟩, e2⟩ | ⟨rfl, ⟨x, hx2, e0⟩, e2⟩ | ⟨rfl, ⟨x, e0⟩, e2⟩ | ⟨rfl, ⟨x, -, e0⟩, e2⟩ | ⟨rfl, e0, e2⟩
        · cases e2
        · unfold relC at hr2; dsimp only at hr2
          have q := and2 hr2; have e3 := beqN q.1; have e4 := dec q.2; subst e3; subst e4
          exact lw_ret hx hb hr hlocks hd
        · cases e2
        · cases e2
        · cases e2)
      (fun E pc g M ls H locs cl sl hq => absurd hq.1 (by omega))
      (fun E g pc L st M ls H locs cl sl q ce _ hq => hq.elim) is pc g' (trim mm L') st M' hck.1 hck.2 trivial hbk
    intro ls H locs cl sl hLs
    exact hW ls H locs cl sl hLs.trim
  · exact hbk.elim
