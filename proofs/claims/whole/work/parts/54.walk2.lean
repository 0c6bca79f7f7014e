/-! The start: the evaluator's walk. -/
theorem en_w : Cond.fieldLink (on 3) 24 "WellPumps$Thing" "END" "LWellPumps$Thing;" ∈ lw_tbl ∧ goodWord (Cond.fieldLink (on 3) 24 "WellPumps$Thing" "END" "LWellPumps$Thing;") = true := by decide +kernel
section AX
variable {p : Program} {l : Launch} {e : Env} {R : Room} {s : State} {m : MethodId} {args : Array Value} {below : List Frame} {meth : Method} {c : Code}
variable {cc : ByteArray} {n d mc ms : Nat} {D : va_G} {cs : cid} {base e0 own : Nat}
/-- what a constructor's frame does from a place on, if the evaluator comes to E' -/
def AW (p : Program) (l : Launch) (e : Env) (R : Room) (s : State) (m : MethodId) (args : Array Value) (below : List Frame) (meth : Method) (c : Code) (n mc ms : Nat) (D : va_G) (cs : cid) (base e0 : Nat) (Q : List AE → (Nat → Nat) → Nat → State → Prop) (pc : Nat) (L st : List Value) (E E' : List AE) : Prop :=
  (E.length ≤ E'.length ∧ sE E ≤ sE E') ∧ ∀ (g g0 : Nat → Nat) (n0 : Nat) (ls : Array Slot) (H : Heap) (locs : List Loc) (cl sl : Nat), n0 ≤ E.length → (∀ i, (i < n0 ∨ 70000 ≤ i) → g i = g0 i) → g 70100 = e0 → ls.size = n → (∀ (k : Nat) (v : Value), L[k]? = some v → ls[k]? = some (Slot.val (rz g v))) → AOK D cs base g E H → va_S (AB base) s.heap H locs → cl + (E'.length - E.length) ≤ mc → sl + (sE E' - sE E) ≤ ms → W p l e R s m args below meth c H locs cl sl (Q E' g0 n0) (F0 m pc ls (st.map (rz g)))
/-- .. and a constructor that it calls -/
def AV (p : Program) (l : Launch) (e : Env) (R : Room) (s : State) (m : MethodId) (args : Array Value) (below : List Frame) (meth : Method) (c : Code) (cc : ByteArray) (n mc ms own : Nat) (D : va_G) (cs : cid) (base e0 : Nat) (cal : Nat → List Value → List AE → Option (List AE)) : Prop :=
  ∀ (Q : State → Prop) (pc k c0 : Nat) (as st : List Value) (E E1 : List AE), lkf liL own k = some c0 → as.length = (cond (Nat.beq c0 99) 1 (naI c0 + 1)) → (cond (Nat.beq c0 99) (some E) (cal c0 as E)) = some E1 → Nat.ble (cats st) 8 = true → as.all (fun v => isRf [v]) = true → decode cc pc = .ok (.invokespecial k, 3) →
    (E.length ≤ E1.length ∧ sE E ≤ sE E1) ∧ ∀ (g : Nat → Nat) (ls : Array Slot) (H : Heap) (locs : List Loc) (cl sl : Nat), g 70100 = e0 → ls.size = n → AOK D cs base g E H → va_S (AB base) s.heap H locs → cl + (E1.length - E.length) ≤ mc → sl + (sE E1 - sE E) ≤ ms →
      (∀ (g' : Nat → Nat) (H1 : Heap) (locs1 : List Loc), (∀ i, (i < E.length ∨ 70000 ≤ i) → g' i = g i) → AOK D cs base g' E1 H1 → va_S (AB base) s.heap H1 locs1 → W p l e R s m args below meth c H1 locs1 (cl + (E1.length - E.length)) (sl + (sE E1 - sE E)) Q (F0 m (pc + 3) ls (st.map (rz g)))) → W p l e R s m args below meth c H locs cl sl Q (F0 m pc ls ((as.reverse ++ st).map (rz g)))
theorem sE_pa {E : List AE} {t k : Nat} {w : List (Nat × Int32)} : sE (E ++ [.inr (t, k, w)]) = sE E + k := sE_push
theorem sE_po {E : List AE} {k : Nat} {fs : List Value} : sE (E ++ [.inl (k, fs)]) = sE E + nfL.getD k 0 := sE_push
theorem sE_so {E : List AE} {o k : Nat} {fs fs' : List Value} (h : E[o]? = some (.inl (k, fs))) : sE (E.set o (.inl (k, fs'))) = sE E := sE_set h rfl
theorem sE_sa {E : List AE} {o t k : Nat} {w w' : List (Nat × Int32)} (h : E[o]? = some (.inr (t, k, w))) : sE (E.set o (.inr (t, k, w'))) = sE E := sE_set h rfl
theorem len1 {E : List AE} {x : AE} : (E ++ [x]).length = E.length + 1 := by rw [List.length_append]; rfl
theorem ls_same {g g' : Nat → Nat} {k : Nat} {L : List Value} {ls : Array Slot} (h : ∀ i, (i < k ∨ 70000 ≤ i) → g' i = g i) (hL : L.all (wfV k) = true) (hl : ∀ (j : Nat) (v : Value), L[j]? = some v → ls[j]? = some (Slot.val (rz g v))) : ∀ (j : Nat) (v : Value), L[j]? = some v → ls[j]? = some (Slot.val (rz g' v)) := fun j v hv => by
  rw [rz_same h (List.all_eq_true.mp hL v (List.mem_of_getElem? hv))]
  exact hl j v hv
theorem g_tr {g g' g0 : Nat → Nat} {k n0 : Nat} (h : ∀ i, (i < k ∨ 70000 ≤ i) → g' i = g i) (hn : n0 ≤ k) (h0 : ∀ i, (i < n0 ∨ 70000 ≤ i) → g i = g0 i) : ∀ i, (i < n0 ∨ 70000 ≤ i) → g' i = g0 i := fun i hi => (h i (hi.imp (fun q => Nat.lt_of_lt_of_le q hn) id)).trans (h0 i hi)
set_option maxHeartbeats 4000000 in
theorem amx_sound (hc : CI p R s m args c own cc n D cs base e0 d mc ms) (hname : meth.name = "<init>") {cal : Nat → List Value → List AE → Option (List AE)} (hcal : AV p l e R s m args below meth c cc n mc ms own D cs base e0 cal) {Q : List AE → (Nat → Nat) → Nat → State → Prop}
    (hend : ∀ (pc : Nat) (E : List AE) (g g0 : Nat → Nat) (n0 : Nat) (ls : Array Slot) (H : Heap) (locs : List Loc) (cl sl : Nat), decode cc pc = .ok (.return_, 1) → (∀ i, (i < n0 ∨ 70000 ≤ i) → g i = g0 i) → AOK D cs base g E H → va_S (AB base) s.heap H locs → cl ≤ mc → sl ≤ ms → W p l e R s m args below meth c H locs cl sl (Q E g0 n0) (F0 m pc ls [])) :
    ∀ (f pc : Nat) (L st : List Value) (E E' : List AE), amx cal own cc f pc L st E = some E' → AW p l e R s m args below meth c n mc ms D cs base e0 Q pc L st E E' := by
  have hc0 := hc
  obtain ⟨hx, hb, hml, hts, hown, hK, hfr, hlo, hmc, hms⟩ := hc
  intro f
  induction f with
  | zero => intro pc L st E E' h; cases h
  | succ f ih =>
    intro pc L st E E' h
    unfold amx at h
    split at h
    · rename_i i len hd
      have hh := condN h
      have hlen := hh.1
      replace h := hh.2
      clear hh
      have hlen := beqN hlen
      split at h
      · -- aload
        split at h <;> first | cases h; done | skip
        rename_i hv
        have e1 : len = 1 := hlen
        subst e1
        obtain ⟨⟨m1, m2⟩, W1⟩ := ih _ _ _ _ _ h
        refine ⟨⟨m1, m2⟩, fun g g0 n0 ls H locs cl sl hn hg he hls hL hA hS hcl hsl => ?_⟩
        exact lv_aload_n hx hb hd rfl (hL _ _ hv) (W1 g g0 n0 ls H locs cl sl hn hg he hls hL hA hS hcl hsl)
      · have e1 : len = 1 := hlen
        subst e1
        obtain ⟨⟨m1, m2⟩, W1⟩ := ih _ _ _ _ _ h
        refine ⟨⟨m1, m2⟩, fun g g0 n0 ls H locs cl sl hn hg he hls hL hA hS hcl hsl => ?_⟩
        exact lv_iconst hx hb hd rfl (W1 g g0 n0 ls H locs cl sl hn hg he hls hL hA hS hcl hsl)
      · have e1 : len = 2 := hlen
        subst e1
        obtain ⟨⟨m1, m2⟩, W1⟩ := ih _ _ _ _ _ h
        refine ⟨⟨m1, m2⟩, fun g g0 n0 ls H locs cl sl hn hg he hls hL hA hS hcl hsl => ?_⟩
        exact lv_bipush hx hb hd rfl (W1 g g0 n0 ls H locs cl sl hn hg he hls hL hA hS hcl hsl)
      · have e1 : len = 3 := hlen
        subst e1
        obtain ⟨⟨m1, m2⟩, W1⟩ := ih _ _ _ _ _ h
        refine ⟨⟨m1, m2⟩, fun g g0 n0 ls H locs cl sl hn hg he hls hL hA hS hcl hsl => ?_⟩
        exact lv_sipush hx hb hd rfl (W1 g g0 n0 ls H locs cl sl hn hg he hls hL hA hS hcl hsl)
      · have e1 : len = 1 := hlen
        subst e1
        obtain ⟨⟨m1, m2⟩, W1⟩ := ih _ _ _ _ _ h
        refine ⟨⟨m1, m2⟩, fun g g0 n0 ls H locs cl sl hn hg he hls hL hA hS hcl hsl => ?_⟩
        exact lv_lconst hx hb hd rfl (W1 g g0 n0 ls H locs cl sl hn hg he hls hL hA hS hcl hsl)
      · -- newarray
        split at h <;> first | cases h; done | skip
        split at h <;> first | cases h; done | skip
        rename_i hk
        have hh := condN h
        have hw := hh.1
        replace h := hh.2
        clear hh
        have e1 : len = 2 := hlen
        subst e1
        have q := and2 hw; have q2 := and2 q.2
        obtain ⟨w1, w2, w3, w4⟩ := wfA_spec q.1
        obtain ⟨⟨m1, m2⟩, W1⟩ := ih _ _ _ _ _ h
        rw [len1] at m1 W1
        rw [sE_pa] at m2 W1
        refine ⟨⟨by omega, by omega⟩, fun g g0 n0 ls H locs cl sl hn hg he hls hL hA hS hcl hsl => ?_⟩
        refine go_newa hc0 hA hS w3 w4 hk (by simpa using q2.1) (Nat.le_of_ble_eq_true q2.2) hd (by omega) (by omega) ?_
        intro q H1 hA1 hS1
        have gk := gup_ok (g := g) (q := q) w4
        have e2 : rz (gup g E.length q) (.ref E.length) = .ref q := by show Value.ref (gup g E.length q E.length) = _; unfold gup; rw [if_pos rfl]
        rw [← e2, ← map_same gk w2, ← List.map_cons]
        exact W1 (gup g E.length q) g0 n0 ls H1 locs (cl + 1) _ (Nat.le_succ_of_le hn) (g_tr gk hn hg) ((gk 70100 (Or.inr (by decide))).trans he) hls (ls_same gk w1 hL) hA1 hS1 (by omega) (by omega)
      · -- anewarray
        split at h <;> first | cases h; done | skip
        have hh := condN h
        have hw := hh.1
        replace h := hh.2
        clear hh
        have e1 : len = 3 := hlen
        subst e1
        have q := and2 hw; have q2 := and2 q.2; have q3 := and2 q2.2; have q4 := and2 q3.2
        have hown3 := beqN q2.1
        have hk9 := beqN q3.1
        subst hk9
        obtain ⟨w1, w2, w3, w4⟩ := wfA_spec q.1
        obtain ⟨⟨m1, m2⟩, W1⟩ := ih _ _ _ _ _ h
        rw [len1] at m1 W1
        rw [sE_pa] at m2 W1
        refine ⟨⟨by omega, by omega⟩, fun g g0 n0 ls H locs cl sl hn hg he hls hL hA hS hcl hsl => ?_⟩
        refine go_newq (by rw [← hown3]; exact hc0) hA hS w3 w4 (by simpa using q4.1) (Nat.le_of_ble_eq_true q4.2) hd (by omega) (by omega) ?_
        intro q H1 hA1 hS1
        have gk := gup_ok (g := g) (q := q) w4
        have e2 : rz (gup g E.length q) (.ref E.length) = .ref q := by show Value.ref (gup g E.length q E.length) = _; unfold gup; rw [if_pos rfl]
        rw [← e2, ← map_same gk w2, ← List.map_cons]
        exact W1 (gup g E.length q) g0 n0 ls H1 locs (cl + 1) _ (Nat.le_succ_of_le hn) (g_tr gk hn hg) ((gk 70100 (Or.inr (by decide))).trans he) hls (ls_same gk w1 hL) hA1 hS1 (by omega) (by omega)
      · -- putfield
        split at h <;> first | cases h; done | skip
        split at h <;> first | cases h; done | skip
        rename_i hk ho
        have hh := condN h
        have hw := hh.1
        replace h := hh.2
        clear hh
        have e1 : len = 3 := hlen
        subst e1
        have q := and2 hw; have q2 := and2 q.2; have q3 := and2 q2.2
        obtain ⟨⟨m1, m2⟩, W1⟩ := ih _ _ _ _ _ h
        rw [List.length_set] at m1 W1
        rw [sE_so ho] at m2 W1
        refine ⟨⟨m1, m2⟩, fun g g0 n0 ls H locs cl sl hn hg he hls hL hA hS hcl hsl => ?_⟩
        exact go_put hc0 hA hS hk ho (beqN q.1) (beqN q2.1) hname q3.1 (Nat.blt_eq.mp q3.2) hd (fun H1 locs1 hA1 hS1 => W1 g g0 n0 ls H1 locs1 cl sl hn hg he hls hL hA1 hS1 hcl hsl)
      · -- getfield
        split at h <;> first | cases h; done | skip
        split at h <;> first | cases h; done | skip
        rename_i hk ho
        split at h <;> first | cases h; done | skip
        rename_i hv
        have hh := condN h
        have hw := hh.1
        replace h := hh.2
        clear hh
        have e1 : len = 3 := hlen
        subst e1
        obtain ⟨⟨m1, m2⟩, W1⟩ := ih _ _ _ _ _ h
        refine ⟨⟨m1, m2⟩, fun g g0 n0 ls H locs cl sl hn hg he hls hL hA hS hcl hsl => ?_⟩
        exact go_get hc0 hA hk ho (beqN hw) hv hd (W1 g g0 n0 ls H locs cl sl hn hg he hls hL hA hS hcl hsl)
      · -- getstatic
        have hh := condN h
        have hw := hh.1
        replace h := hh.2
        clear hh
        have e1 : len = 3 := hlen
        subst e1
        have q := and2 hw
        have hown3 := beqN q.1
        have hk9 := beqN q.2
        subst hk9
        obtain ⟨⟨m1, m2⟩, W1⟩ := ih _ _ _ _ _ h
        refine ⟨⟨m1, m2⟩, fun g g0 n0 ls H locs cl sl hn hg he hls hL hA hS hcl hsl => ?_⟩
        have := W1 g g0 n0 ls H locs cl sl hn hg he hls hL hA hS hcl hsl
        rw [List.map_cons, show rz g (.ref 70100) = .ref e0 from congrArg Value.ref he] at this
        rw [hown3] at hown
        exact va_gets hx hb hK.2.2.1 hS hown (hts _ (big_of en_w.1 en_w.2)) (fun _ h => h) hd this
      · -- iastore
        split at h <;> first | cases h; done | skip
        split at h <;> first | cases h; done | skip
        rename_i ho
        have hh := condN h
        have hw := hh.1
        replace h := hh.2
        clear hh
        have e1 : len = 1 := hlen
        subst e1
        have q := and2 hw; have q2 := and2 q.2
        have ht := beqN q.1
        subst ht
        obtain ⟨⟨m1, m2⟩, W1⟩ := ih _ _ _ _ _ h
        rw [List.length_set] at m1 W1
        rw [sE_sa ho] at m2 W1
        refine ⟨⟨m1, m2⟩, fun g g0 n0 ls H locs cl sl hn hg he hls hL hA hS hcl hsl => ?_⟩
        exact go_ia hc0 hA hS ho (by simpa using q2.1) (Nat.blt_eq.mp q2.2) hd (fun H1 locs1 hA1 hS1 => W1 g g0 n0 ls H1 locs1 cl sl hn hg he hls hL hA1 hS1 hcl hsl)
      · -- new
        split at h <;> first | cases h; done | skip
        rename_i hk
        have hh := condN h
        have hw := hh.1
        replace h := hh.2
        clear hh
        have e1 : len = 3 := hlen
        subst e1
        obtain ⟨w1, w2, w3, w4⟩ := wfA_spec hw
        obtain ⟨⟨m1, m2⟩, W1⟩ := ih _ _ _ _ _ h
        rw [len1] at m1 W1
        rw [sE_po] at m2 W1
        refine ⟨⟨by omega, by omega⟩, fun g g0 n0 ls H locs cl sl hn hg he hls hL hA hS hcl hsl => ?_⟩
        refine go_new hc0 hA hS w3 w4 hk hd (by omega) (by omega) ?_
        intro q H1 hA1 hS1
        have gk := gup_ok (g := g) (q := q) w4
        have e2 : rz (gup g E.length q) (.ref E.length) = .ref q := by show Value.ref (gup g E.length q E.length) = _; unfold gup; rw [if_pos rfl]
        rw [← e2, ← map_same gk w2, ← List.map_cons]
        exact W1 (gup g E.length q) g0 n0 ls H1 locs (cl + 1) _ (Nat.le_succ_of_le hn) (g_tr gk hn hg) ((gk 70100 (Or.inr (by decide))).trans he) hls (ls_same gk w1 hL) hA1 hS1 (by omega) (by omega)
      · -- dup
        split at h <;> first | cases h; done | skip
        have e1 : len = 1 := hlen
        subst e1
        obtain ⟨⟨m1, m2⟩, W1⟩ := ih _ _ _ _ _ h
        refine ⟨⟨m1, m2⟩, fun g g0 n0 ls H locs cl sl hn hg he hls hL hA hS hcl hsl => ?_⟩
        exact lv_dup hx hb hd rfl (W1 g g0 n0 ls H locs cl sl hn hg he hls hL hA hS hcl hsl)
      · -- invokespecial
        split at h <;> first | cases h; done | skip
        rename_i hk
        split at h <;> first | cases h; done | skip
        rename_i hp
        have hh := condN h
        have hw := hh.1
        replace h := hh.2
        clear hh
        split at h <;> first | cases h; done | skip
        rename_i hE1
        have e1 : len = 3 := hlen
        subst e1
        have q := and2 hw
        obtain ⟨w1, w2, w3, w4⟩ := wfA_spec q.1
        rw [List.all_append] at w2
        obtain ⟨a1, a2⟩ := popA_0 hp
        subst a2
        obtain ⟨⟨k1, k2⟩, K1⟩ := hcal (Q := Q E' (fun _ => 0) 0) _ _ _ _ _ _ _ hk a1 hE1 (and2 q.2).1 (and2 q.2).2 hd
        obtain ⟨⟨m1, m2⟩, W1⟩ := ih _ _ _ _ _ h
        refine ⟨⟨by omega, by omega⟩, fun g g0 n0 ls H locs cl sl hn hg he hls hL hA hS hcl hsl => ?_⟩
        refine (hcal (Q := Q E' g0 n0) _ _ _ _ _ _ _ hk a1 hE1 (and2 q.2).1 (and2 q.2).2 hd).2 g ls H locs cl sl he hls hA hS (by omega) (by omega) ?_
        intro g' H1 locs1 gk hA1 hS1
        rw [← map_same gk (and2 w2).2]
        exact W1 g' g0 n0 ls H1 locs1 _ _ (Nat.le_trans hn k1) (g_tr gk hn hg) ((gk 70100 (Or.inr (by decide))).trans he) hls (ls_same gk w1 hL) hA1 hS1 (by omega) (by omega)
      · -- return
        split at h <;> first | cases h; done | skip
        have e1 : len = 1 := hlen
        subst e1
        have e2 := Option.some.inj h
        subst e2
        refine ⟨⟨Nat.le_refl _, Nat.le_refl _⟩, fun g g0 n0 ls H locs cl sl hn hg he hls hL hA hS hcl hsl => ?_⟩
        exact hend pc _ g g0 n0 ls H locs cl sl hd hg hA hS (by omega) (by omega)
      · cases h
    · cases h
end AX
