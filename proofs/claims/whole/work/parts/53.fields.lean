/-! The start: arrays and fields. -/
section AM
variable {p : Program} {l : Launch} {e : Env} {R : Room} {s : State} {m : MethodId} {args : Array Value} {below : List Frame} {meth : Method} {c : Code} {H : Heap} {locs : List Loc} {cl sl : Nat} {Q : State → Prop}
variable {cc : ByteArray} {pc n d mc ms : Nat} {ls : Array Slot} {D : va_G} {cs : cid} {base e0 own : Nat} {g : Nat → Nat} {E : List AE} {st : List Value}
theorem go_newa (hc : CI p R s m args c own cc n D cs base e0 d mc ms) (hA : AOK D cs base g E H) (hS : va_S (AB base) s.heap H locs) (hE : E.all (wfE E.length) = true) (hs : E.length < 60000) {t : ArrayType} {k : Nat} {i : Int32} (hk : atK t = some k) (hi : ¬ i < 0) (hN : i.toNatClampNeg ≤ 10000) (hd : decode cc pc = .ok (.newarray t, 2)) (hcl : cl + 1 ≤ mc) (hsl : sl + i.toNatClampNeg ≤ ms) {rest : List Value}
    (kk : ∀ (q : Nat) (H1 : Heap), AOK D cs base (gup g E.length q) (E ++ [.inr (k, i.toNatClampNeg, [])]) H1 → va_S (AB base) s.heap H1 locs → W p l e R s m args below meth c H1 locs (cl + 1) (sl + i.toNatClampNeg) Q (F0 m (pc + 2) ls (.ref q :: rest))) : W p l e R s m args below meth c H locs cl sl Q (F0 m pc ls (.int i :: rest)) := by
  obtain ⟨hx, hb, hml, hts, hown, hK, hfr, hlo, hmc, hms⟩ := hc
  have w := fun t ht => hts _ (big_of (ac_ok t ht).1 (ac_ok t ht).2)
  have hAA : ∀ q, s.heap.size ≤ q → AB base q := fun q hq => Nat.le_trans hK.2.2.2.2 hq
  have fin : ∀ (q : Nat) (x : va_E) (H1 : Heap), trE cs g (.inr (k, i.toNatClampNeg, [])) = x → va_P D vwCl (wsA cs g E ++ [(q, x)]) H1 → va_D (AB base) (wsA cs g E ++ [(q, x)]) → va_S (AB base) s.heap H1 locs → W p l e R s m args below meth c H1 locs (cl + 1) (sl + i.toNatClampNeg) Q (F0 m (pc + 2) ls (.ref q :: rest)) := by
    intro q x H1 ex h1 h2 h3
    have e1 : wsA cs (gup g E.length q) (E ++ [.inr (k, i.toNatClampNeg, [])]) = wsA cs g E ++ [(q, x)] := by rw [wsA_push hE hs arr_tr, ex]
    exact kk q H1 ⟨by rw [e1]; exact h1, by rw [e1]; exact h2⟩ h3
  unfold atK at hk
  split at hk
  · cases hk
    refine va_newa (atype := .int) hx hb (w .int (by decide)) rfl hK.1 hA.1 hA.2 hS hAA (a0 := (i.toNatClampNeg, .inl (wr []))) (fun cA => rfl) hi rfl (show i.toNatClampNeg * 4 ≤ 536870912 by omega) (by omega) (by omega) hd ?_
    intro q cA H1 h0 h1 h2 h3
    have e1 := va_nm_int (h0.2 4 (cA, .int) rfl).2
    have e2 := va_nm_int (h0.2 0 (cs.1, .int) rfl).2
    cases Option.some.inj (e1.symm.trans e2)
    exact fin q _ H1 rfl h1 h2 h3
  · cases hk
    refine va_newa (atype := .long) hx hb (w .long (by decide)) rfl hK.1 hA.1 hA.2 hS hAA (a0 := (i.toNatClampNeg, .inr (.inl (fun _ => 0)))) (fun cA => rfl) hi rfl (show i.toNatClampNeg * 8 ≤ 536870912 by omega) (by omega) (by omega) hd ?_
    intro q cA H1 h0 h1 h2 h3
    have e1 := va_nm_long (h0.2 4 (cA, .long) rfl).2
    have e2 := va_nm_long (h0.2 1 (cs.2.1, .long) rfl).2
    cases Option.some.inj (e1.symm.trans e2)
    exact fin q _ H1 rfl h1 h2 h3
  · cases hk
    refine va_newa (atype := .byte) hx hb (w .byte (by decide)) rfl hK.1 hA.1 hA.2 hS hAA (a0 := (i.toNatClampNeg, .inl (fun _ => 0))) (fun cA => rfl) hi rfl (show i.toNatClampNeg * 1 ≤ 536870912 by omega) (by omega) (by omega) hd ?_
    intro q cA H1 h0 h1 h2 h3
    have e1 := va_nm_byte (h0.2 4 (cA, .byte) rfl).2
    have e2 := va_nm_byte (h0.2 2 (cs.2.2.1, .byte) rfl).2
    cases Option.some.inj (e1.symm.trans e2)
    exact fin q _ H1 rfl h1 h2 h3
  · cases hk
theorem go_newq (hc : CI p R s m args c 3 cc n D cs base e0 d mc ms) (hA : AOK D cs base g E H) (hS : va_S (AB base) s.heap H locs) (hE : E.all (wfE E.length) = true) (hs : E.length < 60000) {i : Int32} (hi : ¬ i < 0) (hN : i.toNatClampNeg ≤ 10000) (hd : decode cc pc = .ok (.anewarray 9, 3)) (hcl : cl + 1 ≤ mc) (hsl : sl + i.toNatClampNeg ≤ ms) {rest : List Value}
    (kk : ∀ (q : Nat) (H1 : Heap), AOK D cs base (gup g E.length q) (E ++ [.inr (4, i.toNatClampNeg, [])]) H1 → va_S (AB base) s.heap H1 locs → W p l e R s m args below meth c H1 locs (cl + 1) (sl + i.toNatClampNeg) Q (F0 m (pc + 3) ls (.ref q :: rest))) : W p l e R s m args below meth c H locs cl sl Q (F0 m pc ls (.int i :: rest)) := by
  obtain ⟨hx, hb, hml, hts, hown, hK, hfr, hlo, hmc, hms⟩ := hc
  have hAA : ∀ q, s.heap.size ≤ q → AB base q := fun q hq => Nat.le_trans hK.2.2.2.2 hq
  refine va_newq hx hb hown (hts _ (big_of tn_ok.1 tn_ok.2)) hK.2.1 hK.1 hA.1 hA.2 hS hAA hi rfl (show i.toNatClampNeg * 4 ≤ 536870912 by omega) (by omega) (by omega) hd ?_
  intro q cA H1 h0 h1 h2 h3
  have r1 : va_RA s cA (.object "WellPumps$Thing") := (h0.2 4 (cA, .object "WellPumps$Thing") rfl).2
  have r2 : va_RA s cs.2.2.2 (.object "WellPumps$Thing") := (h0.2 3 (cs.2.2.2, .object "WellPumps$Thing") rfl).2
  unfold va_RA at r1 r2
  obtain ⟨_, _, _, _, _, e1⟩ := r1
  obtain ⟨_, _, _, _, _, e2⟩ := r2
  cases Option.some.inj (e1.symm.trans e2)
  have e3 : wsA cs (gup g E.length q) (E ++ [.inr (4, i.toNatClampNeg, [])]) = wsA cs g E ++ [(q, trE cs g (.inr (4, i.toNatClampNeg, [])))] := wsA_push hE hs arr_tr
  exact kk q H1 ⟨by rw [e3]; exact h1, by rw [e3]; exact h2⟩ h3
theorem ws_ob {cs : cid} {g : Nat → Nat} {E : List AE} {o c0 : Nat} {fs : List Value} (h : E[o]? = some (.inl (c0, fs))) : (wsA cs g E)[o]? = some (g o, .inr (c0, fs.map (rz g))) := by
  rw [wsA_get, h]; rfl
theorem txw_1 : ∀ c, c < 13 → ∀ k, k < nfL.getD c 0 → (txc c k).1 = on c := by decide +kernel
theorem f23 : ∀ c, c < 13 → ∀ k, k < nfL.getD c 0 → (fk c k = 2 ∨ fk c k = 3) → (∃ nm, tyc c k = .object nm) ∨ (∃ t, tyc c k = .array t) := by
  have h9 : ∀ c, c < 13 → ∀ k, k < nfL.getD c 0 → (fk c k = 2 ∨ fk c k = 3) → (match tyc c k with | .object _ => true | .array _ => true | _ => false) = true := by decide +kernel
  intro c hc k hk hkk
  have q1 := h9 c hc k hk hkk
  split at q1
  · rename_i e; exact Or.inl ⟨_, e⟩
  · rename_i e; exact Or.inr ⟨_, e⟩
  · cases q1
theorem go_put (hc : CI p R s m args c own cc n D cs base e0 d mc ms) (hA : AOK D cs base g E H) (hS : va_S (AB base) s.heap H locs) {k o nn c0 : Nat} {v : Value} {fs : List Value} (hk : lkf lfL own k = some nn) (ho : E[o]? = some (.inl (c0, fs))) (hc0 : c0 = nn / 64) (hco : c0 = own) (hname : meth.name = "<init>") (hf : fitV (fk c0 (nn % 64)) v = true) (hl : nn % 64 < fs.length) (hd : decode cc pc = .ok (.putfield k, 3)) {rest : List Value}
    (kk : ∀ (H1 : Heap) (locs1 : List Loc), AOK D cs base g (E.set o (.inl (c0, fs.set (nn % 64) v))) H1 → va_S (AB base) s.heap H1 locs1 → W p l e R s m args below meth c H1 locs1 cl sl Q (F0 m (pc + 3) ls rest)) : W p l e R s m args below meth c H locs cl sl Q (F0 m pc ls (rz g v :: .ref (g o) :: rest)) := by
  obtain ⟨hx, hb, hml, hts, hown, hK, hfr, hlo, hmc, hms⟩ := hc
  obtain ⟨h1, h2, h3⟩ := lf_in hk
  subst hc0
  have key : narrow (tyc (nn / 64) (nn % 64)) (rz g v) = rz g v ∧ fits (tyc (nn / 64) (nn % 64)) (rz g v) = true := by
    have f0 := clF0 _ h2 _ h3
    have f1 := clF1 _ h2 _ h3
    have f5 := clF5 _ h2 _ h3
    have f4 := clF4 _ h2 _ h3
    unfold fitV at hf
    split at hf
    · rw [Bool.or_eq_true] at hf
      rcases hf with hf | hf
      · obtain ⟨q1, q2⟩ := f0 (beqN hf)
        rw [q1]
        exact ⟨rfl, rfl⟩
      · have hf2 := and2 hf
        obtain ⟨q1, q2⟩ := f5 (beqN hf2.1)
        rw [q1]
        have hf3 := hf2.2
        rw [Bool.or_eq_true] at hf3
        rcases hf3 with hf3 | hf3
        · rw [dec hf3]; exact ⟨rfl, rfl⟩
        · rw [dec hf3]; exact ⟨rfl, rfl⟩
    · obtain ⟨q1, q2⟩ := f1 (beqN hf)
      rw [q1]
      exact ⟨rfl, rfl⟩
    · rw [Bool.or_eq_true] at hf
      rcases hf with hf | hf
      · have hf2 := (and2 hf).2
        rw [Bool.or_eq_true] at hf2
        rcases f23 _ h2 _ h3 (hf2.imp beqN beqN) with ⟨nm, q1⟩ | ⟨nm, q1⟩
        · rw [q1]; exact ⟨rfl, rfl⟩
        · rw [q1]; exact ⟨rfl, rfl⟩
      · obtain ⟨q1, q2⟩ := f4 (beqN (and2 hf).2)
        rw [q1]
        exact ⟨rfl, rfl⟩
    · cases hf
  have fin : ∀ (H1 : Heap) (locs1 : List Loc), va_P D vwCl ((wsA cs g E).set o (g o, .inr (nn / 64, (fs.map (rz g)).set (nn % 64) (rz g v)))) H1 → va_D (AB base) ((wsA cs g E).set o (g o, .inr (nn / 64, (fs.map (rz g)).set (nn % 64) (rz g v)))) → va_S (AB base) s.heap H1 locs1 → W p l e R s m args below meth c H1 locs1 cl sl Q (F0 m (pc + 3) ls rest) := by
    intro H1 locs1 p1 p2 p3
    have e1 : wsA cs g (E.set o (.inl (nn / 64, fs.set (nn % 64) v))) = (wsA cs g E).set o (g o, .inr (nn / 64, (fs.map (rz g)).set (nn % 64) (rz g v))) := by
      rw [wsA_set]
      unfold trE
      dsimp only
      rw [List.map_set]
    exact kk H1 locs1 ⟨by rw [e1]; exact p1, by rw [e1]; exact p2⟩ p3
  cases hfin : (txc (nn / 64) (nn % 64)).2.2.2 with
  | false => exact va_put (D := D) (C := on (nn / 64)) (T := txc (nn / 64)) (N := nfL.getD (nn / 64) 0) hx hb hts (clW _ h2) (tyc (nn / 64)) (clT _ h2) (clN _ h2) hown hK.1 hA.1 hA.2 hS o (ws_ob ho) (clA _ h2) (nn % 64) h3 (hts _ h1) (fun _ h => h) hfin (ty := tyc (nn / 64) (nn % 64)) (clT _ h2 _ h3) key.1 key.2 (by rw [List.length_map]; exact hl) hd fin
  | true => exact va_putF (D := D) (C := on (nn / 64)) (T := txc (nn / 64)) (N := nfL.getD (nn / 64) 0) hx hb hts (clW _ h2) (tyc (nn / 64)) (clT _ h2) (clN _ h2) hown hK.1 hA.1 hA.2 hS o (ws_ob ho) (clA _ h2) (nn % 64) h3 (hts _ h1) (fun _ h => h) hfin hname (by rw [← hco]; exact txw_1 _ h2 _ h3) (ty := tyc (nn / 64) (nn % 64)) (clT _ h2 _ h3) key.1 key.2 (by rw [List.length_map]; exact hl) hd fin
theorem go_get (hc : CI p R s m args c own cc n D cs base e0 d mc ms) (hA : AOK D cs base g E H) {k o nn c0 : Nat} {v : Value} {fs : List Value} (hk : lkf lfL own k = some nn) (ho : E[o]? = some (.inl (c0, fs))) (hc0 : c0 = nn / 64) (hv : fs[nn % 64]? = some v) (hd : decode cc pc = .ok (.getfield k, 3)) {rest : List Value}
    (kk : W p l e R s m args below meth c H locs cl sl Q (F0 m (pc + 3) ls (rz g v :: rest))) : W p l e R s m args below meth c H locs cl sl Q (F0 m pc ls (.ref (g o) :: rest)) := by
  obtain ⟨hx, hb, hml, hts, hown, hK, hfr, hlo, hmc, hms⟩ := hc
  obtain ⟨h1, h2, h3⟩ := lf_in hk
  subst hc0
  exact va_get (D := D) (C := on (nn / 64)) (T := txc (nn / 64)) (N := nfL.getD (nn / 64) 0) hx hb hts (clW _ h2) hown hK.1 hA.1 o (ws_ob ho) (clA _ h2) (nn % 64) h3 (hts _ h1) (fun _ h => h) (by rw [List.getElem?_map, hv]; rfl) hd kk
theorem go_ia (hc : CI p R s m args c own cc n D cs base e0 d mc ms) (hA : AOK D cs base g E H) (hS : va_S (AB base) s.heap H locs) {o nn : Nat} {i v : Int32} {ws : List (Nat × Int32)} (ho : E[o]? = some (.inr (1, nn, ws))) (hi : ¬ i < 0) (hn : i.toNatClampNeg < nn) (hd : decode cc pc = .ok (.iastore, 1)) {rest : List Value}
    (kk : ∀ (H1 : Heap) (locs1 : List Loc), AOK D cs base g (E.set o (.inr (1, nn, (i.toNatClampNeg, v) :: ws))) H1 → va_S (AB base) s.heap H1 locs1 → W p l e R s m args below meth c H1 locs1 cl sl Q (F0 m (pc + 1) ls rest)) : W p l e R s m args below meth c H locs cl sl Q (F0 m pc ls (.int v :: .int i :: .ref (g o) :: rest)) := by
  obtain ⟨hx, hb, hml, hts, hown, hK, hfr, hlo, hmc, hms⟩ := hc
  refine va_iast hx hb hK.1 hA.1 hA.2 hS o 0 (cA := cs.1) (n := nn) (f := wr ws) (by rw [wsA_get, ho]; rfl) rfl (fun q => by rcases q with q | q; exact hi q; omega) hd ?_
  intro H1 locs1 p1 p2 p3
  have e1 : wsA cs g (E.set o (.inr (1, nn, (i.toNatClampNeg, v) :: ws))) = (wsA cs g E).set o (g o, .inl (cs.1, nn, .inl (upd (wr ws) i.toNatClampNeg v))) := by
    rw [wsA_set]
    show _ = (wsA cs g E).set o (g o, _)
    rw [← wr_upd]
    rfl
  exact kk H1 locs1 ⟨by rw [e1]; exact p1, by rw [e1]; exact p2⟩ p3
end AM
