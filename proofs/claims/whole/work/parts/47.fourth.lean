/-! The fourth throw. -/
set_option maxHeartbeats 2000000 in
theorem thr_3 {l : Launch} (hl : l.stackTraces = false) : THR l 3 := by
  intro p e R s m args below meth c H locs cl sl cc pc n d ls D cs ad Ls xs base M QE ik is ic text hc hlk htb hq hH hS hls hcl hsl hex hth d0 d3 dd
  have hik : ik = 332 ∧ ic = 336 := by
    simp only [exE, List.mem_cons, List.not_mem_nil, or_false, Prod.mk.injEq] at hex
    omega
  obtain ⟨rfl, rfl⟩ := hik
  obtain ⟨⟨i1, i2⟩, ⟨i3, i4⟩, -⟩ := ex_in _ hex
  obtain ⟨hx, hb, hml, hts, hown, hKO, hL31, hA, hfr, hlo, hGc, hGs⟩ := hc
  obtain ⟨sa, hsa⟩ := hKO.2.2.1.2.1 _ hth
  have hown : s.vm.findClass RX11 = some m.cls := hown
  have hU := hKO.2.1.2.2.2.2.2.2.2.1
  have hN := hKO.2.1.2.2.2.2.2.2.2.2
  have hk : (Cond.classLink RX11 332 nsX).before args s = true := hts _ (big_of i1 i2)
  have hini : (Cond.initialized nsX).before args s = true := hts _ (big_of i3 i4)
  have hat : ∀ w ∈ nsL.filter vx_no, w.before args s = true := vx_hat (fun w hw => hts w (big_of (nsL_good w hw) (List.mem_filter.mp hw).2)) (fun w hw => List.mem_filter.mpr (nsL_bad w hw)) (fun w hw => by
    have h1 := (List.mem_filter.mp hw).2
    have h2 := hKO.2.2.1.2.2.2.1 w hw
    unfold isBad at h1
    split at h1
    · exact va_Nw.use rfl h2
    · exact va_Nw.use rfl h2
    · cases h1)
  intro T hT X
  have htr : e.platform.stackTraces = false := (show e.platform.stackTraces = l.stackTraces by rw [X.admits.platform]).trans hl
  have Y := vx_rebase X (R' := { frames := R.frames, locals := R.locals, cells := 1, slots := 6 }) (Nat.le_refl _) (Nat.le_refl _) (show cl + 1 ≤ R.cells by omega) (show sl + 6 ≤ R.slots by omega)
  obtain ⟨s', hA'⟩ : ∃ z, z = (T.setVm s.vm).setFrames (.invoking m args :: below) := ⟨_, rfl⟩
  rw [← hA'] at Y
  have hvm : s'.vm = s.vm := by rw [hA']; rfl
  have hhp : s'.heap = H := by rw [hA']; exact hT
  have hW0 : s.WarmedH s'.vm := by rw [hvm]; exact State.WarmedH.refl s
  have hat' : ∀ w ∈ nsL.filter vx_no, w.before args s' = true := fun w hw => vx_ot_at hW0 hvm.symm (nsL_ot w (List.mem_cons_of_mem _ (List.mem_cons_of_mem _ hw))) (hat w hw)
  have hk' : (Cond.classLink RX11 332 nsX).before args s' = true := vx_ot_at hW0 hvm.symm (nsL_ot _ List.mem_cons_self) hk
  have hini' : (Cond.initialized nsX).before args s' = true := vx_ot_at hW0 hvm.symm (nsL_ot _ (List.mem_cons_of_mem _ List.mem_cons_self)) hini
  have hU' : vx_Zq Bundle.tN "UNASSIGNED_STACK" Bundle.steD (AB base) s' s'.heap := by rw [hhp]; exact vx_Zq.moved hW0.alike (hU.kept hS.2.1)
  have hN' : vx_Zq Bundle.tN "SUPPRESSED_SENTINEL" Bundle.listD (AB base) s' s'.heap := by rw [hhp]; exact vx_Zq.moved hW0.alike (hN.kept hS.2.1)
  have h : ∀ w ∈ nsL, w.before args s' = true := vx_own hat' (vx_isRefq hU'.1) (vx_isRefq hN'.1) hU'.2.word hN'.2.word
  have hown' : s'.vm.findClass RX11 = some m.cls := by rw [hvm]; exact hown
  have hins : (Cond.instantiable nsX 6).before args s' = true := h _ (nsL_5 _ (by simp [nsT]))
  obtain ⟨vm₁, cX, kX, hfX, hkX, -, -, X₁, st1⟩ := Y.newCold hx (own := RX11) (C := nsX) (index := 332) (n := 6) hown' hk' hins hini'
    (g := F0 m pc ls []) rfl (by rw [hb]; exact d0) (Nat.le_refl _) (Nat.le_refl _)
  generalize hT1 : (T.setVm vm₁).pushCell { cls := cX, slots := kX.instanceTypes.map defaultValue, vm := .none } = T1 at X₁ st1
  have hcellA : T1.heap[T.heap.size]? = some (freshCell cX kX) := by rw [← hT1]; exact State.heap_pushCell_size _ _
  have hnewA : s'.heap.size ≤ T.heap.size := by rw [hhp, hT]; exact Nat.le_refl _
  have d3' : decode c.code (pc + 3) = .ok (.dup, 1) := by rw [hb]; exact d3
  have hstr' : vk_R RX11 is text sa s' := vk_R.warm hW0 hsa
  have hsz : ls.size = c.maxLocals := by rw [hls, hml]
  have fin : ∀ (q : Nat), decode cc q = .ok (.invokespecial 336, 3) → decode cc (q + 3) = .ok (.athrow, 1) → ∃ t, Steps p.tables e below (T1.setTop { method := m, pc := q, locals := ls, stack := [.ref sa, .ref T.heap.size, .ref T.heap.size], locked := none }) t ∧ vx_MQ below (fun _ _ _ _ => False) (XcC D cs ad Ls xs base QE) args s 1 6 (AB base) t := by
    intro q dq dq3
    obtain ⟨U, hsteps, hrun, hend, hW, hsame, ce, hce, hcl9, hvm9⟩ := ns_ctor X₁ hx htr hown' h (fun x hx => nomatch hx) hfX hkX hcellA hnewA (msg := .ref sa) rfl
      (g := { method := m, pc := q, locals := ls, stack := [.ref sa, .ref T.heap.size, .ref T.heap.size], locked := none }) rfl hsz rfl rfl (rest := []) rfl
      (by rw [hb]; exact dq) (by rw [hb]; exact dq3) (fun x hx => (htb x hx).elim) (show 5 < R.frames by omega) (show 2 * 0 + 1 + 81 ≤ R.locals by omega) hlk
    obtain ⟨f1, f2⟩ := vx_frame hsame
    rw [hhp] at f1 f2
    have hWs : s.WarmedH U.vm := State.WarmedH.trans hW0 hW
    have hcl : s.vm.findClass nsX = some ce.cls := by
      rw [hvm] at hcl9
      exact hcl9
    have hall : s.sameButNew ({ U with vm := s.vm } : State) locs 1 6 := by
      subst hA'
      obtain ⟨e1, e2⟩ := hsame
      rw [State.setFrames_setFrames] at e1
      have h2 : (T.setVm s.vm).sameButNew ({ U with vm := s.vm } : State) [] (0 + 1) (0 + 6) := ⟨e1, e2⟩
      have h3 := X.same.trans h2
      rw [List.append_nil] at h3
      exact h3.mono (by omega) (by omega)
    exact ⟨U, hsteps, .threw T.heap.size, hrun, hend, Or.inr ⟨T.heap.size, rfl, nsX, ce, locs, xc_of (E := 3) (by omega) hq hH hS f1 (fun q hq => f2 q hq (fun z hz => nomatch hz)), hce, hvm9, hcl, hWs, hall, hS.2.2⟩⟩
  rcases dd with ⟨d4, d6, d9⟩ | ⟨d4, d7, d10⟩
  · obtain ⟨U, hsteps, hfin⟩ := fin (pc + 6) d6 d9
    refine ⟨U, ?_, hfin⟩
    refine st1 _ ?_
    show Steps p.tables e below (T1.setTop { method := m, pc := pc + 3, locals := ls, stack := [.ref T.heap.size], locked := none }) _
    jvm_step X₁.here [X₁.here.top, hx, d3', Value.category]
    exact X₁.ldcString hx (own := RX11) (text := text) (index := is) (a := sa) hown' hstr'.1 hstr'.2
      (g := { method := m, pc := pc + 4, locals := ls, stack := [.ref T.heap.size, .ref T.heap.size], locked := none }) rfl (by rw [hb]; exact d4) _ hsteps
  · obtain ⟨U, hsteps, hfin⟩ := fin (pc + 7) d7 d10
    refine ⟨U, ?_, hfin⟩
    refine st1 _ ?_
    show Steps p.tables e below (T1.setTop { method := m, pc := pc + 3, locals := ls, stack := [.ref T.heap.size], locked := none }) _
    jvm_step X₁.here [X₁.here.top, hx, d3', Value.category]
    exact X₁.ldcStringW hx (own := RX11) (text := text) (index := is) (a := sa) hown' hstr'.1 hstr'.2
      (g := { method := m, pc := pc + 4, locals := ls, stack := [.ref T.heap.size, .ref T.heap.size], locked := none }) rfl (by rw [hb]; exact d4) _ hsteps
theorem thr_all {l : Launch} (hl : l.stackTraces = false) : ∀ E, E < 4 → THR l E := fun E hE => by
  by_cases h : E = 3
  · subst h; exact thr_3 hl
  · exact thr_012 hl hE h
