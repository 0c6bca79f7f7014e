/-! The reference: what is wanted, what a year brings. -/
def DRel (w : Nat → Nat) (ta : Nat → Nat → Nat → Nat) (M : Mm) : Prop := ∀ q, q < w 11 → ∃ lines, DRW M q lines ∧ WFL lines ∧ ∀ l T f b, l ≤ 7 → 1 ≤ T → T ≤ 7 → f ≤ 2 → b ≤ 1 → sml l T f b lines = dmf ta q T l f b
theorem LNE.of {P : Nat → Nat → Bool} {M N : Mm} {q n num : Nat} {cs : List (Nat × Nat)} (h : LNE M q n num cs) (hF : Fr P M N) (h0 : ∀ j, P 50177 j = false) : LNE N q n num cs := by
  obtain ⟨lo, ⟨h1, h2, h3, h4⟩, h5⟩ := h
  have e : ∀ j, N.1 50177 j = M.1 50177 j := fun j => (hF _ _ (h0 j)).1
  exact ⟨lo, ⟨h1, by rw [e]; exact h2, by rw [e]; exact h3, by rw [e]; exact h4⟩, fun i c hc => by rw [e, e]; exact h5 i c hc⟩
theorem DRW.of {P : Nat → Nat → Bool} {M N : Mm} {q : Nat} {lines : List (Nat × List (Nat × Nat))} (h : DRW M q lines) (hF : Fr P M N) (h0 : ∀ j, P 50177 j = false) : DRW N q lines :=
  ⟨by rw [(hF _ _ (h0 _)).1]; exact h.1, h.2.1, fun n x hx => ⟨(h.2.2 n x hx).1, (h.2.2 n x hx).2.of hF h0⟩⟩
theorem DRel.of {w : Nat → Nat} {ta : Nat → Nat → Nat → Nat} {P : Nat → Nat → Bool} {M N : Mm} (h : DRel w ta M) (hF : Fr P M N) (h0 : ∀ j, P 50177 j = false) : DRel w ta N := fun q hq => by
  obtain ⟨lines, h1, h2, h3⟩ := h q hq
  exact ⟨lines, h1.of hF h0, h2, h3⟩
/-- what is wanted, with a pact (pn its number, or below 0; pd its draw) -/
def wRf (w : Nat → Nat) (ta : Nat → Nat → Nat → Nat) (pn : Int) (pd b l f : Nat) : Nat := if pn < 0 then waW w ta b l f else if b = 0 then pn.toNat else wbd w ta (pd + 1) 1 l f
theorem wRf_le {w : Nat → Nat} {ta : Nat → Nat → Nat → Nat} {pn : Int} {pd b l f : Nat} (h : pn ≤ 3) : wRf w ta pn pd b l f ≤ 3 := by
  unfold wRf
  split
  · exact wbd_le
  · split
    · omega
    · exact wbd_le
/-- pacts as they stand -/
def PN (w : Nat → Nat) (pn : Int) (pd : Nat) (M : Mm) : Prop := M.1 768 14 = iz pn ∧ M.1 768 15 = nI pd ∧ -1 ≤ pn ∧ pn ≤ 3 ∧ (0 ≤ pn → pd < w 11)
theorem PN.of {w : Nat → Nat} {pn : Int} {pd : Nat} {P : Nat → Nat → Bool} {M N : Mm} (h : PN w pn pd M) (hF : Fr P M N) (h0 : P 768 14 = false) (h1 : P 768 15 = false) (hpd : True) : PN w pn pd N := ⟨by rw [(hF _ _ h0).1]; exact h.1, by rw [(hF _ _ h1).1]; exact h.2.1, h.2.2⟩
def aWant (k j : Nat) : Bool := aVal k j || Nat.beq k 50192
def aYearR (k j : Nat) : Bool := Nat.beq k 50193 || (Nat.beq k 50194 || (Nat.beq k 768 && (Nat.beq j 19 || (Nat.beq j 20 || Nat.beq j 21))))
/-- what a year brings a farm; and all of the first farms -/
def gnW (w : Nat → Nat) (r : Nat) (v : Nat → Nat) (l f : Nat) : Int := foW w r (cstW w) f l (gt v (l - w (32 + 5 * r + 1)) f)
def gaW (w : Nat → Nat) (r : Nat) (v : Nat → Nat) (l : Nat) : Nat → Int
  | 0 => 0
  | f + 1 => gaW w r v l f + gnW w r v l f
def sgt (v : Nat → Nat) (a : Nat) : Nat → Nat
  | 0 => 0
  | f + 1 => sgt v a f + gt v a f
theorem lw_sg {v : Nat → Nat} {a l : Nat} (h : a ≤ l) : ∀ f, lw v a l f = l - sgt v a f ∧ sgt v a f ≤ l
  | 0 => ⟨rfl, Nat.zero_le _⟩
  | f + 1 => by
    obtain ⟨h1, h2⟩ := lw_sg (v := v) h f
    have h3 := lw_rst (v := v) h f
    unfold lw sgt
    omega
def YV (w : Nat → Nat) (r : Nat) (v : Nat → Nat) (l : Nat) (N : Mm) : Prop := (∀ f, f < w 8 → N.1 50193 f = nI (gt v (l - w (32 + 5 * r + 1)) f)) ∧ (∀ f, f < w 8 → N.1 50194 f = iz (gnW w r v l f)) ∧ N.1 768 21 = iz (gaW w r v l (w 8)) ∧ N.1 768 19 = nI (lowS (yW w r) (kW w) v l) ∧ N.1 768 20 = nI (lkd (kW w) (lw v (l - w (32 + 5 * r + 1)) l (w 8)))
section HW
variable {d : Nat} {M : Mm} {w : Nat → Nat} {ta : Nat → Nat → Nat → Nat}
theorem c170 (hw : MR w M) (hb : WB w) (hD : DRel w ta M) {q l f b : Nat} (hq : q ≤ w 11) (hl : l ≤ 7) (hf : f ≤ 2) (hbb : b ≤ 1) : SC (d + 4) 170 [.ref 768, .int (iz ((q : Int) - 1)), .int (nI l), .int (nI f), .int (nI b)] M (fun vs N => vs = [.int (nI (wbd w ta q b l f))] ∧ Fr aVal M N) := by
  obtain ⟨⟨a1, a2, a3⟩, -, -, ⟨-, -, -, d1, -⟩, -⟩ := id hb
  refine sC (by decide) rfl (go_in (e170_0 ⟨fun e => ?_, fun e => ?_⟩))
  · rw [iz_0le ⟨by omega, by omega⟩] at e
    obtain ⟨q, rfl⟩ : ∃ p, q = p + 1 := ⟨q - 1, by omega⟩
    rw [show ((q + 1 : Nat) : Int) - 1 = (q : Int) by omega, iz_nn]
    obtain ⟨lines, hW, hWF, hS⟩ := hD q (by omega)
    have hval : wbd w ta (q + 1) b l f = sml l (w 0) f b lines := by
      unfold wbd
      rw [if_neg (by omega), Nat.add_sub_cancel, hS l (w 0) f b hl a1 a2 hf hbb]
    rw [hval]
    have loop : ∀ k n N, n + k = lines.length → Fr aVal M N → sml l (w 0) f b (lines.drop n) = sml l (w 0) f b lines → WM (d + 3) 170 (fun vs N => vs = [.int (nI (sml l (w 0) f b lines))] ∧ Fr aVal M N) 9 [some (.ref 768), some (.int (nI q)), some (.int (nI l)), some (.int (nI f)), some (.int (nI b)), some (.int (nI n))] [] N := by
      intro k
      induction k with
      | zero =>
        intro n N hn hF hs
        have hlen := hW.2.1
        refine go_in (e170_9 (useC (upC (c157 (d := d)) (by omega)) fun vs N2 h => ?_))
        obtain ⟨rfl, rfl⟩ := h
        refine e170_19 ⟨nI_in2 (by omega) (by decide), br_t ?_ ?_⟩
        · rw [nI_c (by omega), (hF _ _ rfl).1, hW.1]; exact nI_le (by omega) (by omega)
        · rw [List.drop_eq_nil_of_le (by omega)] at hs
          exact go_in (e170_55 ⟨rfl, by rw [← hs]; rfl, hF⟩)
      | succ k ih =>
        intro n N hn hF hs
        have hlen := hW.2.1
        have hnl : n < lines.length := by omega
        obtain ⟨x, hx⟩ : ∃ x, lines[n]? = some x := ⟨lines[n], List.getElem?_eq_getElem hnl⟩
        have hdr : lines.drop n = x :: lines.drop (n + 1) := by
          rw [List.drop_eq_getElem_cons hnl]
          rw [List.getElem?_eq_getElem hnl] at hx
          rw [Option.some.inj hx]
        obtain ⟨hx3, hL⟩ := hW.2.2 n x hx
        obtain ⟨fst, hr, hr1⟩ := hWF x (List.mem_of_getElem? hx) l (w 0) f b hl a2 hf hbb
        refine go_in (e170_9 (useC (upC (c157 (d := d)) (by omega)) fun vs N2 h => ?_))
        obtain ⟨rfl, rfl⟩ := h
        refine e170_19 ⟨nI_in2 (by omega) (by decide), br_f ?_ ?_⟩
        · rw [nI_c (by omega), (hF _ _ rfl).1, hW.1]; exact nI_ge (by omega) (by omega)
        · refine useC (c169 (hw.of hF (fun j _ => rfl)) hb (show q ≤ 6 by omega) (show n < 10 by omega) (hL.of hF (fun j => rfl)) hl hf hbb hr hr1) fun vs N3 h => ?_
          obtain ⟨rfl, hF3⟩ := h
          have hF3 := hF.tr hF3
          rw [hdr] at hs
          rw [show sml l (w 0) f b (x :: lines.drop (n + 1)) = if hld l (w 0) f b x.2 = true then x.1 else sml l (w 0) f b (lines.drop (n + 1)) from rfl] at hs
          refine e170_34 ⟨fun e => ?_, fun e => ?_⟩
          · rw [show (0 : Int32) = nI 0 from rfl, nI_eq (by cases hld l (w 0) f b x.2 <;> decide) (by decide)] at e
            have hh : hld l (w 0) f b x.2 = false := by
              cases hc : hld l (w 0) f b x.2 with
              | false => rfl
              | true => rw [hc] at e; cases e
            rw [hh, if_neg (by decide)] at hs
            refine go_in (e170_49 ?_)
            rw [nI_s]
            exact ih (n + 1) N3 (by omega) hF3 hs
          · have hh : hld l (w 0) f b x.2 = true := by
              cases hc : hld l (w 0) f b x.2 with
              | true => rfl
              | false => rw [hc] at e; exact absurd rfl e
            rw [hh, if_pos rfl] at hs
            refine useC (upC (c158 (d := d)) (by omega)) fun vs N4 h => ?_
            obtain ⟨rfl, rfl⟩ := h
            obtain ⟨lo, ⟨-, g0, -⟩, -⟩ := hL.of hF3 (fun j => rfl)
            refine e170_47 ⟨nI_in2 (by omega) (by decide), rfl, ?_, hF3⟩
            rw [nI_c (by omega), g0, hs]
    exact go_in (e170_6 (loop lines.length 0 M (by omega) Fr.rf (by rw [List.drop_zero])))
  · rw [iz_0le ⟨by omega, by omega⟩] at e
    have hq0 : q = 0 := by omega
    subst hq0
    exact ⟨rfl, by unfold wbd; rw [if_pos (Or.inl rfl)], Fr.rf⟩
theorem c171 (hw : MR w M) (hb : WB w) (hD : DRel w ta M) {pn : Int} {pd : Nat} (hp : PN w pn pd M) {l f b : Nat} (hl : l ≤ 7) (hf : f < w 8) (hbb : b ≤ 1) : SC (d + 5) 171 [.ref 768, .int (nI f), .int (nI l), .int (nI b)] M (fun vs N => vs = [.int (nI (wRf w ta pn pd b l f))] ∧ Fr aVal M N) := by
  obtain ⟨w0, w8, w9⟩ := wb_w hb
  obtain ⟨p1, p2, p3, p4, p5⟩ := hp
  refine sC (by decide) rfl (go_in (e171_0 ?_))
  rw [p1, p2]
  refine ⟨fun e => ?_, fun e => ⟨fun e2 => ?_, fun e2 => ?_⟩⟩
  · rw [iz_lt0 ⟨by omega, by omega⟩] at e
    have hby : w (21 + 5 * f) ≤ w 11 := (hb.2.2.2.2.2.1 f hf).2.2
    have hi : nI 17 + nI 5 * nI f + nI 4 = nI (21 + 5 * f) := by rw [nI_mul, nI_add, nI_add, show 17 + 5 * f + 4 = 21 + 5 * f by omega]
    have hs : shf (21 + 5 * f) = true := by rcases (show f = 0 ∨ f = 1 ∨ f = 2 by omega) with e | e | e <;> subst e <;> rfl
    refine go_in (e171_30 ?_)
    rw [hi, nI_c (by omega), hw.s (by omega) hs]
    refine ⟨nI_in2 (by omega) (by decide), useC (c170 hw hb hD hby hl (by omega) hbb) fun vs N h => ?_⟩
    obtain ⟨rfl, hF⟩ := h
    exact e171_50 ⟨rfl, by unfold wRf; rw [if_pos e]; rfl, hF⟩
  · rw [iz_lt0 ⟨by omega, by omega⟩] at e
    rw [show (0 : Int32) = nI 0 from rfl, nI_eq (by omega) (by decide)] at e2
    refine go_in (e171_25 (go_in (e171_29 ⟨rfl, ?_, Fr.rf⟩)))
    rw [p1]
    unfold wRf
    rw [if_neg e, if_pos e2, ← iz_nn, show ((pn.toNat : Nat) : Int) = pn by omega]
  · rw [iz_lt0 ⟨by omega, by omega⟩] at e
    rw [show (0 : Int32) = nI 0 from rfl, nI_eq (by omega) (by decide)] at e2
    have := p5 (by omega)
    have e3 : nI pd = iz (((pd + 1 : Nat) : Int) - 1) := by rw [iz_n]; congr 1; omega
    rw [e3]
    refine useC (c170 (b := 1) hw hb hD (show pd + 1 ≤ w 11 by omega) hl (by omega) (by omega)) fun vs N h => ?_
    obtain ⟨rfl, hF⟩ := h
    exact e171_22 (go_in (e171_29 ⟨rfl, by unfold wRf; rw [if_neg e, if_neg e2], hF⟩))
theorem c175 (hw : MR w M) (hb : WB w) (hD : DRel w ta M) {pn : Int} {pd : Nat} (hp : PN w pn pd M) {l b : Nat} (hl : l ≤ 7) (hbb : b ≤ 1) : SC (d + 6) 175 [.ref 768, .int (nI l), .int (nI b)] M (fun vs N => vs = [] ∧ Fr aWant M N ∧ ∀ f, f < w 8 → N.1 50192 f = nI (wRf w ta pn pd b l f)) := by
  obtain ⟨w0, w8, w9⟩ := wb_w hb
  refine sC (by decide) rfl (go_in (e175_0 ?_))
  have loop : ∀ k f N, f + k = w 8 → Fr aWant M N → (∀ g, g < f → N.1 50192 g = nI (wRf w ta pn pd b l g)) → WM (d + 5) 175 (fun vs N => vs = [] ∧ Fr aWant M N ∧ ∀ f, f < w 8 → N.1 50192 f = nI (wRf w ta pn pd b l f)) 2 [some (.ref 768), some (.int (nI l)), some (.int (nI b)), some (.int (nI f))] [] N := by
    intro k
    induction k with
    | zero =>
      intro f N hf hF hd
      refine go_in (e175_2 (useC (upC (c135 (d := d) (hw.of hF (fun j _ => rfl))) (by omega)) fun vs N2 h => ?_))
      obtain ⟨rfl, rfl⟩ := h
      exact e175_7 (br_t (nI_le (by omega) (by omega)) (go_in (e175_29 ⟨rfl, rfl, hF, fun g hg => hd g (by omega)⟩)))
    | succ k ih =>
      intro f N hf hF hd
      have hwN := hw.of hF (fun j _ => rfl)
      refine go_in (e175_2 (useC (upC (c135 (d := d) hwN) (by omega)) fun vs N2 h => ?_))
      obtain ⟨rfl, rfl⟩ := h
      refine e175_7 (br_f (nI_ge (by omega) (by omega)) (useC (c171 hwN hb (hD.of hF (fun j => rfl)) (hp.of hF rfl rfl trivial) hl (show f < w 8 by omega) hbb) fun vs N3 h => ?_))
      obtain ⟨rfl, hF3⟩ := h
      refine e175_22 ⟨nI_in2 (by omega) (by decide), ?_⟩
      rw [nI_s, nI_c (by omega)]
      refine ih (f + 1) _ (by omega) ((hF.tr (hF3.le (le_by fun k j h => by unfold aWant; rw [h]; rfl))).sI rfl) fun g hg => ?_
      rw [sI_v]
      by_cases e : g = f
      · subst e; rw [if_pos ⟨rfl, rfl⟩]
      · rw [if_neg (by omega), (hF3 _ _ rfl).1]; exact hd g (by omega)
  exact loop (w 8) 0 M (by omega) Fr.rf (fun g h => absurd h (Nat.not_lt_zero _))
theorem c172 (hw : MR w M) (hb : WB w) {f n l r : Nat} (hf : f < w 8) (hn : n < 4) (hl : l ≤ 7) (hr : r < w 9) : SC (d + 2) 172 [.ref 768, .int (nI f), .int (nI n), .int (nI l), .int (nI r)] M (fun vs N => vs = [.int (iz (foW w r (cstW w) f l n))] ∧ N = M) := by
  obtain ⟨w0, w8, w9⟩ := wb_w hb
  obtain ⟨⟨p1, p2, p3⟩, p4, p5⟩ := hb.2.2.2.2.2.2.1 r hr
  have e1 : nI 17 + nI 5 * nI f = nI (17 + 5 * f) := by rw [nI_mul, nI_add]
  have e2 : nI 32 + nI 5 * nI r = nI (32 + 5 * r) := by rw [nI_mul, nI_add]
  have main : ∀ (o1 o4 o7 : Option Value), WM (d + 1) 172 (fun vs N => vs = [.int (iz (foW w r (cstW w) f l n))] ∧ N = M) 36 [some (.ref 768), o1, some (.int (nI n)), some (.int (nI l)), o4, some (.int (nI (17 + 5 * f))), some (.int (nI (32 + 5 * r))), o7] [.int (nI (brg w f n))] M := by
    intro o1 o4 o7
    refine go_in (e172_36 ?_)
    rw [nI_add, nI_c (by omega), hw.n (by omega) (shf_no (by omega))]
    refine ⟨nI_in2 (by omega) (by decide), useC (c134 hw) fun vs N h => ?_⟩
    obtain ⟨rfl, rfl⟩ := h
    refine e172_51 ?_
    rw [nI_add, nI_add, nI_c (a := 32 + 5 * r + 0) (by omega), nI_c (a := 32 + 5 * r + 2) (by omega), hw.n (i := 32 + 5 * r + 0) (by omega) (shf_no (by omega)), hw.n (i := 32 + 5 * r + 2) (by omega) (shf_no (by omega))]
    refine ⟨nI_in2 (by omega) (by decide), nI_in2 (by omega) (by decide), ?_⟩
    refine useC (show SC (d + 1) 230 [.int (nI 0), .int (nI n - nI (w (32 + 5 * r + 2)))] _ _ from ?_) (fun vs N3 q => ?_) (Q := fun vs N3 => vs = [.int (iz (max 0 ((n : Int) - (w (32 + 5 * r + 2) : Int))))] ∧ N3 = N)
    · rw [iz_n, iz_n, iz_n, iz_sub]
      exact c230 i32_0 ⟨by omega, by omega⟩
    · obtain ⟨rfl, rfl⟩ := q
      refine e172_88 ?_
      rw [nI_add, nI_add, nI_c (a := 32 + 5 * r + 3) (by omega), nI_c (a := 32 + 5 * r + 4) (by omega), hw.n (i := 32 + 5 * r + 3) (by omega) (shf_no (by omega)), hw.n (i := 32 + 5 * r + 4) (by omega) (shf_no (by omega))]
      refine ⟨nI_in2 (by omega) (by decide), nI_in2 (by omega) (by decide), rfl, ?_, rfl⟩
      simp only [iz_n, iz_sub, iz_mul]
      refine congrArg (fun z => [Value.int (iz z)]) ?_
      unfold foW plW cstW
      rw [show 17 + 5 * f + 3 = 20 + 5 * f by omega]
      have h4 : ((4 : Nat) : Int) = 4 := rfl
      rw [h4, Int.mul_sub, ← Int.mul_assoc 4 (n : Int) _, ← Int.mul_assoc (max 0 _)]
  refine sC (by decide) rfl (go_in (e172_0 ?_))
  rw [e1, e2]
  refine ⟨fun e => ?_, fun e => ?_⟩
  · rw [show (0 : Int32) = nI 0 from rfl, nI_eq (by omega) (by decide)] at e
    refine go_in (e172_25 ?_)
    rw [nI_add, nI_sub (by omega), nI_c (by omega), hw.n (by omega) (shf_no (by omega))]
    refine ⟨nI_in2 (by omega) (by decide), ?_⟩
    have hbg : w (17 + 5 * f + n - 1) = brg w f n := by
      unfold brg
      rw [if_neg e, show 17 + 5 * f + n - 1 = 16 + 5 * f + n by omega]
    rw [hbg]
    exact main _ _ _
  · rw [show (0 : Int32) = nI 0 from rfl, nI_eq (by omega) (by decide)] at e
    have hbg : nI 0 = nI (brg w f n) := by unfold brg; rw [if_pos e]
    rw [hbg]
    exact main _ _ _
end HW
