/-! The judge by any wants: the reference's. -/
def sdP (w : Nat → Nat) (wa : Nat → Nat → Nat → Nat) (b f l n : Nat) : Nat := if b = 1 ∨ wa 0 l f < n then 1 else 0
theorem sdP_2 {w : Nat → Nat} {wa : Nat → Nat → Nat → Nat} {b f l n : Nat} : sdP w wa b f l n < 2 := by
  unfold sdP
  split <;> omega
/-- a year's worth, once otherwise: below and above the line -/
def elP (w : Nat → Nat) (wa : Nat → Nat → Nat → Nat) (s : Nat) : Int := DW w * dtW w (w 10) (wa s)
def xlP (w : Nat → Nat) (wa : Nat → Nat → Nat → Nat) (s : Nat) (V : Nat → Nat) (f l : Nat) : Int := gnW w (w 10) V l f * elP w wa s + aws (yW w (w 10)) (uWo w (w 10) (wa s) f) (lowS (yW w (w 10)) (kW w) V l) 4 * (w 6 : Int)
def ebP (w : Nat → Nat) (wa : Nat → Nat → Nat → Nat) (b f l n : Nat) : Bool := decide (n ≠ wa b l f ∧ uWo w (w 10) (wa b) f l * elP w wa (sdP w wa b f l n) < xlP w wa (sdP w wa b f l n) (V1 (wa b l) f n) f l * dtW w (w 10) (wa b))
def gnP (w : Nat → Nat) (wa : Nat → Nat → Nat → Nat) (b f l : Nat) : Bool := anB (ebP w wa b f l) 4
section JB
variable {w : Nat → Nat} {wa : Nat → Nat → Nat → Nat}
theorem elP_bd (hb : WB w) (s : Nat) : 0 < elP w wa s ∧ elP w wa s ≤ 512000000000 := by
  obtain ⟨e1, e2⟩ := d20 hb
  obtain ⟨d1, d2⟩ := dtW_bd hb (r := w 10) (V := wa s)
  have h := (bd_mul (show bd 20 (DW w) from ⟨by unfold DW; omega, e2⟩) (show bd 25600000000 (dtW w (w 10) (wa s)) from ⟨by omega, d2⟩)).2
  exact ⟨Int.mul_pos e1 d1, h⟩
theorem xlP_bd (hb : WB w) (hwa3 : ∀ b l f, wa b l f ≤ 3) {s : Nat} {V : Nat → Nat} (hV : ∀ g, V g ≤ 3) {f l : Nat} (hf : f < w 8) (hl : l ≤ w 0) : bd 101523456000000000 (xlP w wa s V f l) := by
  obtain ⟨w0, -, -⟩ := wb_w hb
  have w10 : w 10 < w 9 := hb.2.2.2.1.2.2.1
  have hU := elP_bd (wa := wa) hb s
  have h1 := bd_mul (gnW_bd (v := V) hb w10 hf (show l ≤ 7 by omega) hV) (show bd 512000000000 (elP w wa s) from ⟨by omega, hU.2⟩)
  have h2 := aws_bd (y := yW w (w 10)) (fun r hr => y_part (yB_of hb w10) r hr) (R := uWo w (w 10) (wa s) f) (X := 1253376000000000) (fun j hj => uWo_bd hb w10 (fun l f => hwa3 s l f) hf (show j < w 0 + 1 by have : yW w (w 10) 0 = w 0 := rfl; omega)) (lowS (yW w (w 10)) (kW w) V l) 4 (by omega)
  have h3 := bd_mul h2 (bd_n (show w 6 ≤ 5 by have := hb.2.2.1; omega))
  exact bd_le (bd_add h1 h3) (by decide)
end JB
section JR
variable {d : Nat} {M : Mm} {w : Nat → Nat} {ta : Nat → Nat → Nat → Nat}
set_option maxHeartbeats 1000000 in
theorem c191P (hw : MR w M) (hb : WB w) (hD : DRel w ta M) {pn : Int} {pd : Nat} (hp : PN w pn pd M) (hB : ∀ b f, b < 2 → f < w 8 → BYD w ta pn pd b f M) {f l b : Nat} (hf : f < w 8) (hl : l ≤ w 0) (hbb : b < 2) : SC (d + 8) 191 [.ref 768, .int (nI f), .int (nI l), .int (nI b)] M (fun vs N => vs = [.int (nI (cond (gnP w (wRf w ta pn pd) b f l) 1 0))] ∧ Fr aYB M N) := by
  obtain ⟨w0, w8, w9⟩ := wb_w hb
  have w10 : w 10 < w 9 := hb.2.2.2.1.2.2.1
  have w67 := hb.2.2.1
  have w25 := hb.2.1.2
  have ok : ∀ N, Fr aYB M N → MR w N ∧ DRel w ta N ∧ PN w pn pd N ∧ (∀ b f l, b < 2 → f < w 8 → l < w 0 + 1 → N.2.1 50206 (8 * (3 * b + f) + l) = lz (uWo w (w 10) ((wRf w ta pn pd) b) f l)) ∧ ∀ b, b < 2 → N.2.1 50207 b = lz (dtW w (w 10) ((wRf w ta pn pd) b)) := fun N hF =>
    ⟨hw.of hF (fun j _ => rfl), hD.of hF (fun j => rfl), hp.of hF rfl rfl trivial, fun b f l h1 h2 h3 => by rw [(hF 50206 _ rfl).2.1, (hB b f h1 h2).1 l h3], fun b h1 => by rw [(hF 50207 _ rfl).2.1, (hB b f h1 hf).2]⟩
  refine sC (by decide) rfl (go_in (e191_0 ?_))
  have P : ∀ (o7 o8 o9 : Option Value) k n N, n + k = 4 → Fr aYB M N → (∀ m, m < n → ebP w (wRf w ta pn pd) b f l m = false) → WM (d + 7) 191 (fun vs N => vs = [.int (nI (cond (gnP w (wRf w ta pn pd) b f l) 1 0))] ∧ Fr aYB M N) 30 [some (.ref 768), some (.int (nI f)), some (.int (nI l)), some (.int (nI b)), some (.int (nI (wRf w ta pn pd b l f))), some (.int (nI (wRf w ta pn pd 0 l f))), some (.int (nI n)), o7, o8, o9] [] N := by
    intro o7 o8 o9 k
    revert o7 o8 o9
    induction k with
    | zero =>
      intro o7 o8 o9 n N hn hF hd
      have hn : n = 4 := by omega
      subst hn
      refine go_in (e191_30 (br_t (nI_le (Nat.le_refl _) (by decide)) (go_in (e191_184 ?_))))
      unfold gnP
      rw [anB_f hd]
      exact ⟨Or.inl rfl, rfl, rfl, hF⟩
    | succ k ih =>
      intro o7 o8 o9 n N hn hF hd
      have next : ∀ (o7 o8 o9 : Option Value) N, Fr aYB M N → ebP w (wRf w ta pn pd) b f l n = false → WM (d + 7) 191 (fun vs N => vs = [.int (nI (cond (gnP w (wRf w ta pn pd) b f l) 1 0))] ∧ Fr aYB M N) 178 [some (.ref 768), some (.int (nI f)), some (.int (nI l)), some (.int (nI b)), some (.int (nI (wRf w ta pn pd b l f))), some (.int (nI (wRf w ta pn pd 0 l f))), some (.int (nI n)), o7, o8, o9] [] N := by
        intro o7 o8 o9 N hF he
        refine go_in (e191_178 ?_)
        rw [nI_s]
        refine ih _ _ _ (n + 1) N (by omega) hF fun m hm => ?_
        by_cases e : m = n
        · subst e; exact he
        · exact hd m (by omega)
      have hwa : wRf w ta pn pd b l f ≤ 3 := wRf_le hp.2.2.2.1
      have hwa0 : wRf w ta pn pd 0 l f ≤ 3 := wRf_le hp.2.2.2.1
      refine go_in (e191_30 (br_f (nI_ge (by omega) (by decide)) ⟨fun e => go_in (e191_46 ?_), fun e => ?_⟩))
      · have hne : n ≠ wRf w ta pn pd b l f := fun q => e (by rw [← q])
        have main : ∀ (o7 o8 o9 : Option Value) x, x = b → WM (d + 7) 191 (fun vs N => vs = [.int (nI (cond (gnP w (wRf w ta pn pd) b f l) 1 0))] ∧ Fr aYB M N) 58 [some (.ref 768), some (.int (nI f)), some (.int (nI l)), some (.int (nI b)), some (.int (nI (wRf w ta pn pd b l f))), some (.int (nI (wRf w ta pn pd 0 l f))), some (.int (nI n)), o7, o8, o9] [.int (nI x), .int (nI l), .ref 768] N := by
          intro o7 o8 o9 x hx
          subst hx
          obtain ⟨hwN, hDN, hpN, -, -⟩ := ok N hF
          refine go_in (e191_58 (useC (upC (c175 (d := d) hwN hb hDN hpN (show l ≤ 7 by omega) (show x ≤ 1 by omega)) (by omega)) fun vs N2 h => ?_))
          obtain ⟨rfl, hF2, hv⟩ := h
          refine e191_61 ⟨nI_in2 (by omega) (by decide), ?_⟩
          rw [nI_c (by omega)]
          have hF3 : Fr aYB M (sI N2 50192 f (nI n)) := (hF.tr (hF2.le aYB_w)).sI rfl
          have hw3 := (ok _ hF3).1
          refine useC (upC (c174 (d := d) hw3) (by omega)) fun vs N3 h => ?_
          obtain ⟨rfl, rfl⟩ := h
          have hWR : WR w (V1 ((wRf w ta pn pd) x l) f n) (sI N2 50192 f (nI n)) := fun g hg => by
            rw [sI_v]
            unfold V1
            by_cases e : g = f
            · subst e; rw [if_pos ⟨rfl, rfl⟩, if_pos rfl]
            · rw [if_neg (by omega), if_neg e]; exact hv g hg
          have hV3 := V1_le (v := (wRf w ta pn pd) x l) (f := f) (n := n) (fun g => wRf_le hp.2.2.2.1) (by omega)
          refine e191_75 (useC (upC (c173 (d := d) hw3 hb hWR hV3 (show l ≤ 7 by omega) w10) (by omega)) fun vs N4 h => ?_)
          obtain ⟨rfl, hF4, y1, y2, y3, y4, y5⟩ := h
          have hF5 : Fr aYB M N4 := hF3.tr (hF4.le aYB_y)
          obtain ⟨hw5, -, -, hu5, hd5⟩ := ok N4 hF5
          have tail : ∀ (o7 o8 o9 : Option Value) s, s = sdP w (wRf w ta pn pd) x f l n → WM (d + 7) 191 (fun vs N => vs = [.int (nI (cond (gnP w (wRf w ta pn pd) x f l) 1 0))] ∧ Fr aYB M N) 95 [some (.ref 768), some (.int (nI f)), some (.int (nI l)), some (.int (nI x)), some (.int (nI (wRf w ta pn pd x l f))), some (.int (nI (wRf w ta pn pd 0 l f))), some (.int (nI n)), o7, o8, o9] [.int (nI s)] N4 := by
            intro o7 o8 o9 s hs
            have hs2 : s < 2 := by rw [hs]; exact sdP_2
            refine go_in (e191_95 ⟨nI_in2 (by decide) (by decide), useC (upC (c136 (d := d) hw5) (by omega)) fun vs N6 h => ?_⟩)
            obtain ⟨rfl, rfl⟩ := h
            refine e191_109 ⟨nI_in2 (by omega) (by decide), nI_in2 (by omega) (by decide), ?_⟩
            have hg := bd_i32 (bd_le (gnW_bd (v := V1 ((wRf w ta pn pd) x l) f n) hb w10 hf (show l ≤ 7 by omega) hV3) (by decide))
            rw [nI_c (a := 7) (by decide), nI_c (a := s) (by omega), nI_c (a := f) (by omega), hw5.n (by decide) rfl, iz_n (w 7), iz_n (w 2 + w 3 + w 4 + w 5), iz_l ⟨by omega, by omega⟩, iz_l ⟨by omega, by omega⟩, hd5 s hs2, y2 f hf, iz_l hg, lz_mul, lz_mul, lz_mul]
            refine useC (upC (c188 (d := d) (b := s) (f := f) (l := 0)) (by omega)) fun vs N7 h => ?_
            obtain ⟨rfl, rfl⟩ := h
            refine e191_143 ?_
            rw [y4]
            have hlow : lowS (yW w (w 10)) (kW w) (V1 ((wRf w ta pn pd) x l) f n) l ≤ 7 := by
              unfold lowS
              have := lw_le (v := V1 ((wRf w ta pn pd) x l) f n) (a := l - yW w (w 10) 3) (l := l) (yW w (w 10) 2)
              omega
            refine useC (upC (c187 (d := d) (q := w 10) (x := 50206) (off := 8 * (3 * s + f) + 0) (R := uWo w (w 10) ((wRf w ta pn pd) s) f) hw5 hb (by decide +kernel) (by decide +kernel) (by rw [show len 50206 = 48 by decide +kernel]; omega) (by decide +kernel) (fun j hj => by rw [Nat.add_zero]; exact hu5 s f j hs2 hf (by omega)) hlow) (by omega)) fun vs N8 h => ?_
            obtain ⟨rfl, rfl⟩ := h
            refine e191_150 (useC (upC (c188 (d := d) (b := x) (f := f) (l := l)) (by omega)) fun vs N9 h => ?_)
            obtain ⟨rfl, rfl⟩ := h
            refine e191_163 ⟨nI_in2 (by omega) (by decide), nI_in2 (by omega) (by decide), ?_⟩
            rw [nI_c (a := 8 * (3 * x + f) + l) (by omega), nI_c (a := x) (by omega), hu5 x f l hbb hf (by omega), hd5 x hbb, lz_add]
            have hX := xlP_bd (wa := wRf w ta pn pd) (s := s) hb (fun b l f => wRf_le hp.2.2.2.1) hV3 hf hl
            have hU := elP_bd (wa := wRf w ta pn pd) hb s
            have hu := uWo_bd hb w10 (V := (wRf w ta pn pd) x) (fun l f => wRf_le hp.2.2.2.1) hf (show l < w 0 + 1 by omega)
            have hdt := dtW_bd hb (r := w 10) (V := (wRf w ta pn pd) x)
            have hE : ebP w (wRf w ta pn pd) x f l n = decide (uWo w (w 10) ((wRf w ta pn pd) x) f l * elP w (wRf w ta pn pd) s < xlP w (wRf w ta pn pd) s (V1 ((wRf w ta pn pd) x l) f n) f l * dtW w (w 10) ((wRf w ta pn pd) x)) := by
              unfold ebP
              rw [← hs]
              simp only [ne_eq, hne, not_false_eq_true, true_and]
            refine useC (upC (c182 (d := d) (a := xlP w (wRf w ta pn pd) s (V1 ((wRf w ta pn pd) x l) f n) f l) (b := elP w (wRf w ta pn pd) s) (c := uWo w (w 10) ((wRf w ta pn pd) x) f l) (e := dtW w (w 10) ((wRf w ta pn pd) x)) hU.1 hdt.1 (i64_of hX (by decide)) ⟨by omega, by omega⟩ (i64_of hu (by decide)) ⟨by omega, by omega⟩) (by omega)) fun vs N10 h => ?_
            obtain ⟨rfl, rfl⟩ := h
            refine e191_173 ⟨fun q => ?_, fun q => ?_⟩
            · refine next _ _ _ _ hF5 ?_
              rw [hE]
              refine decide_eq_false fun z => ?_
              have : cmr 1 (xlP w (wRf w ta pn pd) s (V1 ((wRf w ta pn pd) x l) f n) f l) (elP w (wRf w ta pn pd) s) (uWo w (w 10) ((wRf w ta pn pd) x) f l) (dtW w (w 10) ((wRf w ta pn pd) x)) = 1 := by unfold cmr; rw [if_pos z]
              rw [this] at q
              exact absurd q (by decide)
            · have ht : ebP w (wRf w ta pn pd) x f l n = true := by
                rw [hE]
                refine decide_eq_true ?_
                by_cases z : uWo w (w 10) ((wRf w ta pn pd) x) f l * elP w (wRf w ta pn pd) s < xlP w (wRf w ta pn pd) s (V1 ((wRf w ta pn pd) x l) f n) f l * dtW w (w 10) ((wRf w ta pn pd) x)
                · exact z
                · refine absurd ?_ q
                  unfold cmr
                  rw [if_neg z]
                  split <;> decide
              unfold gnP
              rw [anB_t ht (show n < 4 by omega)]
              exact ⟨Or.inr rfl, rfl, rfl, hF5⟩
          refine e191_78 ⟨fun q => go_in (e191_90 (tail _ _ _ 1 ?_)), fun q => ⟨fun q2 => go_in (e191_94 (tail _ _ _ 0 ?_)), fun q2 => go_in (e191_90 (tail _ _ _ 1 ?_))⟩⟩
          · rw [iz_n x, iz_n 1, iz_eq ⟨by omega, by omega⟩ ⟨by omega, by omega⟩] at q
            unfold sdP; rw [if_pos (Or.inl (by omega))]
          · rw [iz_n, iz_n, iz_le ⟨by omega, by omega⟩ ⟨by omega, by omega⟩] at q2
            unfold sdP
            rw [if_neg]
            rintro (z | z)
            · exact q (by rw [z])
            · omega
          · rw [iz_n, iz_n, iz_le ⟨by omega, by omega⟩ ⟨by omega, by omega⟩] at q2
            unfold sdP; rw [if_pos (Or.inr (by omega))]
        refine ⟨fun q => go_in (e191_57 (main _ _ _ 0 ?_)), fun q => main _ _ _ 1 ?_⟩
        · have : b ≠ 1 := fun z => q (by rw [z])
          omega
        · rw [iz_n, iz_n, iz_eq ⟨by omega, by omega⟩ ⟨by omega, by omega⟩] at q
          omega
      · refine next _ _ _ N hF ?_
        rw [iz_n, iz_n, iz_eq ⟨by omega, by omega⟩ ⟨by omega, by omega⟩] at e
        refine decide_eq_false fun z => z.1 (by omega)
  have main : ∀ x, x = b → WM (d + 7) 191 (fun vs N => vs = [.int (nI (cond (gnP w (wRf w ta pn pd) b f l) 1 0))] ∧ Fr aYB M N) 13 [some (.ref 768), some (.int (nI f)), some (.int (nI l)), some (.int (nI b)), none, none, none, none, none, none] [.int (nI x), .int (nI l), .int (nI f), .ref 768] M := by
    intro x hx
    subst hx
    refine go_in (e191_13 (useC (upC (c171 (d := d) hw hb hD hp (show l ≤ 7 by omega) hf (show x ≤ 1 by omega)) (by omega)) fun vs N h => ?_))
    obtain ⟨rfl, hF⟩ := h
    have hF' := hF.le aYB_v
    obtain ⟨hwN, hDN, hpN, -, -⟩ := ok N hF'
    refine e191_16 (useC (upC (c171 (d := d) (b := 0) hwN hb hDN hpN (show l ≤ 7 by omega) hf (by omega)) (by omega)) fun vs N2 h => ?_)
    obtain ⟨rfl, hF2⟩ := h
    exact e191_25 (P _ _ _ 4 0 N2 (by omega) (hF'.tr (hF2.le aYB_v)) fun m hm => absurd hm (Nat.not_lt_zero m))
  refine ⟨fun q => go_in (e191_12 (main 0 ?_)), fun q => main 1 ?_⟩
  · have : b ≠ 1 := fun z => q (by rw [z])
    omega
  · rw [iz_n, iz_n, iz_eq ⟨by omega, by omega⟩ ⟨by omega, by omega⟩] at q
    omega
end JR
