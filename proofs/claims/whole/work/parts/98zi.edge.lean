/-! The class's edge. -/
theorem aRow_cl {f : Nat} : ∀ k j, aRow f k j = true → aCl k j = true := fun k j h => by
  unfold aRow at h
  simp only [Bool.or_eq_true, Bool.and_eq_true, Nat.beq_eq] at h
  exact aCl_t.mpr (by omega)
section ED
variable {d : Nat} {M : Mm} {w : Nat → Nat} {ta : Nat → Nat → Nat → Nat}
theorem FO_co (hb : WB w) {f c : Nat} (hf : f < w 8) {N : Mm} (h1 : ∀ l n, l ≤ w 0 → n < 4 → N.1 41992 ((f * 8 + l) * 4 + n) = iz (foW w (w 10) (fun _ => c) f l n)) (h2 : ∀ g l n, g < w 8 → g ≠ f → l ≤ w 0 → n < 4 → N.1 41992 ((g * 8 + l) * 4 + n) = iz (foW w (w 10) (cstW w) g l n)) : FO (YG (wC w f c) (f : Int)) 41992 (foW (wC w f c) ((wC w f c) 10) (cstW (wC w f c))) N := fun g l n hg hl hn => by
  have w8 := (wb_w hb).2.1
  have hg : g < w 8 := by have : wC w f c 8 = w 8 := wC_v (by omega); have hg' : g < wC w f c 8 := hg; omega
  have hl : l ≤ w 0 := by have : wC w f c 0 = w 0 := wC_v (by omega); have hl' : l ≤ wC w f c 0 := hl; omega
  rw [wC_v (i := 10) (by omega), foW_co (by omega) hn]
  by_cases e : g = f
  · rw [if_pos e, e]; exact h1 l n hl hn
  · rw [if_neg e]; exact h2 g l n hg e hl hn
theorem c104 (hT : TR 512 w ta M) (hb : WB w) {f l : Nat} (hf : f < w 8) (hl : l ≤ w 0) : SC (d + 9) 104 [.ref 704, .int (nI f), .int (nI l)] M (fun vs N => vs = [.int (iz (eC (edP w ta f l) (cstW w f) 18 2))] ∧ Fr aCl M N) := by
  obtain ⟨w0, w8, w9⟩ := wb_w hb
  have w10 : w 10 < w 9 := hb.2.2.2.1.2.2.1
  have hcf : cstW w f ≤ 9 := (hb.2.2.2.2.2.1 f hf).2.1
  refine sC (by decide) rfl (go_in (e104_0 (Or.inl ?_)))
  rw [iz_n f]
  refine useC (upC (c117 (d := d) hT hb ⟨by omega, by omega⟩ ⟨by omega, by omega⟩) (by omega)) fun vs N h => ?_
  obtain ⟨rfl, h⟩ := h
  have h := h.symm
  subst h
  refine e104_5 (Or.inl ?_)
  rw [iz_n l]
  refine useC (upC (c118 (d := d) hT hb ⟨by omega, by omega⟩ ⟨by omega, by omega⟩) (by omega)) fun vs N h => ?_
  obtain ⟨rfl, h⟩ := h
  have h := h.symm
  subst h
  rw [iz_nn, iz_nn]
  refine e104_10 (useC (upC (c61 (d := d) hT hb) (by omega)) fun vs N1 h => ?_)
  obtain ⟨rfl, hF1, hY1⟩ := h
  have hr := rBy_at (w := w) (f := f)
  have hT1 := hT.of hF1 (yr_told (Or.inl rfl))
  have hco : N1.1 33799 f = nI (cstW w f) := (hT1.2.2.2.1 f hf).1
  refine e104_21 ⟨nI_in2 (by omega) (by decide), ?_⟩
  rw [nI_c (by omega), hco]
  refine useC (upC (c6 (d := d) (ta := ta) hb hf hl (by rw [YG_at]; exact hY1.1) (by rw [YG_at]; exact hY1.2.1) (by rw [YG_at]; exact hY1.2.2.2)) (by omega)) fun vs N2 h => ?_
  obtain ⟨rfl, hF2, hF2'⟩ := h
  refine e104_40 ?_
  have hF12 := (hF1.up aYr_cl).tr hF2
  have loop : ∀ k t N (o6 : Option Value), t + k = 20 → 2 ≤ t → Fr aCl M N → YR (yW w (w 10)) (kW w) N → WA (yW w (w 10)) (waW w ta) N → (∀ g l n, g < w 8 → g ≠ f → l ≤ w 0 → n < 4 → N.1 41992 ((g * 8 + l) * 4 + n) = iz (foW w (w 10) (cstW w) g l n)) → WM (d + 8) 104 (fun vs N => vs = [.int (iz (eC (edP w ta f l) (cstW w f) k t))] ∧ Fr aCl M N) 45 [some (.ref 704), some (.int (nI f)), some (.int (nI l)), some (.int (nI (cstW w f))), some (.int (nI (AG w ta (f : Int) l))), some (.int (nI t)), o6] [] N := by
    intro k
    induction k with
    | zero =>
      intro t N o6 ht _ hF _ _ _
      have ht : t = 20 := by omega
      subst ht
      exact go_in (e104_45 (br_t (nI_le (Nat.le_refl _) (by decide)) (go_in (e104_132 ⟨rfl, by rw [nI_neg1]; rfl, hF⟩))))
    | succ k ih =>
      intro t N o6 ht h2 hF hy hwa hfo
      obtain ⟨hh, hm⟩ := half20 t (by omega)
      have hst : eC (edP w ta f l) (cstW w f) (k + 1) t = if (0 ≤ (if t % 2 = 0 then (cstW w f : Int) - (t / 2 : Nat) else (cstW w f : Int) + (t / 2 : Nat)) ∧ (if t % 2 = 0 then (cstW w f : Int) - (t / 2 : Nat) else (cstW w f : Int) + (t / 2 : Nat)) < 10) ∧ edP w ta f l (if t % 2 = 0 then (cstW w f : Int) - (t / 2 : Nat) else (cstW w f : Int) + (t / 2 : Nat)).toNat = true then (if t % 2 = 0 then (cstW w f : Int) - (t / 2 : Nat) else (cstW w f : Int) + (t / 2 : Nat)) else eC (edP w ta f l) (cstW w f) k (t + 1) := rfl
      have body : ∀ z : Int, z = (if t % 2 = 0 then (cstW w f : Int) - (t / 2 : Nat) else (cstW w f : Int) + (t / 2 : Nat)) → ∀ o6 : Option Value, WM (d + 8) 104 (fun vs N => vs = [.int (iz (eC (edP w ta f l) (cstW w f) (k + 1) t))] ∧ Fr aCl M N) 74 [some (.ref 704), some (.int (nI f)), some (.int (nI l)), some (.int (nI (cstW w f))), some (.int (nI (AG w ta (f : Int) l))), some (.int (nI t)), o6] [.int (iz z)] N := by
        intro z hz o6
        rw [← hz] at hst
        have hz1 : -20 ≤ z ∧ z ≤ 20 := by rw [hz]; split <;> omega
        have skip : ∀ (o6 : Option Value) N, Fr aCl M N → YR (yW w (w 10)) (kW w) N → WA (yW w (w 10)) (waW w ta) N → (∀ g l n, g < w 8 → g ≠ f → l ≤ w 0 → n < 4 → N.1 41992 ((g * 8 + l) * 4 + n) = iz (foW w (w 10) (cstW w) g l n)) → eC (edP w ta f l) (cstW w f) (k + 1) t = eC (edP w ta f l) (cstW w f) k (t + 1) → WM (d + 8) 104 (fun vs N => vs = [.int (iz (eC (edP w ta f l) (cstW w f) (k + 1) t))] ∧ Fr aCl M N) 126 [some (.ref 704), some (.int (nI f)), some (.int (nI l)), some (.int (nI (cstW w f))), some (.int (nI (AG w ta (f : Int) l))), some (.int (nI t)), o6] [] N := by
          intro o6 N hF hy hwa hfo he
          refine go_in (e104_126 ?_)
          rw [nI_s, he]
          exact ih (t + 1) N _ (by omega) (by omega) hF hy hwa hfo
        refine go_in (e104_74 ⟨fun q => ?_, fun q => ⟨fun q2 => ?_, fun q2 => ?_⟩⟩)
        · rw [iz_lt0 ⟨by omega, by omega⟩] at q
          exact skip _ N hF hy hwa hfo (by rw [hst, if_neg (fun e => by omega)])
        · rw [iz_n 10, iz_le ⟨by omega, by omega⟩ ⟨by omega, by omega⟩] at q2
          exact skip _ N hF hy hwa hfo (by rw [hst, if_neg (fun e => by omega)])
        · rw [iz_lt0 ⟨by omega, by omega⟩] at q
          rw [iz_n 10, iz_le ⟨by omega, by omega⟩ ⟨by omega, by omega⟩] at q2
          obtain ⟨c, rfl⟩ : ∃ c : Nat, z = c := ⟨z.toNat, by omega⟩
          have hTN := hT.of hF (fun k j h => cl_512 h)
          have hc9 : c ≤ 9 := by omega
          rw [hTN.1.2.1.2.2, iz_nn]
          refine useC (upC (c66 (d := d) hTN hb hy.1.1 w10 hf hc9) (by omega)) fun vs N3 h => ?_
          obtain ⟨rfl, hF3, hrow⟩ := h
          have hF3' := hF.tr (hF3.up aRow_cl)
          have hy3 := hy.of hF3 (fun j _ => rfl) (fun j => rfl)
          have hwa3 := hwa.of hF3 (fun j => rfl)
          have hfo3 : ∀ g l n, g < w 8 → g ≠ f → l ≤ w 0 → n < 4 → N3.1 41992 ((g * 8 + l) * 4 + n) = iz (foW w (w 10) (cstW w) g l n) := fun g l n hg hgf hl hn => by
            rw [(hF3 41992 ((g * 8 + l) * 4 + n) (aRow_off (by omega))).1]
            exact hfo g l n hg hgf hl hn
          have hrc : YG (wC w f c) (f : Int) = yW w (w 10) := by
            show yW (wC w f c) (rBy (wC w f c) (f : Int)) = _
            rw [rBy_at, yW_co (by omega), wC_v (i := 10) (by omega)]
          have w8c : wC w f c 8 = w 8 := wC_v (by omega)
          have w0c : wC w f c 0 = w 0 := wC_v (by omega)
          refine e104_109 (useC (upC (c6 (d := d) (ta := ta) (hb.co hf hc9) (f := f) (l := l) (by rw [w8c]; exact hf) (by rw [w0c]; exact hl) (by rw [hrc, kW_co]; exact hy3) (FO_co hb hf (fun l n hl hn => (hrow l n hl hn).1) hfo3) (by rw [hrc, waW_co]; exact hwa3)) (by omega)) fun vs N4 h => ?_)
          obtain ⟨rfl, hF4, hF4'⟩ := h
          have hK := (ncd_bd hb (fm := (f : Int))).2.1
          have hKc := (ncd_bd (hb.co hf hc9) (fm := (f : Int))).2.1
          have ha1 := AG_lt (w := w) (ta := ta) (fm := (f : Int)) hb l
          have ha2 := AG_lt (w := wC w f c) (ta := ta) (fm := (f : Int)) (hb.co hf hc9) l
          have heq : nI (AG (wC w f c) ta (f : Int) l) = nI (AG w ta (f : Int) l) ↔ AG (wC w f c) ta (f : Int) l = AG w ta (f : Int) l := by
            rw [iz_n, iz_n, iz_eq (i32_n (by omega)) (i32_n (by omega))]
            omega
          refine e104_118 ⟨fun e => ?_, fun e => ?_⟩
          · rw [heq] at e
            refine skip _ N4 (hF3'.tr hF4) (hy3.of hF4' (by decide) (fun j => rfl)) (hwa3.of hF4' (fun j => rfl)) (fun g l n hg hgf hl hn => by rw [(hF4' 41992 _ rfl).1]; exact hfo3 g l n hg hgf hl hn) ?_
            rw [hst, if_neg (fun q => ?_)]
            have := of_decide_eq_true q.2
            rw [Int.toNat_natCast] at this
            exact this e
          · rw [heq] at e
            refine ⟨rfl, ?_, hF3'.tr hF4⟩
            have hp : edP w ta f l c = true := decide_eq_true e
            rw [hst, if_pos ⟨by omega, by rw [Int.toNat_natCast]; exact hp⟩, iz_nn]
      refine go_in (e104_45 (br_f (nI_ge (by omega) (by decide)) ⟨by decide, fun e => go_in (e104_68 ⟨by decide, ?_⟩), fun e => ⟨by decide, ?_⟩⟩))
      · have hne : ¬ t % 2 = 0 := fun q => e (hm.mpr q)
        have e1 : nI (cstW w f) + nI (t / 2) = iz ((cstW w f : Int) + (t / 2 : Nat)) := by rw [iz_n, iz_n, iz_add]
        rw [hh, e1]
        exact body _ (by rw [if_neg hne]) _
      · have e1 : nI (cstW w f) - nI (t / 2) = iz ((cstW w f : Int) - (t / 2 : Nat)) := by rw [iz_n, iz_n, iz_sub]
        rw [hh, e1]
        exact body _ (by rw [if_pos (hm.mp e)]) _
  have hy2 := hY1.1.of hF2' (by decide) (fun j => rfl)
  exact loop 18 2 N2 _ (by omega) (by omega) hF12 hy2 (hY1.2.2.2.of hF2' (fun j => rfl)) (fun g l n hg hgf hl hn => by rw [(hF2' 41992 _ rfl).1]; exact hY1.2.1 g l n hg hl hn)
end ED
