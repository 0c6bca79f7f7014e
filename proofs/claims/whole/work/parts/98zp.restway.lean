/-! The class's rests: a way's values; whether it is at rest. -/
def RLA (w : Nat → Nat) (rr : Nat) (R : Nat → Nat → Int) (M : Mm) : Prop := ∀ row i, rwI w row → i ≤ w 0 → M.2.1 17410 (row * 8 + i) = lz ((w 6 : Int) * aws (yW w rr) (R row) i 4)
def RVA (w : Nat → Nat) (rr : Nat) (R : Nat → Nat → Int) (n l k : Nat) (M : Mm) : Prop := ∀ row, rwI w row → M.2.1 17411 (row * 64 + k) = lz (rsv w rr R n l row (wnr (w 8) k))
def aVl (q k j : Nat) : Bool := Nat.beq k 17411 && Nat.beq (j % 64) q
theorem aVl_f {q j : Nat} (h : j % 64 ≠ q) : aVl q 17411 j = false := by
  unfold aVl
  rw [beq_ne h]
  rfl
theorem aVl_t {q j : Nat} (h : j % 64 = q) : aVl q 17411 j = true := by
  unfold aVl
  rw [h, Nat.beq_refl, Nat.beq_refl]
  rfl
section C3
variable {d : Nat} {M : Mm} {w : Nat → Nat} {rr : Nat}
theorem c39 (hb : WB w) (hr : rr < w 9) (hy : YR (yW w rr) (kW w) M) (hfo : FO (yW w rr) 41992 (foW w rr (cstW w)) M) (hpl : FO (yW w rr) 41993 (plW w (cstW w)) M) {l k n : Nat} (hl : l ≤ w 0) (hk : k < 64) (hP : PU (yW w rr) (kW w) (wnr (w 8) k) l M) (hs : M.2.1 256 4 = lz (DW w ^ n)) {R : Nat → Nat → Int} (hR : RLA w rr R M) : SC (d + 2) 39 [.ref 256, .int (nI l), .int (nI k)] M (fun vs N => vs = [] ∧ Fr (aVl k) M N ∧ RVA w rr R n l k N) := by
  obtain ⟨w0, w8, w9⟩ := wb_w hb
  have hyB := yB_of hb hr
  refine sC (by decide) rfl (go_in (e39_0 ?_))
  have hlow : lowS (yW w rr) (kW w) (wnr (w 8) k) l ≤ w 0 := Nat.le_trans lowS_le hl
  have loop : ∀ m f N (o4 : Option Value), f + m = w 8 → Fr (aVl k) M N → (∀ row, row < f → N.2.1 17411 (row * 64 + k) = lz (rsv w rr R n l row (wnr (w 8) k))) → WM (d + 1) 39 (fun vs N => vs = [] ∧ Fr (aVl k) M N ∧ RVA w rr R n l k N) 5 [some (.ref 256), some (.int (nI l)), some (.int (nI k)), some (.long (lz (plS w (wnr (w 8) k) (l - w (32 + 5 * rr + 1)) l f))), o4, some (.int (nI f))] [] N := by
    intro m
    induction m with
    | zero =>
      intro f N o4 hf hF hA
      have hf : f = w 8 := by omega
      subst hf
      refine go_in (e39_5 ?_)
      rw [(hF 640 2 rfl).1, hy.1.2.2.1]
      refine br_t (nI_le (Nat.le_refl _) (show w 8 < 2147483648 by omega)) (go_in (e39_84 ?_))
      rw [(hF 640 13 rfl).1, hP.2.1, nI_add, nI_add, nI_c (by omega), nI_c (by omega), (hF 256 4 rfl).2.1, hs, (hF 17410 _ rfl).2.1, show 24 + lowS (yW w rr) (kW w) (wnr (w 8) k) l = 3 * 8 + lowS (yW w rr) (kW w) (wnr (w 8) k) l from rfl, hR 3 _ (Or.inr rfl) hlow, lz_mul, lz_add]
      refine ⟨nI_in2 (by omega) (by decide), nI_in2 (by omega) (by decide), rfl, rfl, hF.sJ (aVl_t (by omega)), fun row hrow => ?_⟩
      have h4 := rwI_4 hb hrow
      rw [sJ_v]
      by_cases e : row = 3
      · subst e
        rw [if_pos ⟨rfl, by omega⟩]
        congr 1
      · rw [if_neg (fun q => e (by omega))]
        exact hA row (by rcases hrow with h | h <;> omega)
    | succ m ih =>
      intro f N o4 hf hF hA
      refine go_in (e39_5 ?_)
      rw [(hF 640 2 rfl).1, hy.1.2.2.1]
      have hf8 : f < w 8 := by omega
      have hgl : gt (wnr (w 8) k) (l - w (32 + 5 * rr + 1)) f ≤ 3 := Nat.le_trans gt_le wnr_3
      refine br_f (nI_ge (show f < w 8 from hf8) (show w 8 < 2147483648 by omega)) ?_
      have hg : N.1 41996 f = nI (gt (wnr (w 8) k) (l - w (32 + 5 * rr + 1)) f) := by rw [(hF 41996 f rfl).1]; exact hP.1 f hf8
      refine useC (upC (c70 (d := d) hyB (hfo.of hF (fun j => rfl)) (show f < w 8 from hf8) hl (show gt (wnr (w 8) k) (l - w (32 + 5 * rr + 1)) f < 4 by omega) hg) (by omega)) fun vs N2 h => ?_
      obtain ⟨rfl, rfl⟩ := h
      refine e39_38 ?_
      rw [(hF 640 13 rfl).1, hP.2.1, nI_mul, nI_mul, nI_add, nI_add, nI_c (by omega), nI_c (by omega), (hF 256 4 rfl).2.1, hs, (hF 17410 _ rfl).2.1, hR f _ (Or.inl hf8) hlow]
      have hfb := foW_bd hb hr hf8 (show l ≤ 7 by omega) hgl
      have hpb := plW_bd hb hf8 (show l ≤ 7 by omega) hgl
      rw [iz_l (bd_i32 (bd_le hfb (by decide))), lz_mul, lz_add]
      have hF2 : Fr (aVl k) M (sJ N2 17411 (f * 64 + k) (lz (foW w rr (cstW w) f l (gt (wnr (w 8) k) (l - w (32 + 5 * rr + 1)) f) * DW w ^ n + (w 6 : Int) * aws (yW w rr) (R f) (lowS (yW w rr) (kW w) (wnr (w 8) k) l) 4))) := hF.sJ (aVl_t (by omega))
      refine ⟨nI_in2 (by omega) (by decide), nI_in2 (by omega) (by decide), ?_⟩
      refine useC (upC (c71 (d := d) hyB (hpl.of hF2 (fun j => rfl)) (show f < w 8 from hf8) hl (show gt (wnr (w 8) k) (l - w (32 + 5 * rr + 1)) f < 4 by omega) hg) (by omega)) fun vs N3 h => ?_
      obtain ⟨rfl, h⟩ := h
      have h := h.symm
      subst h
      refine e39_75 ?_
      rw [iz_l (bd_i32 (bd_le hpb (by decide))), lz_add, nI_s]
      refine ih (f + 1) _ _ (by omega) hF2 fun row hrow => ?_
      rw [sJ_v]
      by_cases e : row = f
      · subst e
        rw [if_pos ⟨rfl, rfl⟩]
        unfold rsv
        rw [if_pos (show row < 3 by omega)]
      · rw [if_neg (fun q => e (by omega))]
        exact hA row (by omega)
  exact loop (w 8) 0 M _ (by omega) Fr.rf fun row h => absurd h (Nat.not_lt_zero _)
theorem c40 (hb : WB w) (hr : rr < w 9) (hy : YR (yW w rr) (kW w) M) {l k n : Nat} (hl : l ≤ w 0) (hk : k < 4 ^ w 8) (hn : n < 8) (hA : ∀ k, k < 4 ^ w 8 → RVA w rr (rsV w rr n) n l k M) : SC (d + 2) 40 [.ref 256, .int (nI k)] M (fun vs N => vs = [.int (nI (cond (rsP w rr (rsV w rr n) n l k) 1 0))] ∧ N = M) := by
  obtain ⟨w0, w8, w9⟩ := wb_w hb
  have hyB := yB_of hb hr
  have hk64 : k < 64 := by
    have := (ncd_bd hb (fm := -1)).2.1
    rw [ncd_all] at this
    omega
  refine sC (by decide) rfl (go_in (e40_0 ?_))
  have loop : ∀ m f (o3 o4 o5 : Option Value), f + m = w 8 → (∀ g, g < f → anB (rsD w rr (rsV w rr n) n l k g) 4 = false) → WM (d + 1) 40 (fun vs N => vs = [.int (nI (cond (rsP w rr (rsV w rr n) n l k) 1 0))] ∧ N = M) 2 [some (.ref 256), some (.int (nI k)), some (.int (nI f)), o3, o4, o5] [] M := by
    intro m
    induction m with
    | zero =>
      intro f o3 o4 o5 hf hD
      have hf : f = w 8 := by omega
      subst hf
      refine go_in (e40_2 ?_)
      rw [hy.1.2.2.1]
      refine br_t (nI_le (Nat.le_refl _) (show w 8 < 2147483648 by omega)) (go_in (e40_86 ⟨Or.inr rfl, rfl, ?_, rfl⟩))
      unfold rsP
      rw [anB_f (k := w 8) hD]
      rfl
    | succ m ih =>
      intro f o3 o4 o5 hf hD
      have hf8 : f < w 8 := by omega
      refine go_in (e40_2 ?_)
      rw [hy.1.2.2.1]
      refine br_f (nI_ge (show f < w 8 from hf8) (show w 8 < 2147483648 by omega)) (useC (upC (c77 (d := d) hy hyB (show f < yW w rr 2 from hf8)) (by omega)) fun vs N h => ?_)
      obtain ⟨rfl, h⟩ := h
      have h := h.symm
      subst h
      refine e40_21 ?_
      have inner : ∀ m' c (o5 : Option Value), c + m' = 4 → (∀ c', c' < c → rsD w rr (rsV w rr n) n l k f c' = false) → WM (d + 1) 40 (fun vs N => vs = [.int (nI (cond (rsP w rr (rsV w rr n) n l k) 1 0))] ∧ N = M) 25 [some (.ref 256), some (.int (nI k)), some (.int (nI f)), some (.int (nI (2 * (yW w rr 2 - 1 - f)))), some (.int (nI c)), o5] [] M := by
        intro m'
        induction m' with
        | zero =>
          intro c o5 hc hE
          have hc : c = 4 := by omega
          subst hc
          refine go_in (e40_25 (br_t (nI_le (Nat.le_refl _) (by decide)) (go_in (e40_80 ?_))))
          rw [nI_s]
          exact ih (f + 1) _ _ _ (by omega) fun g hg => by
            by_cases e : g = f
            · rw [e]; exact anB_f hE
            · exact hD g (by omega)
        | succ m' ih2 =>
          intro c o5 hc hE
          refine go_in (e40_25 (br_f (nI_ge (by omega) (by decide)) ?_))
          have hs : yW w rr 2 - 1 - f = w 8 - 1 - f := rfl
          rw [hs, in_oth0 (w 8 - 1 - f) (by omega) k hk64 c (by omega)]
          have ho : k - k / 4 ^ (w 8 - 1 - f) % 4 * 4 ^ (w 8 - 1 - f) + c * 4 ^ (w 8 - 1 - f) = oth (w 8) k f c := rfl
          obtain ⟨ho1, ho2⟩ := oth_dec (w 8) (by omega) k hk f hf8 c (by omega)
          have hK := (ncd_bd hb (fm := -1)).2.1
          rw [ncd_all] at hK
          have hcg : rsv w rr (rsV w rr n) n l f (wnr (w 8) (oth (w 8) k f c)) = rsv w rr (rsV w rr n) n l f (V1 (wnr (w 8) k) f c) := rsv_cong hf8 w8 fun g hg => by
            rw [ho2 g hg]
            rfl
          have i1 := rsv_64 hb hr (n := n) (l := l) (row := f) (v := V1 (wnr (w 8) k) f c) (V1_le (fun g => wnr_3) (by omega)) hl (Or.inl hf8) hn
          have i2 := rsv_64 hb hr (n := n) (l := l) (row := f) (v := wnr (w 8) k) (fun g => wnr_3) hl (Or.inl hf8) hn
          rw [ho, nI_mul, nI_add, nI_add, nI_c (by omega), nI_c (by omega), hA _ ho1 f (Or.inl hf8), hA _ hk f (Or.inl hf8), hcg, cmp_gtI i1 i2]
          refine ⟨nI_in2 (by omega) (by decide), nI_in2 (by omega) (by decide), fun e => go_in (e40_74 ?_), fun e => ⟨Or.inl rfl, rfl, ?_, rfl⟩⟩
          · rw [nI_s]
            exact ih2 (c + 1) _ (by omega) fun c' hc' => by
              by_cases e2 : c' = c
              · rw [e2]; exact decide_eq_false (by omega)
              · exact hE c' (by omega)
          · have hd : rsD w rr (rsV w rr n) n l k f c = true := decide_eq_true (by omega)
            have ha : anB (rsD w rr (rsV w rr n) n l k f) 4 = true := anB_t hd (by omega)
            have hp : rsP w rr (rsV w rr n) n l k = false := by
              unfold rsP
              rw [anB_t (p := fun f => anB (rsD w rr (rsV w rr n) n l k f) 4) (m := f) ha hf8]
              rfl
            rw [hp]
            rfl
      exact inner 4 0 _ (by omega) fun c' h => absurd h (Nat.not_lt_zero _)
  exact loop (w 8) 0 _ _ _ (by omega) fun g h => absurd h (Nat.not_lt_zero _)
end C3
