/-! The reference's rests: whether a code is at rest; what all bring. -/
theorem V1_own {v : Nat → Nat} {f : Nat} : V1 v f (v f) = v := by
  funext g
  unfold V1
  split
  · rename_i h; rw [h]
  · rfl
theorem vBy_all' {w : Nat → Nat} {ta : Nat → Nat → Nat → Nat} {l k : Nat} : vBy w ta (-1) l k = wnr (w 8) k := vBy_all
/-- by the reference, what all bring -/
def pqS (w : Nat → Nat) (v : Nat → Nat) (a l : Nat) : Nat → Int
  | 0 => 0
  | f + 1 => pqS w v a l f + ((brg w f (gt v a f) : Int) - ((gt v a f : Nat) : Int) * (cstW w f : Int) * ((w 0 : Int) - (l : Int)))
theorem plS_pq (w : Nat → Nat) (v : Nat → Nat) (a l : Nat) : ∀ n, plS w v a l n = 4 * pqS w v a l n
  | 0 => rfl
  | n + 1 => by
    unfold plS pqS plW
    rw [plS_pq w v a l n]
    omega
def rqV (w : Nat → Nat) (rr : Nat) : Nat → Nat → Int
  | 0 => fun _ => 0
  | n + 1 => fun l => pqS w (wnr (w 8) (rsK w rr (rsV w rr n) n l)) (l - w (32 + 5 * rr + 1)) l (w 8) * DW w ^ n + (w 6 : Int) * aws (yW w rr) (rqV w rr n) (lowS (yW w rr) (kW w) (wnr (w 8) (rsK w rr (rsV w rr n) n l)) l) 4
theorem rsV_rq (w : Nat → Nat) (rr : Nat) : ∀ n l, rsV w rr n 3 l = 4 * rqV w rr n l
  | 0, l => rfl
  | n + 1, l => by
    have h := rsV_rq w rr n
    have e1 : rsV w rr (n + 1) 3 l = rsv w rr (rsV w rr n) n l 3 (wnr (w 8) (rsK w rr (rsV w rr n) n l)) := rfl
    have e2 : rqV w rr (n + 1) l = pqS w (wnr (w 8) (rsK w rr (rsV w rr n) n l)) (l - w (32 + 5 * rr + 1)) l (w 8) * DW w ^ n + (w 6 : Int) * aws (yW w rr) (rqV w rr n) (lowS (yW w rr) (kW w) (wnr (w 8) (rsK w rr (rsV w rr n) n l)) l) 4 := rfl
    rw [e1, e2]
    unfold rsv
    rw [if_neg (by decide), plS_pq]
    have e3 : aws (yW w rr) (rsV w rr n 3) (lowS (yW w rr) (kW w) (wnr (w 8) (rsK w rr (rsV w rr n) n l)) l) 4 = 4 * aws (yW w rr) (rqV w rr n) (lowS (yW w rr) (kW w) (wnr (w 8) (rsK w rr (rsV w rr n) n l)) l) 4 := by
      have h4 := aws_lin (yW w rr) 4 0 (rqV w rr n) (rqV w rr n) (lowS (yW w rr) (kW w) (wnr (w 8) (rsK w rr (rsV w rr n) n l)) l) 4
      rw [Int.zero_mul, Int.add_zero] at h4
      rw [← h4]
      exact aws_congr (fun j _ => by rw [h j]; omega) 4
    rw [e3]
    grind
theorem bst_4 (g : Nat → Int) : ∀ n, bst (fun r => 4 * g r) n = bst g n
  | 0 => rfl
  | n + 1 => by
    rw [bst_s, bst_s, bst_4 g n]
    by_cases h : g (bst g n) < g n
    · rw [if_pos h, if_pos (show 4 * g (bst g n) < 4 * g n by omega)]
    · rw [if_neg h, if_neg (show ¬ 4 * g (bst g n) < 4 * g n by omega)]
def RFE (w : Nat → Nat) (rr n : Nat) (M : Mm) : Prop := ∀ f i, f < w 8 → i ≤ w 0 → M.2.1 50209 (8 * f + i) = lz (rsV w rr n f i)
theorem RFE.of {w : Nat → Nat} {rr n : Nat} {P : Nat → Nat → Bool} {M N : Mm} (h : RFE w rr n M) (hF : Fr P M N) (h0 : ∀ j, P 50209 j = false) : RFE w rr n N := fun f i hf hi => by rw [(hF _ _ (h0 _)).2.1]; exact h f i hf hi
theorem aWant_yb : ∀ k j, aWant k j = true → aYB k j = true := fun k j h => by unfold aYB; rw [h]; rfl
theorem aYearR_yb : ∀ k j, aYearR k j = true → aYB k j = true := fun k j h => by unfold aYB; rw [h]; exact Bool.or_true _
section R5
variable {d : Nat} {M : Mm} {w : Nat → Nat} {ta : Nat → Nat → Nat → Nat} {rr : Nat}
theorem rs_val (hb : WB w) (hr : rr < w 9) {l f n : Nat} (hl : l ≤ w 0) (hf : f < w 8) {v : Nat → Nat} {R : Nat → Nat → Int} : gnW w rr v l f * DW w ^ n + aws (yW w rr) (R f) (lowS (yW w rr) (kW w) v l) 4 * (w 6 : Int) = rsv w rr R n l f v := by
  unfold rsv
  rw [if_pos (show f < 3 by have := (wb_w hb).2.1; omega), Int.mul_comm (w 6 : Int)]
  rfl
theorem c205 (hw : MR w M) (hb : WB w) (hD : DRel w ta M) (hp : NP M) (hr : rr < w 9) {l k n : Nat} (hl : l ≤ w 0) (hk : k < 4 ^ w 8) (hn : n < 8) (hR : RFE w rr n M) : SC (d + 8) 205 [.ref 768, .int (nI l), .int (nI k), .int (nI rr), .long (lz (DW w ^ n))] M (fun vs N => vs = [.int (nI (cond (rsP w rr (rsV w rr n) n l k) 1 0))] ∧ Fr aYB M N) := by
  obtain ⟨w0, w8, w9⟩ := wb_w hb
  have hK := (ncd_bd hb (fm := -1)).2.1
  rw [ncd_all] at hK
  refine sC (by decide) rfl (go_in (e205_0 ?_))
  have loop : ∀ m f N (o7 o8 o9 o10 : Option Value), f + m = w 8 → Fr aYB M N → (∀ g, g < f → anB (rsD w rr (rsV w rr n) n l k g) 4 = false) → WM (d + 7) 205 (fun vs N => vs = [.int (nI (cond (rsP w rr (rsV w rr n) n l k) 1 0))] ∧ Fr aYB M N) 3 [some (.ref 768), some (.int (nI l)), some (.int (nI k)), some (.int (nI rr)), some (.long (lz (DW w ^ n))), none, some (.int (nI f)), o7, o8, o9, o10] [] N := by
    intro m
    induction m with
    | zero =>
      intro f N o7 o8 o9 o10 hf hF hDv
      have hf : f = w 8 := by omega
      subst hf
      refine go_in (e205_3 (useC (upC (c135 (d := d) (hw.of hF (fun j _ => rfl))) (by omega)) fun vs N2 h => ?_))
      obtain ⟨rfl, rfl⟩ := h
      refine e205_9 (br_t (nI_le (Nat.le_refl _) (by omega)) (go_in (e205_155 ⟨Or.inr rfl, rfl, ?_, hF⟩)))
      unfold rsP
      rw [anB_f (k := w 8) hDv]
      rfl
    | succ m ih =>
      intro f N o7 o8 o9 o10 hf hF hDv
      have hf8 : f < w 8 := by omega
      have hw' := hw.of hF (fun j _ => rfl)
      refine go_in (e205_3 (useC (upC (c135 (d := d) hw') (by omega)) fun vs N2 h => ?_))
      obtain ⟨rfl, rfl⟩ := h
      refine e205_9 (br_f (nI_ge (by omega) (by omega)) ?_)
      rw [nI_neg1]
      refine useC (upC (c194 (d := d) hw' hb (hD.of hF (fun j => rfl)) (hp.of hF rfl rfl) (fm := -1) (by omega) (by omega) (l := l) (c := k) (by omega) (by omega)) (by omega)) fun vs N3 h => ?_
      obtain ⟨rfl, hF3, hWR⟩ := h
      have hF3' := hF.tr (hF3.up aWant_yb)
      rw [vBy_all] at hWR
      refine e205_19 ⟨nI_in2 (by omega) (by decide), ?_⟩
      rw [nI_c (by omega), hWR f hf8]
      refine useC (upC (c173 (d := d) (hw.of hF3' (fun j _ => rfl)) hb hWR (fun f => wnr_3) (l := l) (by omega) hr) (by omega)) fun vs N4 h => ?_
      obtain ⟨rfl, hF4, hY⟩ := h
      have hF4' := hF3'.tr (hF4.up aYearR_yb)
      refine e205_34 ⟨nI_in2 (by omega) (by decide), ?_⟩
      rw [nI_c (by omega), hY.2.1 f hf8, hY.2.2.2.1, nI_mul]
      refine useC (upC (c187 (d := d) (q := rr) (hw.of hF4' (fun j _ => rfl)) hb (x := 50209) (off := 8 * f) (low := lowS (yW w rr) (kW w) (wnr (w 8) k) l) (R := rsV w rr n f) rfl rfl (show 8 * f + w 0 < 24 by omega) (by decide) (fun i hi => hR.of hF4' (fun j => rfl) f i hf8 hi) (Nat.le_trans lowS_le (by omega))) (by omega)) fun vs N5 h => ?_
      obtain ⟨rfl, rfl⟩ := h
      have hgb := gnW_bd (v := wnr (w 8) k) hb hr hf8 (show l ≤ 7 by omega) (fun f => wnr_3)
      refine e205_62 ?_
      rw [iz_l (bd_i32 (bd_le hgb (by decide))), lz_mul, lz_add, rs_val hb hr hl hf8]
      have i2 := rsv_64 hb hr (n := n) (l := l) (row := f) (v := wnr (w 8) k) (fun g => wnr_3) hl (Or.inl hf8) hn
      have inner : ∀ m' c N, c + m' = 4 → Fr aYB M N → (∀ c', c' < c → rsD w rr (rsV w rr n) n l k f c' = false) → WM (d + 7) 205 (fun vs N => vs = [.int (nI (cond (rsP w rr (rsV w rr n) n l k) 1 0))] ∧ Fr aYB M N) 68 [some (.ref 768), some (.int (nI l)), some (.int (nI k)), some (.int (nI rr)), some (.long (lz (DW w ^ n))), none, some (.int (nI f)), some (.int (nI (wnr (w 8) k f))), some (.long (lz (rsv w rr (rsV w rr n) n l f (wnr (w 8) k)))), none, some (.int (nI c))] [] N := by
        intro m'
        induction m' with
        | zero =>
          intro c N hc hF hE
          have hc : c = 4 := by omega
          subst hc
          refine go_in (e205_68 (br_t (nI_le (Nat.le_refl _) (by decide)) (go_in (e205_149 ?_))))
          rw [nI_s]
          exact ih (f + 1) N _ _ _ _ (by omega) hF fun g hg => by
            by_cases e : g = f
            · rw [e]; exact anB_f hE
            · exact hDv g (by omega)
        | succ m' ih2 =>
          intro c N hc hF hE
          have hw3 : wnr (w 8) k f ≤ 3 := wnr_3
          have hce : nI c = nI (wnr (w 8) k f) ↔ c = wnr (w 8) k f := by
            rw [iz_n, iz_n, iz_eq (i32_n (by omega)) (i32_n (by omega))]
            omega
          have next : ∀ N, Fr aYB M N → rsD w rr (rsV w rr n) n l k f c = false → WM (d + 7) 205 (fun vs N => vs = [.int (nI (cond (rsP w rr (rsV w rr n) n l k) 1 0))] ∧ Fr aYB M N) 143 [some (.ref 768), some (.int (nI l)), some (.int (nI k)), some (.int (nI rr)), some (.long (lz (DW w ^ n))), none, some (.int (nI f)), some (.int (nI (wnr (w 8) k f))), some (.long (lz (rsv w rr (rsV w rr n) n l f (wnr (w 8) k)))), none, some (.int (nI c))] [] N := by
            intro N hF hd
            refine go_in (e205_143 ?_)
            rw [nI_s]
            exact ih2 (c + 1) N (by omega) hF fun c' hc' => by
              by_cases e2 : c' = c
              · rw [e2]; exact hd
              · exact hE c' (by omega)
          refine go_in (e205_68 (br_f (nI_ge (by omega) (by decide)) ?_))
          rw [hce]
          refine ⟨fun e => go_in (e205_84 ?_), fun e => next N hF ?_⟩
          · rw [nI_neg1]
            refine useC (upC (c194 (d := d) (hw.of hF (fun j _ => rfl)) hb (hD.of hF (fun j => rfl)) (hp.of hF rfl rfl) (fm := -1) (by omega) (by omega) (l := l) (c := k) (by omega) (by omega)) (by omega)) fun vs N3 h => ?_
            obtain ⟨rfl, hF3, hWR⟩ := h
            have hF3' := hF.tr (hF3.up aWant_yb)
            rw [vBy_all] at hWR
            refine e205_91 ⟨nI_in2 (by omega) (by decide), ?_⟩
            rw [nI_c (by omega)]
            have hF4 : Fr aYB M (sI N3 50192 f (nI c)) := hF3'.sI rfl
            have hWR4 : WR w (V1 (wnr (w 8) k) f c) (sI N3 50192 f (nI c)) := fun g hg => by
              rw [sI_v]
              unfold V1
              by_cases e : g = f
              · rw [if_pos ⟨rfl, e⟩, if_pos e]
              · rw [if_neg (fun q => e q.2), if_neg e]; exact hWR g hg
            have hv3 := V1_le (v := wnr (w 8) k) (f := f) (n := c) (fun g => wnr_3) (by omega)
            refine useC (upC (c173 (d := d) (hw.of hF4 (fun j _ => rfl)) hb hWR4 hv3 (l := l) (by omega) hr) (by omega)) fun vs N5 h => ?_
            obtain ⟨rfl, hF5, hY⟩ := h
            have hF5' := hF4.tr (hF5.up aYearR_yb)
            refine e205_106 ⟨nI_in2 (by omega) (by decide), ?_⟩
            rw [nI_c (by omega), hY.2.1 f hf8, hY.2.2.2.1, nI_mul]
            refine useC (upC (c187 (d := d) (q := rr) (hw.of hF5' (fun j _ => rfl)) hb (x := 50209) (off := 8 * f) (low := lowS (yW w rr) (kW w) (V1 (wnr (w 8) k) f c) l) (R := rsV w rr n f) rfl rfl (show 8 * f + w 0 < 24 by omega) (by decide) (fun i hi => hR.of hF5' (fun j => rfl) f i hf8 hi) (Nat.le_trans lowS_le (by omega))) (by omega)) fun vs N6 h => ?_
            obtain ⟨rfl, rfl⟩ := h
            have hgb := gnW_bd (v := V1 (wnr (w 8) k) f c) hb hr hf8 (show l ≤ 7 by omega) hv3
            have i1 := rsv_64 hb hr (n := n) (l := l) (row := f) (v := V1 (wnr (w 8) k) f c) hv3 hl (Or.inl hf8) hn
            refine e205_134 ?_
            rw [iz_l (bd_i32 (bd_le hgb (by decide))), lz_mul, lz_add, rs_val hb hr hl hf8, cmp_gtI i1 i2]
            refine ⟨fun e => next _ hF5' (decide_eq_false (by omega)), fun e => ⟨Or.inl rfl, rfl, ?_, hF5'⟩⟩
            have hd : rsD w rr (rsV w rr n) n l k f c = true := decide_eq_true (by omega)
            have ha : anB (rsD w rr (rsV w rr n) n l k f) 4 = true := anB_t hd (by omega)
            have hp : rsP w rr (rsV w rr n) n l k = false := by
              unfold rsP
              rw [anB_t (p := fun f => anB (rsD w rr (rsV w rr n) n l k f) 4) (m := f) ha hf8]
              rfl
            rw [hp]
            rfl
          · unfold rsD
            rw [e, V1_own]
            exact decide_eq_false (Int.lt_irrefl _)
      exact inner 4 0 _ (by omega) hF4' fun c' h => absurd h (Nat.not_lt_zero _)
  exact loop (w 8) 0 M _ _ _ _ (by omega) Fr.rf fun g h => absurd h (Nat.not_lt_zero _)
theorem c206 (hw : MR w M) (hb : WB w) {l a : Nat} (hl : l ≤ w 0) {v : Nat → Nat} (hv : ∀ f, v f ≤ 3) (hg : ∀ f, f < w 8 → M.1 50193 f = nI (gt v a f)) : SC (d + 2) 206 [.ref 768, .int (nI l)] M (fun vs N => vs = [.int (iz (pqS w v a l (w 8)))] ∧ N = M) := by
  obtain ⟨w0, w8, w9⟩ := wb_w hb
  refine sC (by decide) rfl (go_in (e206_0 ?_))
  have loop : ∀ m f (o4 : Option Value), f + m = w 8 → WM (d + 1) 206 (fun vs N => vs = [.int (iz (pqS w v a l (w 8)))] ∧ N = M) 4 [some (.ref 768), some (.int (nI l)), some (.int (iz (pqS w v a l f))), some (.int (nI f)), o4] [] M := by
    intro m
    induction m with
    | zero =>
      intro f o4 hf
      have hf : f = w 8 := by omega
      subst hf
      refine go_in (e206_4 (useC (upC (c135 (d := d) hw) (by omega)) fun vs N2 h => ?_))
      obtain ⟨rfl, h⟩ := h
      have h := h.symm
      subst h
      exact e206_9 (br_t (nI_le (Nat.le_refl _) (by omega)) (go_in (e206_82 ⟨rfl, rfl, rfl⟩)))
    | succ m ih =>
      intro f o4 hf
      have hf8 : f < w 8 := by omega
      refine go_in (e206_4 (useC (upC (c135 (d := d) hw) (by omega)) fun vs N2 h => ?_))
      obtain ⟨rfl, h⟩ := h
      have h := h.symm
      subst h
      refine e206_9 (br_f (nI_ge (by omega) (by omega)) ⟨nI_in2 (by omega) (by decide), ?_⟩)
      have hg3 : gt v a f ≤ 3 := Nat.le_trans gt_le (hv f)
      have tail : ∀ (o2 : Option Value), WM (d + 1) 206 (fun vs N => vs = [.int (iz (pqS w v a l (w 8)))] ∧ N = M) 50 [some (.ref 768), some (.int (nI l)), o2, some (.int (nI f)), some (.int (nI (17 + 5 * f)))] [.int (nI (brg w f (gt v a f))), .int (iz (pqS w v a l f))] M := by
        intro o2
        refine go_in (e206_50 ⟨nI_in2 (by omega) (by decide), ?_⟩)
        rw [nI_add, nI_c (by omega), nI_c (by omega)]
        refine ⟨nI_in2 (by omega) (by decide), useC (upC (c134 (d := d) hw) (by omega)) fun vs N2 h => ?_⟩
        obtain ⟨rfl, h⟩ := h
        have h := h.symm
        subst h
        refine e206_70 ?_
        have hco : M.1 50177 (17 + 5 * f + 3) = nI (cstW w f) := by
          rw [show 17 + 5 * f + 3 = 20 + 5 * f by omega]
          exact hw.n (by omega) (shf_no (by omega))
        have e : iz (pqS w v a l f) + (nI (brg w f (gt v a f)) - nI (gt v a f) * nI (cstW w f) * (nI (w 0) - nI l)) = iz (pqS w v a l (f + 1)) := by
          rw [iz_n, iz_n, iz_n, iz_n, iz_n, iz_sub, iz_mul, iz_mul, iz_sub, iz_add]
          rfl
        rw [hg f hf8, hco, e, nI_s]
        exact ih (f + 1) _ (by omega)
      rw [nI_c (by omega), hg f hf8, nI_mul, nI_add]
      refine ⟨fun e => go_in (e206_34 ⟨nI_in2 (by omega) (by decide), ?_⟩), fun e => ?_⟩
      · have hg0 : gt v a f ≠ 0 := fun q => e (by rw [q]; rfl)
        have hb1 : brg w f (gt v a f) = w (16 + 5 * f + gt v a f) := if_neg hg0
        have hwv : M.1 50177 (16 + 5 * f + gt v a f) = nI (w (16 + 5 * f + gt v a f)) := hw.n (by omega) (shf_no (by omega))
        rw [nI_c (by omega), hg f hf8, nI_add, nI_sub (by omega), nI_c (by omega), show 17 + 5 * f + gt v a f - 1 = 16 + 5 * f + gt v a f by omega, hwv, ← hb1]
        exact ⟨nI_in2 (by omega) (by decide), tail _⟩
      · have hg0 : gt v a f = 0 := by
          rw [zero_nI, iz_n, iz_n, iz_eq (i32_n (by omega)) (i32_n (by omega))] at e
          omega
        have t := tail (some (.int (iz (pqS w v a l f))))
        rw [show brg w f (gt v a f) = 0 by rw [hg0]; rfl] at t
        exact t
  exact loop (w 8) 0 _ (by omega)
end R5
