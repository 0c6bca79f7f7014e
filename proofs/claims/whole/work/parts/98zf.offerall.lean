/-! The class's choice: what is offered to the owner of all. -/
theorem vBy_all {w : Nat → Nat} {ta : Nat → Nat → Nat → Nat} {l k : Nat} : vBy w ta (-1) l k = wnr (w 8) k := by
  funext f
  exact if_pos (by decide)
theorem rBy_all {w : Nat → Nat} : rBy w (-1) = 0 := if_pos (by decide)
theorem ncd_all {w : Nat → Nat} : ncd w (-1) = 4 ^ w 8 := if_pos (by decide)
section OA
variable {d : Nat} {M : Mm} {w : Nat → Nat} {ta : Nat → Nat → Nat → Nat}
theorem rG_all {l k : Nat} : rG w ta (-1) l k = gaW w 0 (wnr (w 8) k) l (w 8) := by
  unfold rG gBy
  rw [if_pos (by decide), vBy_all, rBy_all]
theorem lG_all {l k : Nat} (h : l ≤ 7) : lG w ta (-1) l k = lowS (yW w 0) (kW w) (wnr (w 8) k) l := by
  rw [lG_at h, vBy_all, rBy_all]
theorem wnr_3 {F k f : Nat} : wnr F k f ≤ 3 := by
  have : wnr F k f < 4 := Nat.mod_lt _ (by decide)
  omega
theorem c8 (hb : WB w) (hy : YR (yW w 0) (kW w) M) (hfo : FO (yW w 0) 41992 (foW w 0 (cstW w)) M) : SC (d + 4) 8 [.ref 64] M (fun vs N => vs = [] ∧ Fr aOf M N ∧ OFR (YG w (-1)) (ncd w (-1)) (rG w ta (-1)) (lG w ta (-1)) N) := by
  obtain ⟨w0, w8, w9⟩ := wb_w hb
  have w9' : 1 ≤ w 9 := hb.2.2.2.1.2.1.1
  have hyB : YB (yW w 0) (kW w) := yB_of hb (by omega)
  obtain ⟨hK0, hK1, -⟩ := ncd_bd hb (fm := -1)
  refine sC (by decide) rfl (go_in (e8_0 (useC (upC (c78 (d := d) hy hyB) (by omega)) fun vs N h => ?_)))
  obtain ⟨rfl, rfl⟩ := h
  refine e8_8 ?_
  have hn4 : 4 ^ yW w 0 2 = ncd w (-1) := ncd_all.symm
  rw [hn4]
  have hyN := fun N' (hF' : Fr aOf N N') => hy.of hF' aOf_640 (fun j => rfl)
  have hfoN := fun N' (hF' : Fr aOf N N') => hfo.of hF' (fun j => rfl)
  have P1 : ∀ j l N' (o2 o3 o4 : Option Value), l + j = w 0 + 1 → Fr aOf N N' → N'.1 64 2 = nI (ncd w (-1)) → (∀ l' k, l' < l → k < ncd w (-1) → N'.1 5123 (l' * 64 + k) = iz (rG w ta (-1) l' k) ∧ N'.1 5124 (l' * 64 + k) = nI (lG w ta (-1) l' k)) → WM (d + 3) 8 (fun vs N2 => vs = [] ∧ Fr aOf N N2 ∧ OFR (YG w (-1)) (ncd w (-1)) (rG w ta (-1)) (lG w ta (-1)) N2) 13 [some (.ref 64), some (.int (nI l)), o2, o3, o4] [] N' := by
    intro j
    induction j with
    | zero =>
      intro l N' o2 o3 o4 hl hF h2 hA
      have hl : l = w 0 + 1 := by omega
      subst hl
      refine go_in (e8_13 ?_)
      rw [(hF 640 0 rfl).1, hy.1.1]
      exact br_t (nI_lt (show w 0 < w 0 + 1 by omega) (by omega)) (go_in (e8_128 ⟨rfl, rfl, hF, h2, fun l' k hl' hk => hA l' k (show l' < w 0 + 1 by have : l' ≤ w 0 := hl'; omega) hk⟩))
    | succ j ih =>
      intro l N' o2 o3 o4 hl hF h2 hA
      have hlw : l ≤ w 0 := by omega
      refine go_in (e8_13 ?_)
      rw [(hF 640 0 rfl).1, hy.1.1]
      refine br_f (nI_nlt hlw (show w 0 < 2147483648 by omega)) ?_
      have P2 : ∀ j k N2 (o3 o4 : Option Value), k + j = ncd w (-1) → Fr aOf N N2 → N2.1 64 2 = nI (ncd w (-1)) → (∀ l' k', (l' < l ∧ k' < ncd w (-1)) ∨ (l' = l ∧ k' < k) → N2.1 5123 (l' * 64 + k') = iz (rG w ta (-1) l' k') ∧ N2.1 5124 (l' * 64 + k') = nI (lG w ta (-1) l' k')) → WM (d + 3) 8 (fun vs N2 => vs = [] ∧ Fr aOf N N2 ∧ OFR (YG w (-1)) (ncd w (-1)) (rG w ta (-1)) (lG w ta (-1)) N2) 26 [some (.ref 64), some (.int (nI l)), some (.int (nI k)), o3, o4] [] N2 := by
        intro j
        induction j with
        | zero =>
          intro k N2 o3 o4 hk hF' h2' hA'
          have hk : k = ncd w (-1) := by omega
          subst hk
          refine go_in (e8_26 ?_)
          rw [h2']
          refine br_t (nI_le (Nat.le_refl _) (by omega)) (go_in (e8_122 ?_))
          rw [nI_s]
          refine ih (l + 1) N2 _ _ _ (by omega) hF' h2' fun l' k hl' hk => hA' l' k ?_
          by_cases e : l' = l
          · exact Or.inr ⟨e, hk⟩
          · exact Or.inl ⟨by omega, hk⟩
        | succ j ih2 =>
          intro k N2 o3 o4 hk hF' h2' hA'
          refine go_in (e8_26 ?_)
          rw [h2']
          refine br_f (nI_ge (by omega) (by omega)) (useC (upC (c75 (d := d) (hyN _ hF') hyB (w := k) (by omega)) (by omega)) fun vs N3 h => ?_)
          obtain ⟨rfl, hF3, hv3⟩ := h
          have hF3' := hF'.tr (hF3.up aWish_of)
          refine e8_42 (useC (upC (c69 (d := d) (v := wnr (w 8) k) (hyN _ hF3') hyB hv3 (fun f => wnr_3) (l := l) (by omega)) (by omega)) fun vs N4 h => ?_)
          obtain ⟨rfl, hF4, hP4⟩ := h
          have hF4' := hF3'.tr (hF4.up aPump_of)
          refine e8_50 ?_
          have P3 : ∀ j f (o3' : Nat), f + j = w 8 → o3' = 0 → WM (d + 3) 8 (fun vs N2 => vs = [] ∧ Fr aOf N N2 ∧ OFR (YG w (-1)) (ncd w (-1)) (rG w ta (-1)) (lG w ta (-1)) N2) 55 [some (.ref 64), some (.int (nI l)), some (.int (nI k)), some (.int (iz (gaW w 0 (wnr (w 8) k) l f))), some (.int (nI f))] [] N4 := by
            intro j
            induction j with
            | zero =>
              intro f o3' hf _
              have hf : f = w 8 := by omega
              subst hf
              refine go_in (e8_55 ?_)
              rw [(hyN _ hF4').1.2.2.1]
              refine br_t (nI_le (Nat.le_refl _) (show w 8 < 2147483648 by omega)) (go_in (e8_86 ?_))
              rw [nI_mul, nI_add, nI_c (by omega), sI_v, if_neg (by omega), hP4.2.1, nI_s]
              refine ⟨nI_in2 (by omega) (by decide), nI_in2 (by omega) (by decide), ?_⟩
              refine ih2 (k + 1) _ _ _ (by omega) ((hF4'.sI rfl).sI rfl) ?_ fun l' k' hlk => ?_
              · rw [sI_v, if_neg (by omega), sI_v, if_neg (by omega), (hF4 64 2 rfl).1, (hF3 64 2 rfl).1]
                exact h2'
              · rw [sI_v, if_neg (by omega), sI_v, sI_v]
                by_cases e : l' = l ∧ k' = k
                · obtain ⟨rfl, rfl⟩ := e
                  rw [if_pos ⟨rfl, rfl⟩, if_pos ⟨rfl, rfl⟩, rG_all, lG_all (by omega)]
                  exact ⟨rfl, rfl⟩
                · have hne : ¬ l' * 64 + k' = l * 64 + k := by omega
                  rw [if_neg (fun q => hne q.2), if_neg (fun q => hne q.2), sI_v, if_neg (by omega), (hF4 5123 _ rfl).1, (hF4 5124 _ rfl).1, (hF3 5123 _ rfl).1, (hF3 5124 _ rfl).1]
                  exact hA' l' k' (by omega)
            | succ j ih3 =>
              intro f o3' hf h0
              refine go_in (e8_55 ?_)
              rw [(hyN _ hF4').1.2.2.1]
              have hgl : gt (wnr (w 8) k) (l - yW w 0 3) f ≤ 3 := Nat.le_trans gt_le wnr_3
              refine br_f (nI_ge (show f < w 8 by omega) (show w 8 < 2147483648 by omega)) (useC (upC (c70 (d := d) (f := f) (l := l) (n := gt (wnr (w 8) k) (l - yW w 0 3) f) hyB (hfoN _ hF4') (show f < w 8 by omega) hlw (by omega) (hP4.1 f (show f < w 8 by omega))) (by omega)) fun vs N5 h => ?_)
              obtain ⟨rfl, rfl⟩ := h
              refine e8_78 ?_
              rw [iz_add, nI_s]
              exact ih3 (f + 1) o3' (by omega) h0
          exact P3 (w 8) 0 0 (by omega) rfl
      refine P2 (ncd w (-1)) 0 N' _ _ (by omega) hF h2 fun l' k hlk => ?_
      rcases hlk with h | h
      · exact hA l' k h.1 h.2
      · exact absurd h.2 (Nat.not_lt_zero _)
  refine P1 (w 0 + 1) 0 _ _ _ _ (by omega) (Fr.rf.sI rfl) (by rw [sI_v, if_pos ⟨rfl, rfl⟩]) fun l' k hl' => absurd hl' (Nat.not_lt_zero _)
end OA
