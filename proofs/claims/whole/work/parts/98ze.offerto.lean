/-! The class's choice: what is offered to one farm. -/
def aOf (k j : Nat) : Bool := aWish k j || (aPump k j || ((Nat.beq k 64 && Nat.beq j 2) || (Nat.beq k 5123 || Nat.beq k 5124)))
theorem aWish_of : ∀ k j, aWish k j = true → aOf k j = true := fun k j h => by unfold aOf; rw [h]; rfl
theorem aPump_of : ∀ k j, aPump k j = true → aOf k j = true := fun k j h => by unfold aOf; rw [h]; cases aWish k j <;> rfl
theorem aOf_640 : ∀ j, j < 7 → aOf 640 j = false := by decide
theorem vBy_at {w : Nat → Nat} {ta : Nat → Nat → Nat → Nat} {f l n g : Nat} : vBy w ta (f : Int) l n g = if g = f then n else waW w ta 0 l g := by
  unfold vBy
  rw [if_neg (by omega)]
  by_cases e : g = f
  · rw [if_pos e, if_pos (by omega)]
  · rw [if_neg e, if_neg (by omega)]
theorem rBy_at {w : Nat → Nat} {f : Nat} : rBy w (f : Int) = w 10 := if_neg (by omega)
theorem ncd_at {w : Nat → Nat} {f : Nat} : ncd w (f : Int) = 4 := if_neg (by omega)
section OF
variable {d : Nat} {M : Mm} {w : Nat → Nat} {ta : Nat → Nat → Nat → Nat} {f : Nat}
theorem rG_at {l n : Nat} : rG w ta (f : Int) l n = foW w (w 10) (cstW w) f l (gt (vBy w ta (f : Int) l n) (l - w (32 + 5 * w 10 + 1)) f) := by
  unfold rG gBy gnW
  rw [if_neg (by omega), rBy_at, Int.toNat_natCast]
theorem c7 (hb : WB w) (hf : f < w 8) (hy : YR (YG w (f : Int)) (kW w) M) (hfo : FO (YG w (f : Int)) 41992 (foW w (w 10) (cstW w)) M) (hwa : WA (YG w (f : Int)) (waW w ta) M) : SC (d + 4) 7 [.ref 64, .int (nI f)] M (fun vs N => vs = [] ∧ Fr aOf M N ∧ OFR (YG w (f : Int)) (ncd w (f : Int)) (rG w ta (f : Int)) (lG w ta (f : Int)) N) := by
  obtain ⟨w0, w8, w9⟩ := wb_w hb
  have hyB := yB_of hb (rBy_lt hb (fm := (f : Int)))
  have hr10 := rBy_at (w := w) (f := f)
  refine sC (by decide) rfl (go_in (e7_0 ?_))
  -- put by level and number: all below
  have P1 : ∀ j l N (o3 : Option Value), l + j = w 0 + 1 → Fr aOf M N → N.1 64 2 = nI 4 → (∀ l' k, l' < l → k < 4 → N.1 5123 (l' * 64 + k) = iz (rG w ta (f : Int) l' k) ∧ N.1 5124 (l' * 64 + k) = nI (lG w ta (f : Int) l' k)) → WM (d + 3) 7 (fun vs N => vs = [] ∧ Fr aOf M N ∧ OFR (YG w (f : Int)) (ncd w (f : Int)) (rG w ta (f : Int)) (lG w ta (f : Int)) N) 7 [some (.ref 64), some (.int (nI f)), some (.int (nI l)), o3] [] N := by
    intro j
    induction j with
    | zero =>
      intro l N o3 hl hF h2 hA
      have hl : l = w 0 + 1 := by omega
      subst hl
      refine go_in (e7_7 ?_)
      rw [(hF 640 0 rfl).1, hy.1.1]
      refine br_t (nI_lt (show w 0 < w 0 + 1 by omega) (by omega)) (go_in (e7_102 ⟨rfl, rfl, hF, ?_, fun l' k hl' hk => hA l' k (show l' < w 0 + 1 by have : l' ≤ w 0 := hl'; omega) (by rw [ncd_at] at hk; exact hk)⟩))
      rw [ncd_at]
      exact h2
    | succ j ih =>
      intro l N o3 hl hF h2 hA
      have hlw : l ≤ w 0 := by omega
      have hyN := fun N' (hF' : Fr aOf M N') => hy.of hF' aOf_640 (fun j => rfl)
      have hfoN := fun N' (hF' : Fr aOf M N') => hfo.of hF' (fun j => rfl)
      refine go_in (e7_7 ?_)
      rw [(hF 640 0 rfl).1, hy.1.1]
      refine br_f (nI_nlt hlw (show w 0 < 2147483648 by omega)) (useC (upC (c67 (d := d) (l := l) (b := 0) hyB (hwa.of hF (fun j => rfl)) hlw (by decide)) (by omega)) fun vs N2 h => ?_)
      obtain ⟨rfl, hF2, hv2⟩ := h
      refine e7_27 ?_
      have P2 : ∀ j n N', n + j = 4 → Fr aOf M N' → N'.1 64 2 = nI 4 → (∀ g, g < w 8 → g ≠ f → N'.1 41995 g = nI (waW w ta 0 l g)) → (∀ l' k, (l' < l ∧ k < 4) ∨ (l' = l ∧ k < n) → N'.1 5123 (l' * 64 + k) = iz (rG w ta (f : Int) l' k) ∧ N'.1 5124 (l' * 64 + k) = nI (lG w ta (f : Int) l' k)) → WM (d + 3) 7 (fun vs N => vs = [] ∧ Fr aOf M N ∧ OFR (YG w (f : Int)) (ncd w (f : Int)) (rG w ta (f : Int)) (lG w ta (f : Int)) N) 29 [some (.ref 64), some (.int (nI f)), some (.int (nI l)), some (.int (nI n))] [] N' := by
        intro j
        induction j with
        | zero =>
          intro n N' hn hF' h2' hv hA'
          have hn : n = 4 := by omega
          subst hn
          refine go_in (e7_29 (br_t (nI_le (Nat.le_refl _) (by decide)) (go_in (e7_96 ?_))))
          rw [nI_s]
          refine ih (l + 1) N' _ (by omega) hF' h2' fun l' k hl' hk => hA' l' k ?_
          by_cases e : l' = l
          · exact Or.inr ⟨e, hk⟩
          · exact Or.inl ⟨by omega, hk⟩
        | succ j ih2 =>
          intro n N' hn hF' h2' hv hA'
          refine go_in (e7_29 (br_f (nI_ge (by omega) (by decide)) ⟨nI_in2 (by omega) (by decide), ?_⟩))
          rw [nI_c (by omega)]
          have hF3 : Fr aOf M (sI N' 41995 f (nI n)) := hF'.sI rfl
          have hv3 : WV (YG w (f : Int)) (vBy w ta (f : Int) l n) (sI N' 41995 f (nI n)) := fun g hg => by
            rw [sI_v, vBy_at]
            by_cases e : g = f
            · rw [if_pos ⟨rfl, e⟩, if_pos e]
            · rw [if_neg (fun q => e q.2), if_neg e]; exact hv g hg e
          have h3 : ∀ g, vBy w ta (f : Int) l n g ≤ 3 := fun g => vBy_3 (by rw [ncd_at]; omega) hb g
          refine useC (upC (c69 (d := d) (hyN _ hF3) hyB hv3 h3 (l := l) (by omega)) (by omega)) fun vs N4 h => ?_
          obtain ⟨rfl, hF4, hP4⟩ := h
          have hF4' := hF3.tr (hF4.up aPump_of)
          have hgl : gt (vBy w ta (f : Int) l n) (l - YG w (f : Int) 3) f ≤ 3 := Nat.le_trans gt_le (h3 f)
          refine e7_52 (useC (upC (c70 (d := d) (f := f) (l := l) (n := gt (vBy w ta (f : Int) l n) (l - YG w (f : Int) 3) f) hyB (hfoN _ hF4') hf hlw (by omega) (hP4.1 f hf)) (by omega)) fun vs N5 h => ?_)
          obtain ⟨rfl, rfl⟩ := h
          refine e7_71 ?_
          rw [nI_mul, nI_add, nI_c (by omega), sI_v, if_neg (by omega), hP4.2.1, nI_s]
          refine ⟨nI_in2 (by omega) (by decide), nI_in2 (by omega) (by decide), ?_⟩
          refine ih2 (n + 1) _ (by omega) ((hF4'.sI rfl).sI rfl) ?_ (fun g hg hgf => ?_) fun l' k hlk => ?_
          · rw [sI_v, if_neg (by omega), sI_v, if_neg (by omega), (hF4 64 2 rfl).1, sI_v, if_neg (by omega)]
            exact h2'
          · rw [sI_v, if_neg (by omega), sI_v, if_neg (by omega), (hF4 41995 g rfl).1, sI_v, if_neg (fun q => hgf q.2)]
            exact hv g hg hgf
          · rw [sI_v, if_neg (by omega), sI_v, sI_v]
            by_cases e : l' = l ∧ k = n
            · obtain ⟨rfl, rfl⟩ := e
              rw [if_pos ⟨rfl, rfl⟩, if_pos ⟨rfl, rfl⟩, rG_at, lG_at (by omega)]
              refine ⟨?_, rfl⟩
              show iz (foW w (w 10) (cstW w) f l' (gt (vBy w ta (f : Int) l' k) (l' - w (32 + 5 * rBy w (f : Int) + 1)) f)) = _
              rw [hr10]
            · have hne : ¬ l' * 64 + k = l * 64 + n := by omega
              rw [if_neg (fun q => hne q.2), if_neg (fun q => hne q.2), sI_v, if_neg (by omega), (hF4 5123 _ rfl).1, (hF4 5124 _ rfl).1, sI_v, if_neg (by omega), sI_v, if_neg (by omega)]
              exact hA' l' k (by omega)
      refine P2 4 0 N2 (by omega) (hF.tr (hF2.up aWish_of)) (by rw [(hF2 64 2 rfl).1]; exact h2) (fun g hg _ => hv2 g hg) fun l' k hlk => ?_
      rw [(hF2 5123 _ rfl).1, (hF2 5124 _ rfl).1]
      rcases hlk with h | h
      · exact hA l' k h.1 h.2
      · exact absurd h.2 (Nat.not_lt_zero _)
  refine P1 (w 0 + 1) 0 _ _ (by omega) (Fr.rf.sI rfl) (by rw [sI_v, if_pos ⟨rfl, rfl⟩]) fun l' k hl' => absurd hl' (Nat.not_lt_zero _)
end OF
