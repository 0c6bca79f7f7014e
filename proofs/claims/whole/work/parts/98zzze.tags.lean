/-! The class reads conditions. -/
theorem aRx_dd {x k j : Nat} (hx : x = 13320 ∨ x = 13321) (h : aRx x k j = true) : aRdd k j = true := by
  unfold aRx at h
  unfold aRdd
  rw [Bool.or_eq_true] at h
  rcases h with h | h
  · rw [h]
    rfl
  · rcases hx with rfl | rfl
    · rw [h, Bool.true_or, Bool.or_true]
    · rw [h, Bool.or_true, Bool.or_true]
theorem aRst_dd {k j : Nat} (h : aRst k j = true) : aRdd k j = true := by
  unfold aRdd
  rw [h]
  rfl
section CC
variable {d : Nat} {M : Mm} {tp : Nat → Int} {tl N T : Nat}
theorem smAt.of {x : Nat} {v : SUM} {P : Nat → Nat → Bool} {M' : Mm} (h : smAt x T v M) (hF : Fr P M M') (h0 : ∀ j, P x j = false) : smAt x T v M' := ⟨(hF _ _ (h0 0)).1.trans h.1, (hF _ _ (h0 1)).1.trans h.2.1, (hF _ _ (h0 2)).1.trans h.2.2⟩
theorem k30 (h4 : tl ≤ 400) (hT : T ≤ 7) {s : Nat ⊕ Nat} (hs : Sst tp tl N T s M) {Q : List Value → Mm → Prop} (k : ∀ x M', CPO tp tl N T (lfS (pBase (tkk tp tl) (nnk tp tl)) s) (fun m => BM (m T) x) M' → Fr aRdd M M' → Q [.long x] M') : SC (d + 4) 30 [.ref 192] M Q := by
  have hE := isE_t hs
  have hm : ∀ i, nnk tp tl i ≤ 99 := fun i => nnk_le i
  refine sC (by decide) rfl (go_in (e30_0 ⟨hE, ⟨hE, rfl⟩, fun q8 => go_in (e30_18 (k31 h4 (Or.inl rfl) hs fun M1 g1 f1 => e30_26 ?_)), fun q8 => ?_⟩))
  · have hp : ∀ r, lfS (pSum (tkk tp tl) (nnk tp tl)) s = r → lfS (pBase (tkk tp tl) (nnk tp tl)) s = bdP r fun j c s => if tkk tp tl j = 15 then bdP (pSum (tkk tp tl) (nnk tp tl) (j + 1)) fun k d r => okP k (c ++ (d ++ [(13, 0)])) (wls s r) else if tkk tp tl j = 16 then bdP (pSum (tkk tp tl) (nnk tp tl) (j + 1)) fun k d r => okP k (c ++ (d ++ [(14, 0)])) (wls r s) else erP j := fun r hr => by
      match s, hs, hr, q8 with
      | .inl e, hs, hr, q8 =>
        rw [← hr]
        rfl
      | .inr i, hs, hr, q8 =>
        have q8 : ¬ tkk tp tl i = 8 := fun z => q8 ((th_q hs (j := 8)).mpr z)
        rw [← hr]
        show pBase _ _ i = _
        unfold pBase
        rw [if_neg q8]
        rfl
    generalize hr : lfS (pSum (tkk tp tl) (nnk tp tl)) s = r at g1
    have hp := hp r hr
    rw [hp] at k
    have hE1 := isE_t g1.st
    have fdd := f1.up fun k j => aRx_dd (Or.inl rfl)
    match r, g1, k, hr with
    | .inl e, g1, k, _ =>
      have g1 : Sst tp tl N T (.inl e) M1 := g1
      refine ⟨hE1, ⟨hE1, rfl⟩, fun _ => go_in (e30_40 (go_in (e30_41 ⟨fun _ => go_in (e30_53 (go_in (e30_56 (upC (d := d + 2) (k34 h4 g1 (j := 16) (by decide) (by decide) fun M2 g2 f2 => e30_59 ?_) (by omega))))), fun q => absurd rfl q⟩))), fun q => absurd (g1.2.1.symm.trans q) (by decide)⟩
      refine k31 h4 (Or.inr rfl) (s := .inl e) g2 fun M3 g3 f3 => e30_67 ⟨fun _ => go_in (e30_85 (upC (d := d + 2) (k33 (Or.inr rfl) (Or.inl rfl) fun x _ => e30_96 ⟨rfl, k x M3 g3 ((fdd.tr (f2.up fun k j => aRst_dd)).tr (f3.up fun k j => aRx_dd (Or.inr rfl)))⟩) (by omega))), fun q => absurd rfl q⟩
    | .inr (j, c, v), g1, k, hr =>
      obtain ⟨g1, gv⟩ := g1
      have bv : SBn T 401 v := by
        match s, hr with
        | .inr i, hr => exact pSum_b hm hT hr
      have ht := fun n => th_q g1 (j := n)
      refine ⟨hE1, ⟨hE1, rfl⟩, fun q15 => go_in (e30_40 (go_in (e30_41 ⟨fun _ => go_in (e30_53 (go_in (e30_56 (upC (d := d + 2) (k34 h4 g1 (j := 16) (by decide) (by decide) fun M2 g2 f2 => e30_59 ?_) (by omega))))), fun q => absurd rfl q⟩))), fun q15 => go_in (e30_41 ⟨fun q => absurd q (by decide), fun _ => go_in (e30_56 (upC (d := d + 2) (k34 h4 g1 (j := 15) (by decide) (by decide) fun M2 g2 f2 => e30_59 ?_) (by omega)))⟩)⟩
      · have q15 : ¬ tkk tp tl j = 15 := fun z => q15 ((ht 15).mpr z)
        have k : ∀ x M', CPO tp tl N T (if tkk tp tl j = 15 then bdP (pSum (tkk tp tl) (nnk tp tl) (j + 1)) fun k d r => okP k (c ++ (d ++ [(13, 0)])) (wls v r) else if tkk tp tl j = 16 then bdP (pSum (tkk tp tl) (nnk tp tl) (j + 1)) fun k d r => okP k (c ++ (d ++ [(14, 0)])) (wls r v) else erP j) (fun m => BM (m T) x) M' → Fr aRdd M M' → Q [.long x] M' := k
        rw [if_neg q15] at k
        by_cases q16 : tkk tp tl j = 16
        · rw [if_pos q16] at k
          rw [taS_1 q16] at g2
          refine k31 h4 (Or.inr rfl) g2 fun M3 g3 f3 => e30_67 ⟨fun _ => go_in (e30_85 (upC (d := d + 2) (k33 (Or.inr rfl) (Or.inl rfl) fun x hx => e30_96 ⟨rfl, k x M3 ?_ ((fdd.tr (f2.up fun k j => aRst_dd)).tr (f3.up fun k j => aRx_dd (Or.inr rfl)))⟩) (by omega))), fun q => absurd rfl q⟩
          have g3 : CPO tp tl N T (pSum (tkk tp tl) (nnk tp tl) (j + 1)) (fun v => smAt 13321 T v M3) M3 := g3
          have gv3 : smAt 13320 T v M3 := (gv.of f2 (fun _ => rfl)).of f3 (fun _ => rfl)
          cases hr2 : pSum (tkk tp tl) (nnk tp tl) (j + 1) with
          | inl e => rw [hr2] at g3; exact g3
          | inr t =>
            obtain ⟨j2, c2, v2⟩ := t
            rw [hr2] at g3
            refine ⟨g3.1, hx.cg fun p hp => ?_⟩
            exact decide_eq_decide.mpr (rmE_v g3.2 gv3 (pSum_b hm hT hr2) bv (by omega) (by omega))
        · rw [if_neg q16] at k
          rw [taS_0 q16] at g2
          exact k31 h4 (Or.inr rfl) (s := .inl j) g2 fun M3 g3 f3 => e30_67 ⟨fun _ => go_in (e30_85 (upC (d := d + 2) (k33 (Or.inr rfl) (Or.inl rfl) fun x hx => e30_96 ⟨rfl, k x M3 g3 ((fdd.tr (f2.up fun k j => aRst_dd)).tr (f3.up fun k j => aRx_dd (Or.inr rfl)))⟩) (by omega))), fun q => absurd rfl q⟩
      · have q15 : tkk tp tl j = 15 := (ht 15).mp q15
        have k : ∀ x M', CPO tp tl N T (if tkk tp tl j = 15 then bdP (pSum (tkk tp tl) (nnk tp tl) (j + 1)) fun k d r => okP k (c ++ (d ++ [(13, 0)])) (wls v r) else if tkk tp tl j = 16 then bdP (pSum (tkk tp tl) (nnk tp tl) (j + 1)) fun k d r => okP k (c ++ (d ++ [(14, 0)])) (wls r v) else erP j) (fun m => BM (m T) x) M' → Fr aRdd M M' → Q [.long x] M' := k
        rw [if_pos q15] at k
        rw [taS_1 q15] at g2
        refine k31 h4 (Or.inr rfl) g2 fun M3 g3 f3 => e30_67 ⟨fun q => absurd q (by decide), fun _ => upC (d := d + 2) (k33 (Or.inl rfl) (Or.inr rfl) fun x hx => e30_82 (go_in (e30_96_1 ⟨rfl, k x M3 ?_ ((fdd.tr (f2.up fun k j => aRst_dd)).tr (f3.up fun k j => aRx_dd (Or.inr rfl)))⟩))) (by omega)⟩
        have g3 : CPO tp tl N T (pSum (tkk tp tl) (nnk tp tl) (j + 1)) (fun v => smAt 13321 T v M3) M3 := g3
        have gv3 : smAt 13320 T v M3 := (gv.of f2 (fun _ => rfl)).of f3 (fun _ => rfl)
        cases hr2 : pSum (tkk tp tl) (nnk tp tl) (j + 1) with
        | inl e => rw [hr2] at g3; exact g3
        | inr t =>
          obtain ⟨j2, c2, v2⟩ := t
          rw [hr2] at g3
          refine ⟨g3.1, hx.cg fun p hp => ?_⟩
          exact decide_eq_decide.mpr (rmE_v gv3 g3.2 bv (pSum_b hm hT hr2) (by omega) (by omega))
  · match s, hs, k, q8 with
    | .inl e, hs, k, q8 => exact absurd (hs.2.1.symm.trans q8) (by decide)
    | .inr i, hs, k, q8 =>
      have q8 : tkk tp tl i = 8 := (th_q hs (j := 8)).mp q8
      refine upC (k36 (d := d) h4 hs fun M' h' f' => e30_14 ⟨rfl, k _ M' ?_ (f'.up fun k j => aRst_dd)⟩) (by omega)
      rw [stS_1 (by omega)] at h'
      show CPO tp tl N T (pBase _ _ i) _ M'
      unfold pBase
      rw [if_pos q8]
      exact ⟨h', BM_brk⟩
end CC
