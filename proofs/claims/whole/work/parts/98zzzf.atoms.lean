/-! The class reads all, or, atoms. -/
section CA
variable {d : Nat} {tp : Nat → Int} {tl N T : Nat}
/-- method k at depth a reads P -/
def KAt (tp : Nat → Int) (tl N T k d : Nat) (a : Int32) (P : Nat → PR MSK) : Prop := ∀ (M : Mm) (s : Nat ⊕ Nat) (Q : List Value → Mm → Prop), Sst tp tl N T s M → (∀ x M', CPO tp tl N T (lfS P s) (fun m => BM (m T) x) M' → Fr aRdd M M' → Q [.long x] M') → SC d k [.ref 192, .int a] M Q
theorem k28 (h4 : tl ≤ 400) {A : Nat → PR MSK} {d0 : Nat} {a : Int32} (hA : KAt tp tl N T 29 (d0 + 1) a (A)) : KAt tp tl N T 28 (d0 + 2) a (pAnds (tkk tp tl) A) := fun M s Q hs k => by
  have loop : ∀ n (r : PR MSK) M1 x1 (o3 : Option Value), n ≤ 400 → CPO tp tl N T r (fun m => BM (m T) x1) M1 → Fr aRdd M M1 → (∀ x M', CPO tp tl N T (bdP r fun i c v => pAndL (tkk tp tl) A n i c v) (fun m => BM (m T) x) M' → Fr aRdd M M' → Q [.long x] M') → WM (d0 + 1) 28 Q 9 [some (.ref 192), some (.int a), some (.long x1), o3, some (.int (nI (400 - n)))] [] M1 := by
    intro n
    induction n with
    | zero =>
      intro r M1 x1 o3 hn hr hF k
      have hE := isE_t hr.st
      have k2 : CPO tp tl N T r (fun m => BM (m T) x1) M1 → Fr aRdd M M1 → Q [.long x1] M1 := by
        have := k x1 M1
        match r, this with
        | .inl e, this => exact this
        | .inr (j, c, v), this => exact this
      exact go_in (e28_9 ⟨hE, ⟨hE, rfl⟩, fun _ => go_in (e28_45 ⟨rfl, k2 hr hF⟩), fun _ => br_t (nI_le (by omega) (by decide)) (go_in (e28_45 ⟨rfl, k2 hr hF⟩))⟩)
    | succ n ih =>
      intro r M1 x1 o3 hn hr hF k
      have hE := isE_t hr.st
      match r, hr, k with
      | .inl e, hr, k =>
        exact go_in (e28_9 ⟨hE, ⟨hE, rfl⟩, fun _ => go_in (e28_45 ⟨rfl, k x1 M1 hr hF⟩), fun q => absurd (hr.2.1.symm.trans q) (by decide)⟩)
      | .inr (i, c, v), hr, k =>
        have ht := fun j => th_q hr.1 (j := j)
        refine go_in (e28_9 ⟨hE, ⟨hE, rfl⟩, fun q => go_in (e28_45 ⟨rfl, k x1 M1 ?_ hF⟩), fun q => br_f (nI_ge (by omega) (by decide)) ?_⟩)
        · show CPO tp tl N T (pAndL (tkk tp tl) A (n + 1) i c v) _ M1
          unfold pAndL
          rw [if_neg (show ¬ tkk tp tl i = 6 from fun z => q ((ht 6).mpr z))]
          exact hr
        · have q6 : tkk tp tl i = 6 := (ht 6).mp q
          refine upC (k36 (d := 0) h4 hr.1 fun M2 g2 f2 => e28_31 ?_) (by omega)
          rw [stS_1 (by omega)] at g2
          refine hA _ _ _ g2 fun x2 M3 g3 f3 => e28_37 ?_
          rw [nI_s, show 400 - (n + 1) + 1 = 400 - n by omega]
          refine ih (bdP (A (i + 1)) fun j d r => okP j (c ++ (d ++ [(16, 0)])) (fun T p => v T p && r T p)) M3 _ _ (by omega) ?_ (hF.tr ((f2.up fun k j => aRst_dd).tr f3)) fun x M' h' f' => k x M' ?_ f'
          · have g3 : CPO tp tl N T ((A) (i + 1)) _ M3 := g3
            match (A) (i + 1), g3 with
            | .inl e, g3 => exact g3
            | .inr (j, d, r), g3 => exact ⟨g3.1, hr.2.and g3.2⟩
          · show CPO tp tl N T (pAndL (tkk tp tl) A (n + 1) i c v) _ M'
            unfold pAndL
            rw [if_pos q6]
            rw [bdP_a] at h'
            exact h'
  refine sC (by decide) rfl (go_in (e28_0 (hA _ _ _ hs fun x M1 g1 f1 => e28_5 ?_)))
  refine loop 400 (lfS (A) s) M1 x _ (Nat.le_refl _) g1 f1 fun x M' h' f' => k x M' ?_ f'
  match s, h' with
  | .inl e, h' => exact h'
  | .inr i, h' => exact h'
theorem k27 (h4 : tl ≤ 400) {A : Nat → PR MSK} {d0 : Nat} {a : Int32} (hA : KAt tp tl N T 28 (d0 + 1) a (pAnds (tkk tp tl) A)) : KAt tp tl N T 27 (d0 + 2) a (pOrs (tkk tp tl) A) := fun M s Q hs k => by
  have loop : ∀ n (r : PR MSK) M1 x1 (o3 : Option Value), n ≤ 400 → CPO tp tl N T r (fun m => BM (m T) x1) M1 → Fr aRdd M M1 → (∀ x M', CPO tp tl N T (bdP r fun i c v => pOrL (tkk tp tl) A n i c v) (fun m => BM (m T) x) M' → Fr aRdd M M' → Q [.long x] M') → WM (d0 + 1) 27 Q 9 [some (.ref 192), some (.int a), some (.long x1), o3, some (.int (nI (400 - n)))] [] M1 := by
    intro n
    induction n with
    | zero =>
      intro r M1 x1 o3 hn hr hF k
      have hE := isE_t hr.st
      have k2 : CPO tp tl N T r (fun m => BM (m T) x1) M1 → Fr aRdd M M1 → Q [.long x1] M1 := by
        have := k x1 M1
        match r, this with
        | .inl e, this => exact this
        | .inr (j, c, v), this => exact this
      exact go_in (e27_9 ⟨hE, ⟨hE, rfl⟩, fun _ => go_in (e27_45 ⟨rfl, k2 hr hF⟩), fun _ => br_t (nI_le (by omega) (by decide)) (go_in (e27_45 ⟨rfl, k2 hr hF⟩))⟩)
    | succ n ih =>
      intro r M1 x1 o3 hn hr hF k
      have hE := isE_t hr.st
      match r, hr, k with
      | .inl e, hr, k =>
        exact go_in (e27_9 ⟨hE, ⟨hE, rfl⟩, fun _ => go_in (e27_45 ⟨rfl, k x1 M1 hr hF⟩), fun q => absurd (hr.2.1.symm.trans q) (by decide)⟩)
      | .inr (i, c, v), hr, k =>
        have ht := fun j => th_q hr.1 (j := j)
        refine go_in (e27_9 ⟨hE, ⟨hE, rfl⟩, fun q => go_in (e27_45 ⟨rfl, k x1 M1 ?_ hF⟩), fun q => br_f (nI_ge (by omega) (by decide)) ?_⟩)
        · show CPO tp tl N T (pOrL (tkk tp tl) A (n + 1) i c v) _ M1
          unfold pOrL
          rw [if_neg (show ¬ tkk tp tl i = 5 from fun z => q ((ht 5).mpr z))]
          exact hr
        · have q6 : tkk tp tl i = 5 := (ht 5).mp q
          refine upC (k36 (d := 0) h4 hr.1 fun M2 g2 f2 => e27_31 ?_) (by omega)
          rw [stS_1 (by omega)] at g2
          refine hA _ _ _ g2 fun x2 M3 g3 f3 => e27_37 ?_
          rw [nI_s, show 400 - (n + 1) + 1 = 400 - n by omega]
          refine ih (bdP (pAnds (tkk tp tl) A (i + 1)) fun j d r => okP j (c ++ (d ++ [(17, 0)])) (fun T p => v T p || r T p)) M3 _ _ (by omega) ?_ (hF.tr ((f2.up fun k j => aRst_dd).tr f3)) fun x M' h' f' => k x M' ?_ f'
          · have g3 : CPO tp tl N T ((pAnds (tkk tp tl) A) (i + 1)) _ M3 := g3
            match (pAnds (tkk tp tl) A) (i + 1), g3 with
            | .inl e, g3 => exact g3
            | .inr (j, d, r), g3 => exact ⟨g3.1, hr.2.or g3.2⟩
          · show CPO tp tl N T (pOrL (tkk tp tl) A (n + 1) i c v) _ M'
            unfold pOrL
            rw [if_pos q6]
            rw [bdP_a] at h'
            exact h'
  refine sC (by decide) rfl (go_in (e27_0 (hA _ _ _ hs fun x M1 g1 f1 => e27_5 ?_)))
  refine loop 400 (lfS (pAnds (tkk tp tl) A) s) M1 x _ (Nat.le_refl _) g1 f1 fun x M' h' f' => k x M' ?_ f'
  match s, h' with
  | .inl e, h' => exact h'
  | .inr i, h' => exact h'
theorem k29 (h4 : tl ≤ 400) (hT : T ≤ 7) : ∀ r, r ≤ 6 → KAt tp tl N T 29 (d + 3 * r + 5) (nI (6 - r)) (pAtom (tkk tp tl) (nnk tp tl) r) := fun r => by
  induction r with
  | zero =>
    intro hr M s Q hs k
    have hE := isE_t hs
    have ht := fun j => th_q hs (j := j)
    have deep : ∀ y, thS tp tl s = 7 ∨ thS tp tl s = 12 → WM (d + 4) 29 Q 35 [some (.ref 192), some (.int (nI (6 - 0))), some (.int y), none, none] [] M := fun y tk0 => by
      refine go_in (e29_35 (br_f (nI_nlt (by decide) (by decide)) (upC (k35 (d := 0) h4 hs fun M1 g1 f1 => e29_45 ⟨rfl, k _ M1 ?_ (f1.up fun k j => aRst_dd)⟩) (by omega))))
      match s, hs, g1, tk0 with
      | .inl e, hs, g1, tk0 => rcases tk0 with q | q <;> cases q
      | .inr i, hs, g1, tk0 =>
        have tk0 : tkk tp tl i = 7 ∨ tkk tp tl i = 12 := tk0
        show CPO tp tl N T (pAtom _ _ 0 i) _ M1
        unfold pAtom
        rw [if_pos tk0]
        exact g1
    have base : ¬ (thS tp tl s = 7 ∨ thS tp tl s = 12) → lfS (pAtom (tkk tp tl) (nnk tp tl) 0) s = lfS (pBase (tkk tp tl) (nnk tp tl)) s := fun h => by
      match s, h with
      | .inl e, h => rfl
      | .inr i, h => exact if_neg h
    refine sC (by decide) rfl (go_in (e29_0 ⟨hE, ⟨hE, rfl⟩, fun q7 => go_in (e29_14 (go_in (e29_15 ⟨fun q => absurd rfl q, fun _ => ⟨hE, ⟨hE, rfl⟩, fun q12 => deep _ (Or.inr ((ht 12).mp q12)), fun q12 => ?_⟩⟩))), fun q7 => go_in (e29_15 ⟨fun _ => deep _ (Or.inl ((ht 7).mp q7)), fun q => absurd q (by decide)⟩)⟩))
    rw [base (fun z => z.elim (fun z => q7 ((ht 7).mpr z)) (fun z => q12 ((ht 12).mpr z)))] at k
    exact k30 h4 hT hs fun x M1 g1 f1 => e29_34 ⟨rfl, k x M1 g1 f1⟩
  | succ r ih =>
    intro hr M s Q hs k
    have hE := isE_t hs
    have ht := fun j => th_q hs (j := j)
    have ih := ih (by omega)
    have ih3 := k27 h4 (k28 (d0 := d + 3 * r + 4) h4 ih)
    have e6 : nI (6 - (r + 1)) + nI 1 = nI (6 - r) := by
      rw [nI_add]
      congr 1
      omega
    have deep : ∀ b : Bool, thS tp tl s = (cond b 7 12) → WM (d + 3 * r + 7) 29 Q 35 [some (.ref 192), some (.int (nI (6 - (r + 1)))), some (.int (nI (cond b 1 0))), none, none] [] M := fun b tk0 => by
      refine go_in (e29_35 (br_t (nI_lt (by omega) (by decide)) (go_in (e29_47 (upC (k36 (d := 0) h4 hs fun M1 g1 f1 => e29_51 ?_) (by omega))))))
      match s, hs, k, g1, tk0 with
      | .inl e, hs, k, g1, tk0 => cases b <;> cases tk0
      | .inr i, hs, k, g1, tk0 =>
        have tk0 : tkk tp tl i = cond b 7 12 := tk0
        rw [stS_1 (by rw [tk0]; cases b <;> decide)] at g1
        rw [e6]
        have k : ∀ x M', CPO tp tl N T (pAtom (tkk tp tl) (nnk tp tl) (r + 1) i) (fun m => BM (m T) x) M' → Fr aRdd M M' → Q [.long x] M' := k
        unfold pAtom at k
        cases b with
        | true =>
          have tk0 : tkk tp tl i = 7 := tk0
          rw [if_pos tk0] at k
          refine ⟨fun q => absurd q (by decide), fun _ => upC (ih _ _ _ g1 fun x M2 g2 f2 => e29_65 ⟨rfl, k _ M2 ?_ ((f1.up fun k j => aRst_dd).tr f2)⟩) (by omega)⟩
          have g2 : CPO tp tl N T (pAtom (tkk tp tl) (nnk tp tl) r (i + 1)) _ M2 := g2
          match pAtom (tkk tp tl) (nnk tp tl) r (i + 1), g2 with
          | .inl e, g2 => exact g2
          | .inr (j, c, v), g2 => exact ⟨g2.1, (BM_all.wo g2.2).cg fun p hp => Bool.true_and _⟩
        | false =>
          have tk0 : tkk tp tl i = 12 := tk0
          rw [if_neg (by omega), if_pos tk0] at k
          refine ⟨fun _ => go_in (e29_71 ?_), fun q => absurd rfl q⟩
          rw [e6]
          refine upC (ih3 _ _ _ g1 fun x M2 g2 f2 => e29_78 (upC (k34 (d := 0) (s := psS (pOrs (tkk tp tl) (pAtom (tkk tp tl) (nnk tp tl) r) (i + 1))) h4 (CPO.st g2) (j := 13) (by decide) (by decide) fun M3 g3 f3 => e29_86 ⟨rfl, k x M3 ?_ (((f1.up fun k j => aRst_dd).tr f2).tr (f3.up fun k j => aRst_dd))⟩) (by omega))) (by omega)
          have g2 : CPO tp tl N T (pOrs (tkk tp tl) (pAtom (tkk tp tl) (nnk tp tl) r) (i + 1)) _ M2 := g2
          match pOrs (tkk tp tl) (pAtom (tkk tp tl) (nnk tp tl) r) (i + 1), g2, g3 with
          | .inl e, g2, g3 => exact g3
          | .inr (j, c, v), g2, g3 =>
            show CPO tp tl N T (if tkk tp tl j = 13 then okP (j + 1) c v else erP j) _ M3
            have g3 : Sst tp tl N T (if tkk tp tl j = 13 then .inr (j + 1) else .inl j) M3 := g3
            by_cases h13 : tkk tp tl j = 13
            · rw [if_pos h13] at g3 ⊢
              exact ⟨g3, g2.2⟩
            · rw [if_neg h13] at g3 ⊢
              exact g3
    have base : ¬ (thS tp tl s = 7 ∨ thS tp tl s = 12) → lfS (pAtom (tkk tp tl) (nnk tp tl) (r + 1)) s = lfS (pBase (tkk tp tl) (nnk tp tl)) s := fun h => by
      match s, h with
      | .inl e, h => rfl
      | .inr i, h =>
        show pAtom _ _ (r + 1) i = pBase _ _ i
        unfold pAtom
        have h : ¬ (tkk tp tl i = 7 ∨ tkk tp tl i = 12) := h
        rw [if_neg (show ¬ tkk tp tl i = 7 from fun z => h (Or.inl z)), if_neg (show ¬ tkk tp tl i = 12 from fun z => h (Or.inr z))]
    refine sC (by decide) rfl (go_in (e29_0 ⟨hE, ⟨hE, rfl⟩, fun q7 => go_in (e29_14 (go_in (e29_15 ⟨fun q => absurd rfl q, fun _ => ⟨hE, ⟨hE, rfl⟩, fun q12 => deep false ((ht 12).mp q12), fun q12 => ?_⟩⟩))), fun q7 => go_in (e29_15 ⟨fun _ => deep true ((ht 7).mp q7), fun q => absurd q (by decide)⟩)⟩))
    rw [base (fun z => z.elim (fun z => q7 ((ht 7).mpr z)) (fun z => q12 ((ht 12).mpr z)))] at k
    exact upC (k30 (d := d) h4 hT hs fun x M1 g1 f1 => e29_34 ⟨rfl, k x M1 g1 f1⟩) (by omega)
end CA
