/-! The class reads sums. -/
def aRx (x k j : Nat) : Bool := aRst k j || Nat.beq k x
def smAt (x T : Nat) (v : SUM) (M : Mm) : Prop := M.1 x 0 = nI (v.1 T) ∧ M.1 x 1 = nI v.2.1 ∧ M.1 x 2 = nI v.2.2
theorem Sst.of {tp : Nat → Int} {tl N T : Nat} {s : Nat ⊕ Nat} {P : Nat → Nat → Bool} {M M' : Mm} (h : Sst tp tl N T s M) (hF : Fr P M M') (h1 : ∀ j, P 13313 j = false ∧ P 13314 j = false ∧ P 13315 j = false) (h2 : ∀ j, P 192 j = false) : Sst tp tl N T s M' := by
  refine ⟨h.1.of hF h1 (h2 6), ?_⟩
  match s, h with
  | .inl e, h => exact ⟨(hF _ _ (h2 5)).2.2.trans h.2.1, by obtain ⟨a, q1, q2⟩ := h.2.2.1; exact ⟨a, (hF _ _ (h2 4)).1.trans q1, q2⟩, (hF _ _ (h2 7)).1.trans h.2.2.2.1, h.2.2.2.2⟩
  | .inr i, h => exact ⟨(hF _ _ (h2 5)).2.2.trans h.2.1, (hF _ _ (h2 4)).1.trans h.2.2.1, h.2.2.2.1, (hF _ _ (h2 7)).1.trans h.2.2.2.2⟩
theorem bdP_a {σ τ υ : Type} (p : PR σ) (k : Nat → List (Nat × Nat) → σ → PR τ) (k2 : Nat → List (Nat × Nat) → τ → PR υ) : bdP (bdP p k) k2 = bdP p fun j c s => bdP (k j c s) k2 := by
  match p with
  | .inl e => rfl
  | .inr (j, c, s) => rfl
section CSM
variable {d : Nat} {M : Mm} {tp : Nat → Int} {tl N T : Nat}
/-- a result, with what holds of it -/
def CPO {σ : Type} (tp : Nat → Int) (tl N T : Nat) (r : PR σ) (G : σ → Prop) (M : Mm) : Prop := match r with
  | .inl e => Sst tp tl N T (.inl e) M
  | .inr (j, _, v) => Sst tp tl N T (.inr j) M ∧ G v
theorem CPO.st {σ : Type} {r : PR σ} {G : σ → Prop} (h : CPO tp tl N T r G M) : Sst tp tl N T (psS r) M := by
  match r, h with
  | .inl e, h => exact h
  | .inr (j, c, v), h => exact h.1
theorem x_ar {x : Nat} (hx : x = 13320 ∨ x = 13321) : isAr x = true ∧ typ x = 1 ∧ len x = 3 := by
  rcases hx with rfl | rfl <;> exact ⟨rfl, rfl, rfl⟩
theorem aRx_f {x : Nat} (hx : x = 13320 ∨ x = 13321) : (∀ j, aRx x 13313 j = false ∧ aRx x 13314 j = false ∧ aRx x 13315 j = false) := by
  rcases hx with rfl | rfl <;> exact fun j => ⟨rfl, rfl, rfl⟩
theorem aRst_x {x k j : Nat} (h : aRst k j = true) : aRx x k j = true := by
  unfold aRx
  rw [h]
  rfl
def aX (x k _ : Nat) : Bool := Nat.beq k x
theorem aX_x {x k j : Nat} (h : aX x k j = true) : aRx x k j = true := by
  unfold aX at h
  unfold aRx
  rw [h, Bool.or_true]
theorem k32 (h4 : tl ≤ 400) {x : Nat} (hx : x = 13320 ∨ x = 13321) {s : Nat ⊕ Nat} (hs : Sst tp tl N T s M) {Q : List Value → Mm → Prop} (k : ∀ M', CPO tp tl N T (lfS (pPart (tkk tp tl) (nnk tp tl)) s) (fun v => ∀ v0, smAt x T v0 M → smAt x T (adS v0 v) M') M' → Fr (aRx x) M M' → Q [] M') : SC (d + 2) 32 [.ref 192, .ref x] M Q := by
  have hE := isE_t hs
  have hn := hs.1.1.le h4
  obtain ⟨ar, ty, ln⟩ := x_ar hx
  have hX : ∀ v : Int32, ∀ i, Fr (aX x) M (sI M x i v) := fun v i => Fr.rf.sI (by unfold aX; exact Nat.beq_refl x)
  have x1 : ∀ j, aX x 13313 j = false ∧ aX x 13314 j = false ∧ aX x 13315 j = false := by rcases hx with rfl | rfl <;> exact fun j => ⟨rfl, rfl, rfl⟩
  have x2 : ∀ j, aX x 192 j = false := by rcases hx with rfl | rfl <;> exact fun j => rfl
  have x3 : ∀ j, aRst x j = false := by rcases hx with rfl | rfl <;> exact fun j => rfl
  have bad : ∀ i0, reS s = .inl i0 → lfS (pPart (tkk tp tl) (nnk tp tl)) s = .inl i0 → WM (d + 1) 32 Q 91 [some (.ref 192), some (.ref x)] [] M := fun i0 h1 h2 => by
    refine go_in (e32_91 (k35 h4 hs fun M1 g1 f1 => e32_95_1 (k36 h4 g1 fun M2 g2 f2 => e32_99 ⟨rfl, k M2 ?_ ((f1.tr f2).up fun k j => aRst_x)⟩)))
    rw [h2]
    rw [h1] at g2
    exact g2
  match s, hs, k, bad with
  | .inl e, hs, k, bad =>
    have hq : ∀ j, 0 < j → ¬ M.2.2 192 5 = 70100 + j := fun j hj => by rw [hs.2.1]; omega
    exact sC (by decide) rfl (go_in (e32_0 ⟨hE, ⟨hE, rfl⟩, fun _ => go_in (e32_28 ⟨hE, ⟨hE, rfl⟩, fun _ => go_in (e32_51 ⟨hE, ⟨hE, rfl⟩, fun _ => go_in (e32_71 ⟨hE, ⟨hE, rfl⟩, fun _ => bad e rfl rfl, fun q => absurd q (hq 11 (by decide))⟩), fun q => absurd q (hq 9 (by decide))⟩), fun q => absurd q (hq 10 (by decide))⟩), fun q => absurd q (hq 2 (by decide))⟩))
  | .inr i, hs, k, bad =>
    obtain ⟨hR, h1, h2, h3, h7⟩ := id hs
    have ht : ∀ j, M.2.2 192 5 = 70100 + j ↔ tkk tp tl i = j := fun j => th_q hs
    have A : ∀ n, n < 3 → isAr x = true ∧ typ x = 1 ∧ vp_in (nI n) (len x) := fun n hn => ⟨ar, ty, by rw [ln]; exact nI_in2 hn (by decide)⟩
    have go : ∀ v : Int32, ∀ n, n < 3 → tkk tp tl i ≠ 0 → ∀ (c : List (Nat × Nat)) (sv : SUM), pPart (tkk tp tl) (nnk tp tl) i = okP (i + 1) c sv → (∀ v0, smAt x T v0 M → smAt x T (adS v0 sv) (sI M x n v)) → WM (d + 1) 32 Q 95 [some (.ref 192), some (.ref x)] [] (sI M x n v) := fun v n hn' h0 c sv hp hv => by
      have hs2 : Sst tp tl N T (.inr i) (sI M x n v) := hs.of (hX v n) x1 x2
      refine go_in (e32_95 (k36 h4 hs2 fun M2 g2 f2 => e32_99 ⟨rfl, k M2 ?_ (((hX v n).up fun k j => aX_x).tr (f2.up fun k j => aRst_x))⟩))
      rw [stS_1 h0] at g2
      show CPO tp tl N T (pPart (tkk tp tl) (nnk tp tl) i) _ M2
      rw [hp]
      refine ⟨g2, fun v0 hv0 => ?_⟩
      obtain ⟨a, b, c⟩ := hv v0 hv0
      exact ⟨(f2 _ _ (x3 0)).1.trans a, (f2 _ _ (x3 1)).1.trans b, (f2 _ _ (x3 2)).1.trans c⟩
    refine sC (by decide) rfl (go_in (e32_0 ⟨hE, ⟨hE, rfl⟩, fun q2 => go_in (e32_28 ⟨hE, ⟨hE, rfl⟩, fun q10 => go_in (e32_51 ⟨hE, ⟨hE, rfl⟩, fun q9 => go_in (e32_71 ⟨hE, ⟨hE, rfl⟩, fun q11 => bad i rfl ?_, fun q => ⟨A 2 (by decide), A 2 (by decide), ?_⟩⟩), fun q => ⟨A 1 (by decide), A 1 (by decide), ?_⟩⟩), fun q => ⟨A 0 (by decide), A 0 (by decide), ?_⟩⟩), fun q => ⟨A 0 (by decide), ?_, A 0 (by decide), ?_⟩⟩))
    · have a2 : ¬ tkk tp tl i = 2 := fun z => q2 ((ht 2).mpr z)
      have a10 : ¬ tkk tp tl i = 10 := fun z => q10 ((ht 10).mpr z)
      have a9 : ¬ tkk tp tl i = 9 := fun z => q9 ((ht 9).mpr z)
      have a11 : ¬ tkk tp tl i = 11 := fun z => q11 ((ht 11).mpr z)
      show pPart _ _ i = _
      unfold pPart
      rw [if_neg a2, if_neg a10, if_neg a9, if_neg a11]
    · have a2 : ¬ tkk tp tl i = 2 := fun z => q2 ((ht 2).mpr z)
      have a10 : ¬ tkk tp tl i = 10 := fun z => q10 ((ht 10).mpr z)
      have a9 : ¬ tkk tp tl i = 9 := fun z => q9 ((ht 9).mpr z)
      have a11 : tkk tp tl i = 11 := (ht 11).mp q
      rw [nI_c (by decide)]
      refine go _ 2 (by decide) (by omega) [(2, 0)] (fun _ => 0, 0, 1) ?_ fun v0 hv0 => ⟨?_, ?_, ?_⟩
      · unfold pPart
        rw [if_neg a2, if_neg a10, if_neg a9, if_pos a11]
      · exact (sI_j M _ (by decide)).trans hv0.1
      · exact (sI_j M _ (by decide)).trans hv0.2.1
      · rw [sI_e, hv0.2.2, nI_add]
        rfl
    · have a2 : ¬ tkk tp tl i = 2 := fun z => q2 ((ht 2).mpr z)
      have a10 : ¬ tkk tp tl i = 10 := fun z => q10 ((ht 10).mpr z)
      have a9 : tkk tp tl i = 9 := (ht 9).mp q
      rw [nI_c (by decide)]
      refine go _ 1 (by decide) (by omega) [(0, 0)] (fun _ => 0, 1, 0) ?_ fun v0 hv0 => ⟨?_, ?_, ?_⟩
      · unfold pPart
        rw [if_neg a2, if_neg a10, if_pos a9]
      · exact (sI_j M _ (by decide)).trans hv0.1
      · rw [sI_e, hv0.2.1, nI_add]
        rfl
      · exact (sI_j M _ (by decide)).trans hv0.2.2
    · have a2 : ¬ tkk tp tl i = 2 := fun z => q2 ((ht 2).mpr z)
      have a10 : tkk tp tl i = 10 := (ht 10).mp q
      rw [nI_c (by decide)]
      refine go _ 0 (by decide) (by omega) [(1, 0)] (fun T => T, 0, 0) ?_ fun v0 hv0 => ⟨?_, ?_, ?_⟩
      · unfold pPart
        rw [if_neg a2, if_pos a10]
      · rw [sI_e, hv0.1, hR.2.2, nI_add]
        rfl
      · exact (sI_j M _ (by decide)).trans hv0.2.1
      · exact (sI_j M _ (by decide)).trans hv0.2.2
    · rw [h2]
      exact nI_in2 (by omega) (by decide)
    · have a2 : tkk tp tl i = 2 := (ht 2).mp q
      rw [nI_c (by decide), h2, nI_c (by omega), (hR.2.1 i h3).2.1]
      refine go _ 0 (by decide) (by omega) [(11, nnk tp tl i)] (fun _ => nnk tp tl i, 0, 0) ?_ fun v0 hv0 => ⟨?_, ?_, ?_⟩
      · unfold pPart
        rw [if_pos a2]
      · rw [sI_e, hv0.1, nI_add]
        rfl
      · exact (sI_j M _ (by decide)).trans hv0.2.1
      · exact (sI_j M _ (by decide)).trans hv0.2.2
theorem k31 (h4 : tl ≤ 400) {x : Nat} (hx : x = 13320 ∨ x = 13321) {s : Nat ⊕ Nat} (hs : Sst tp tl N T s M) {Q : List Value → Mm → Prop} (k : ∀ M', CPO tp tl N T (lfS (pSum (tkk tp tl) (nnk tp tl)) s) (fun v => smAt x T v M') M' → Fr (aRx x) M M' → Q [] M') : SC (d + 3) 31 [.ref 192, .ref x] M Q := by
  obtain ⟨ar, ty, ln⟩ := x_ar hx
  have x1 : ∀ j, aX x 13313 j = false ∧ aX x 13314 j = false ∧ aX x 13315 j = false := by rcases hx with rfl | rfl <;> exact fun j => ⟨rfl, rfl, rfl⟩
  have x2 : ∀ j, aX x 192 j = false := by rcases hx with rfl | rfl <;> exact fun j => rfl
  have x3 : ∀ j, aRst x j = false := by rcases hx with rfl | rfl <;> exact fun j => rfl
  refine sC (by decide) rfl (go_in (e31_0 (useC (upC (c233 (d := d) ar ty (by rw [ln]; decide)) (by omega)) fun vs M0 h => ?_)))
  obtain ⟨rfl, hM0⟩ := h
  have hF0 : Fr (aX x) M M0 := fun a b q => by
    have : a ≠ x := fun e => by
      rw [e] at q
      unfold aX at q
      rw [Nat.beq_refl] at q
      cases q
    rw [hM0]
    exact ⟨if_neg fun z => this z.1, rfl, rfl⟩
  have hz : smAt x T (fun _ => 0, 0, 0) M0 := by
    rw [hM0, ln]
    exact ⟨if_pos ⟨rfl, by decide⟩, if_pos ⟨rfl, by decide⟩, if_pos ⟨rfl, by decide⟩⟩
  have hs0 : Sst tp tl N T s M0 := hs.of hF0 x1 x2
  have loop : ∀ n (r : PR SUM) M1, n ≤ 400 → CPO tp tl N T r (fun v => smAt x T v M1) M1 → Fr (aRx x) M M1 → (∀ M', CPO tp tl N T (bdP r fun i c v => pSumL (tkk tp tl) (nnk tp tl) n i c v) (fun v => smAt x T v M') M' → Fr (aRx x) M M' → Q [] M') → WM (d + 2) 31 Q 12 [some (.ref 192), some (.ref x), some (.int (nI (400 - n)))] [] M1 := by
    intro n
    induction n with
    | zero =>
      intro r M1 hn hr hF k
      have hE := isE_t hr.st
      have k2 : CPO tp tl N T r (fun v => smAt x T v M1) M1 → Fr (aRx x) M M1 → Q [] M1 := by
        have := k M1
        match r, this with
        | .inl e, this => exact this
        | .inr (j, c, v), this => exact this
      exact go_in (e31_12 ⟨hE, ⟨hE, rfl⟩, fun _ => go_in (e31_44 ⟨rfl, k2 hr hF⟩), fun _ => br_t (nI_le (by omega) (by decide)) (go_in (e31_44 ⟨rfl, k2 hr hF⟩))⟩)
    | succ n ih =>
      intro r M1 hn hr hF k
      have hE := isE_t hr.st
      match r, hr, k with
      | .inl e, hr, k =>
        exact go_in (e31_12 ⟨hE, ⟨hE, rfl⟩, fun _ => go_in (e31_44 ⟨rfl, k M1 hr hF⟩), fun q => absurd (hr.2.1.symm.trans q) (by decide)⟩)
      | .inr (i, c, v), hr, k =>
        have ht := fun j => th_q hr.1 (j := j)
        refine go_in (e31_12 ⟨hE, ⟨hE, rfl⟩, fun q => go_in (e31_44 ⟨rfl, k M1 ?_ hF⟩), fun q => br_f (nI_ge (by omega) (by decide)) ?_⟩)
        · show CPO tp tl N T (pSumL _ _ (n + 1) i c v) _ M1
          unfold pSumL
          rw [if_neg (show ¬ tkk tp tl i = 14 from fun z => q ((ht 14).mpr z))]
          exact hr
        · have q14 : tkk tp tl i = 14 := (ht 14).mp q
          refine upC (k36 (d := d) h4 hr.1 fun M2 g2 f2 => e31_33 ?_) (by omega)
          rw [stS_1 (by omega)] at g2
          refine k32 h4 hx g2 fun M3 g3 f3 => e31_38 ?_
          rw [nI_s, show 400 - (n + 1) + 1 = 400 - n by omega]
          refine ih (bdP (pPart (tkk tp tl) (nnk tp tl) (i + 1)) fun j d r => okP j (c ++ (d ++ [(12, 0)])) (adS v r)) M3 (by omega) ?_ (hF.tr ((f2.up fun k j => aRst_x).tr f3)) fun M' h' f' => k M' ?_ f'
          · have g3 : CPO tp tl N T (pPart (tkk tp tl) (nnk tp tl) (i + 1)) _ M3 := g3
            match pPart (tkk tp tl) (nnk tp tl) (i + 1), g3 with
            | .inl e, g3 => exact g3
            | .inr (j, d, r), g3 => exact ⟨g3.1, g3.2 v ⟨(f2 _ _ (x3 0)).1.trans hr.2.1, (f2 _ _ (x3 1)).1.trans hr.2.2.1, (f2 _ _ (x3 2)).1.trans hr.2.2.2⟩⟩
          · show CPO tp tl N T (pSumL _ _ (n + 1) i c v) _ M'
            unfold pSumL
            rw [if_pos q14]
            rw [bdP_a] at h'
            exact h'
  refine e31_5 (k32 h4 hx hs0 fun M1 g1 f1 => e31_10 ?_)
  refine loop 400 (lfS (pPart (tkk tp tl) (nnk tp tl)) s) M1 (Nat.le_refl _) ?_ ((hF0.up fun k j => aX_x).tr f1) fun M' h' f' => k M' ?_ f'
  · match s, g1 with
    | .inl e, g1 => exact g1
    | .inr i, g1 =>
      have g1 : CPO tp tl N T (pPart (tkk tp tl) (nnk tp tl) i) _ M1 := g1
      show CPO tp tl N T (pPart (tkk tp tl) (nnk tp tl) i) _ M1
      match pPart (tkk tp tl) (nnk tp tl) i, g1 with
      | .inl e, g1 => exact g1
      | .inr (j, c, v), g1 =>
        refine ⟨g1.1, ?_⟩
        have h := g1.2 _ hz
        have e : adS (fun _ => 0, 0, 0) v = v := by
          unfold adS
          simp only [Nat.zero_add]
        rw [e] at h
        exact h
  · match s, h' with
    | .inl e, h' => exact h'
    | .inr i, h' => exact h'
end CSM
