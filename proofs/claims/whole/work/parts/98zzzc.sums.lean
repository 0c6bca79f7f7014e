/-! The class reads sums. -/
def aRx (x k j : Nat) : Bool := aRst k j || Nat.beq k x
def smAt (x T : Nat) (v : SUM) (M : Mm) : Prop := M.1 x 0 = nI (v.1 T) ∧ M.1 x 1 = nI v.2.1 ∧ M.1 x 2 = nI v.2.2
theorem Sst.of {tp : Nat → Int} {tl N T : Nat} {s : Nat ⊕ Nat} {P : Nat → Nat → Bool} {M M' : Mm} (h : Sst tp tl N T s M) (hF : Fr P M M') (h1 : ∀ j, P 13313 j = false ∧ P 13314 j = false ∧ P 13315 j = false) (h2 : ∀ j, P 192 j = false) : Sst tp tl N T s M' := by
  refine ⟨h.1.of hF h1 (h2 6), ?_⟩
  match s, h with
  | .inl e, h => exact ⟨(hF _ _ (h2 5)).2.2.trans h.2.1, by obtain ⟨a, q1, q2⟩ := h.2.2.1; exact ⟨a, (hF _ _ (h2 4)).1.trans q1, q2⟩, (hF _ _ (h2 7)).1.trans h.2.2.2.1, h.2.2.2.2⟩
  | .inr i, h => exact ⟨(hF _ _ (h2 5)).2.2.trans h.2.1, (hF _ _ (h2 4)).1.trans h.2.2.1, h.2.2.2.1, (hF _ _ (h2 7)).1.trans h.2.2.2.2⟩
theorem bdP_a {σ τ υ : Type} (p : PR σ) (k : Nat → List (Nat × Nat) → σ → PR τ) (k2 : Nat → List (Nat × Nat) → τ → PR υ) : bdP (bdP p k) k2 = bdP p fun j c s => bdP (k j c s) k2 := by
  match p with
  | .inl e => rfl
  | .inr (j, c, s) => rfl
section CSM
variable {d : Nat} {M : Mm} {tp : Nat → Int} {tl N T : Nat}
/-- a result, with what holds of it -/
def CPO {σ : Type} (tp : Nat → Int) (tl N T : Nat) (r : PR σ) (G : σ → Prop) (M : Mm) : Prop := match r with
  | .inl e => Sst tp tl N T (.inl e) M
  | .inr (j, _, v) => Sst tp tl N T (.inr j) M ∧ G v
theorem CPO.st {σ : Type} {r : PR σ} {G : σ → Prop} (h : CPO tp tl N T r G M) : Sst tp tl N T (psS r) M := by
  match r, h with
  | .inl e, h => exact h
  | .inr (j, c, v), h => exact h.1
theorem x_ar {x : Nat} (hx : x = 13320 ∨ x = 13321) : isAr x = true ∧ typ x = 1 ∧ len x = 3 := by
  rcases hx with rfl | rfl <;> exact ⟨rfl, rfl, rfl⟩
theorem aRx_f {x : Nat} (hx : x = 13320 ∨ x = 13321) : (∀ j, aRx x 13313 j = false ∧ aRx x 13314 j = false ∧ aRx x 13315 j = false) := by
  rcases hx with rfl | rfl <;> exact fun j => ⟨rfl, rfl, rfl⟩
theorem aRst_x {x k j : Nat} (h : aRst k j = true) : aRx x k j = true := by
  unfold aRx
  rw [h]
  rfl
def aX (x k _ : Nat) : Bool := Nat.beq k x
theorem aX_x {x k j : Nat} (h : aX x k j = true) : aRx x k j = true := by
  unfold aX at h
  unfold aRx
  rw [h, Bool.or_true]
theorem adS_0 (v : SUM) : adS (fun _ => 0, 0, 0) v = v := by
  unfold adS
  simp only [Nat.zero_add]
theorem k31 (h4 : tl ≤ 400) {x : Nat} (hx : x = 13320 ∨ x = 13321) {s : Nat ⊕ Nat} (hs : Sst tp tl N T s M) {Q : List Value → Mm → Prop} (k : ∀ M', CPO tp tl N T (lfS (pSum (tkk tp tl) (nnk tp tl)) s) (fun v => smAt x T v M') M' → Fr (aRx x) M M' → Q [] M') : SC (d + 3) 31 [.ref 192, .ref x] M Q := by
  obtain ⟨ar, ty, ln⟩ := x_ar hx
  have hn4 := hs.1.1.le h4
  have x1 : ∀ j, aX x 13313 j = false ∧ aX x 13314 j = false ∧ aX x 13315 j = false := by rcases hx with rfl | rfl <;> exact fun j => ⟨rfl, rfl, rfl⟩
  have x2 : ∀ j, aX x 192 j = false := by rcases hx with rfl | rfl <;> exact fun j => rfl
  have x3 : ∀ j, aRst x j = false := by rcases hx with rfl | rfl <;> exact fun j => rfl
  have A : ∀ n, n < 3 → isAr x = true ∧ typ x = 1 ∧ vp_in (nI n) (len x) := fun n hn => ⟨ar, ty, by rw [ln]; exact nI_in2 hn (by decide)⟩
  have hX : ∀ (M1 : Mm) (v : Int32), ∀ i, Fr (aX x) M1 (sI M1 x i v) := fun M1 v i => Fr.rf.sI (by unfold aX; exact Nat.beq_refl x)
  have ret0 : ∀ (t : Int32) M1, Q [] M1 → WM (d + 2) 31 Q 9 [some (.ref 192), some (.ref x), some (.int (nI 0)), some (.int t)] [] M1 := fun t M1 h => go_in (e31_9 ⟨fun _ => go_in (e31_149 ⟨rfl, h⟩), fun q => absurd rfl q⟩)
  have bad : ∀ (o : Option Value) (t : Int32) (i0 : Nat) (s : Nat ⊕ Nat) M1, reS s = .inl i0 → Sst tp tl N T s M1 → (∀ M2, Sst tp tl N T (.inl i0) M2 → Fr (aRx x) M1 M2 → Q [] M2) → WM (d + 2) 31 Q 111 [some (.ref 192), some (.ref x), o, some (.int t)] [] M1 := fun o t i0 s M1 h1 hs k => by
    refine go_in (e31_111 (k35 h4 hs fun M2 g1 f1 => ?_))
    rw [h1] at g1
    refine e31_115_1 (k36 h4 g1 fun M3 g2 f2 => ?_)
    have g2 : Sst tp tl N T (.inl i0) M3 := g2
    exact e31_119 ⟨isE_t g2, ⟨isE_t g2, rfl⟩, fun _ => go_in (e31_133 (go_in (e31_134 ⟨fun _ => go_in (e31_143 (ret0 _ _ (k M3 g2 ((f1.tr f2).up fun k j => aRst_x)))), fun q => absurd rfl q⟩))), fun q => absurd ((th_q g2 (j := 14)).mp q) (show ¬ (0 : Nat) = 14 by decide)⟩
  refine sC (by decide) rfl (go_in (e31_0 (useC (upC (c233 (d := d) ar ty (by rw [ln]; decide)) (by omega)) fun vs M0 h => ?_)))
  obtain ⟨rfl, hM0⟩ := h
  have hF0 : Fr (aX x) M M0 := fun a b q => by
    have : a ≠ x := fun e => by
      rw [e] at q
      unfold aX at q
      rw [Nat.beq_refl] at q
      cases q
    rw [hM0]
    exact ⟨if_neg fun z => this z.1, rfl, rfl⟩
  have hz : smAt x T (fun _ => 0, 0, 0) M0 := by
    rw [hM0, ln]
    exact ⟨if_pos ⟨rfl, by decide⟩, if_pos ⟨rfl, by decide⟩, if_pos ⟨rfl, by decide⟩⟩
  have hs0 : Sst tp tl N T s M0 := hs.of hF0 x1 x2
  have loop : ∀ n i (f : List (Nat × Nat) → List (Nat × Nat)) (v0 : SUM) M1, n ≤ 400 → 2 * (400 - n) ≤ i → Sst tp tl N T (.inr i) M1 → smAt x T v0 M1 → Fr (aRx x) M M1 → (∀ M', CPO tp tl N T (bdP (pPart (tkk tp tl) (nnk tp tl) i) fun j c w => pSumL (tkk tp tl) (nnk tp tl) n j (f c) (adS v0 w)) (fun v => smAt x T v M') M' → Fr (aRx x) M M' → Q [] M') → WM (d + 2) 31 Q 9 [some (.ref 192), some (.ref x), some (.int (nI 1)), some (.int (nI (400 - n)))] [] M1 := by
    intro n
    induction n with
    | zero =>
      intro i f v0 M1 hn hi hs1 hv0 hF k
      have := hs1.2.2.2.1
      omega
    | succ n ih =>
      intro i f v0 M1 hn hi hs1 hv0 hF k
      have hE := isE_t hs1
      obtain ⟨hR, h1, h2, h3, h7⟩ := id hs1
      have ht : ∀ j, M1.2.2 192 5 = 70100 + j ↔ tkk tp tl i = j := fun j => th_q hs1
      have go : ∀ (o : Option Value) (v : Int32) (m : Nat), m < 3 → tkk tp tl i ≠ 0 → ∀ (c : List (Nat × Nat)) (sv : SUM), pPart (tkk tp tl) (nnk tp tl) i = okP (i + 1) c sv → smAt x T (adS v0 sv) (sI M1 x m v) → WM (d + 2) 31 Q 115 [some (.ref 192), some (.ref x), o, some (.int (nI (400 - (n + 1))))] [] (sI M1 x m v) := fun o v m hm h0 c sv hp hv => by
        have hs2 : Sst tp tl N T (.inr i) (sI M1 x m v) := hs1.of (hX M1 v m) x1 x2
        refine go_in (e31_115 (k36 h4 hs2 fun M2 g2 f2 => ?_))
        rw [stS_1 h0] at g2
        have hv2 : smAt x T (adS v0 sv) M2 := ⟨(f2 _ _ (x3 0)).1.trans hv.1, (f2 _ _ (x3 1)).1.trans hv.2.1, (f2 _ _ (x3 2)).1.trans hv.2.2⟩
        have hF2 : Fr (aRx x) M M2 := hF.tr (((hX M1 v m).up fun k j => aX_x).tr (f2.up fun k j => aRst_x))
        have ht2 : ∀ j, M2.2.2 192 5 = 70100 + j ↔ tkk tp tl (i + 1) = j := fun j => th_q g2
        rw [hp] at k
        refine e31_119 ⟨isE_t g2, ⟨isE_t g2, rfl⟩, fun q => go_in (e31_133 (go_in (e31_134 ⟨fun _ => go_in (e31_143 (ret0 _ _ (k M2 ?_ hF2))), fun q => absurd rfl q⟩))), fun q => go_in (e31_134 ⟨fun q => absurd q (by decide), fun _ => k36 h4 g2 fun M3 g3 f3 => e31_143_1 ?_⟩)⟩
        · show CPO tp tl N T (pSumL (tkk tp tl) (nnk tp tl) (n + 1) (i + 1) (f c) (adS v0 sv)) _ M2
          unfold pSumL
          rw [if_neg (show ¬ tkk tp tl (i + 1) = 14 from fun z => q ((ht2 14).mpr z))]
          exact ⟨g2, hv2⟩
        · have q14 : tkk tp tl (i + 1) = 14 := (ht2 14).mp q
          rw [stS_1 (by omega)] at g3
          rw [nI_s, show 400 - (n + 1) + 1 = 400 - n by omega]
          refine ih (i + 1 + 1) (fun d => f c ++ (d ++ [(12, 0)])) (adS v0 sv) M3 (by omega) (by omega) g3 ⟨(f3 _ _ (x3 0)).1.trans hv2.1, (f3 _ _ (x3 1)).1.trans hv2.2.1, (f3 _ _ (x3 2)).1.trans hv2.2.2⟩ (hF2.tr (f3.up fun k j => aRst_x)) fun M' h' f' => k M' ?_ f'
          show CPO tp tl N T (pSumL (tkk tp tl) (nnk tp tl) (n + 1) (i + 1) (f c) (adS v0 sv)) _ M'
          unfold pSumL
          rw [if_pos q14]
          exact h'
      refine go_in (e31_9 ⟨fun q => absurd q (by decide), fun _ => br_f (nI_ge (by omega) (by decide)) ⟨hE, ⟨hE, rfl⟩, fun q2 => go_in (e31_48 ⟨hE, ⟨hE, rfl⟩, fun q10 => go_in (e31_71 ⟨hE, ⟨hE, rfl⟩, fun q9 => go_in (e31_91 ⟨hE, ⟨hE, rfl⟩, fun q11 => bad _ _ i (.inr i) M1 rfl hs1 fun M2 g2 f2 => k M2 ?_ (hF.tr f2), fun q => ⟨A 2 (by decide), A 2 (by decide), ?_⟩⟩), fun q => ⟨A 1 (by decide), A 1 (by decide), ?_⟩⟩), fun q => ⟨A 0 (by decide), A 0 (by decide), ?_⟩⟩), fun q => ⟨A 0 (by decide), ?_, A 0 (by decide), ?_⟩⟩⟩)
      · have a2 : ¬ tkk tp tl i = 2 := fun z => q2 ((ht 2).mpr z)
        have a10 : ¬ tkk tp tl i = 10 := fun z => q10 ((ht 10).mpr z)
        have a9 : ¬ tkk tp tl i = 9 := fun z => q9 ((ht 9).mpr z)
        have a11 : ¬ tkk tp tl i = 11 := fun z => q11 ((ht 11).mpr z)
        have hp : pPart (tkk tp tl) (nnk tp tl) i = .inl i := by
          unfold pPart
          rw [if_neg a2, if_neg a10, if_neg a9, if_neg a11]
        rw [hp]
        exact g2
      · have a2 : ¬ tkk tp tl i = 2 := fun z => q2 ((ht 2).mpr z)
        have a10 : ¬ tkk tp tl i = 10 := fun z => q10 ((ht 10).mpr z)
        have a9 : ¬ tkk tp tl i = 9 := fun z => q9 ((ht 9).mpr z)
        have a11 : tkk tp tl i = 11 := (ht 11).mp q
        rw [nI_c (by decide)]
        refine go _ _ 2 (by decide) (by omega) [(2, 0)] (fun _ => 0, 0, 1) ?_ ⟨?_, ?_, ?_⟩
        · unfold pPart
          rw [if_neg a2, if_neg a10, if_neg a9, if_pos a11]
        · exact (sI_j M1 _ (by decide)).trans hv0.1
        · exact (sI_j M1 _ (by decide)).trans hv0.2.1
        · rw [sI_e, hv0.2.2, nI_add]
          rfl
      · have a2 : ¬ tkk tp tl i = 2 := fun z => q2 ((ht 2).mpr z)
        have a10 : ¬ tkk tp tl i = 10 := fun z => q10 ((ht 10).mpr z)
        have a9 : tkk tp tl i = 9 := (ht 9).mp q
        rw [nI_c (by decide)]
        refine go _ _ 1 (by decide) (by omega) [(0, 0)] (fun _ => 0, 1, 0) ?_ ⟨?_, ?_, ?_⟩
        · unfold pPart
          rw [if_neg a2, if_neg a10, if_pos a9]
        · exact (sI_j M1 _ (by decide)).trans hv0.1
        · rw [sI_e, hv0.2.1, nI_add]
          rfl
        · exact (sI_j M1 _ (by decide)).trans hv0.2.2
      · have a2 : ¬ tkk tp tl i = 2 := fun z => q2 ((ht 2).mpr z)
        have a10 : tkk tp tl i = 10 := (ht 10).mp q
        rw [nI_c (by decide)]
        refine go _ _ 0 (by decide) (by omega) [(1, 0)] (fun T => T, 0, 0) ?_ ⟨?_, ?_, ?_⟩
        · unfold pPart
          rw [if_neg a2, if_pos a10]
        · rw [sI_e, hv0.1, hR.2.2, nI_add]
          rfl
        · exact (sI_j M1 _ (by decide)).trans hv0.2.1
        · exact (sI_j M1 _ (by decide)).trans hv0.2.2
      · rw [h2]
        exact nI_in2 (by omega) (by decide)
      · have a2 : tkk tp tl i = 2 := (ht 2).mp q
        rw [nI_c (by decide), h2, nI_c (by omega), (hR.2.1 i h3).2.1]
        refine go _ _ 0 (by decide) (by omega) [(11, nnk tp tl i)] (fun _ => nnk tp tl i, 0, 0) ?_ ⟨?_, ?_, ?_⟩
        · unfold pPart
          rw [if_pos a2]
        · rw [sI_e, hv0.1, nI_add]
          rfl
        · exact (sI_j M1 _ (by decide)).trans hv0.2.1
        · exact (sI_j M1 _ (by decide)).trans hv0.2.2
  refine e31_5 ?_
  match s, hs0, k with
  | .inl e, hs0, k =>
    have hE := isE_t hs0
    have hq : ∀ j, 0 < j → ¬ M0.2.2 192 5 = 70100 + j := fun j hj => by rw [hs0.2.1]; omega
    exact go_in (e31_9 ⟨fun q => absurd q (by decide), fun _ => br_f (nI_ge (by decide) (by decide)) ⟨hE, ⟨hE, rfl⟩, fun q2 => go_in (e31_48 ⟨hE, ⟨hE, rfl⟩, fun q10 => go_in (e31_71 ⟨hE, ⟨hE, rfl⟩, fun q9 => go_in (e31_91 ⟨hE, ⟨hE, rfl⟩, fun q11 => bad _ _ e (.inl e) M0 rfl hs0 fun M2 g2 f2 => k M2 g2 ((hF0.up fun k j => aX_x).tr f2), fun q => absurd q (hq 11 (by decide))⟩), fun q => absurd q (hq 9 (by decide))⟩), fun q => absurd q (hq 10 (by decide))⟩), fun q => absurd q (hq 2 (by decide))⟩⟩)
  | .inr i, hs0, k =>
    refine loop 400 i id (fun _ => 0, 0, 0) M0 (Nat.le_refl _) (by omega) hs0 hz (hF0.up fun k j => aX_x) fun M' h' f' => k M' ?_ f'
    simp only [adS_0] at h'
    exact h'
end CSM
