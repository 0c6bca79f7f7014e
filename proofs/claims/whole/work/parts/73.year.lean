/-! One year. y: 0 top, 2 farms, 3 least, 4 p, 5 q, 6 all parts, 7.. the parts; k: the leak. -/
def YR (y : Nat → Nat) (k : Int) (M : Mm) : Prop := (M.1 640 0 = nI (y 0) ∧ M.1 640 1 = iz k ∧ M.1 640 2 = nI (y 2) ∧ M.1 640 3 = nI (y 3)) ∧ (M.1 640 4 = nI (y 4) ∧ M.1 640 5 = nI (y 5) ∧ M.1 640 6 = nI (y 6)) ∧ (∀ r, r < 4 → M.1 41991 r = nI (y (7 + r)))
def YB (y : Nat → Nat) (k : Int) : Prop := (1 ≤ y 0 ∧ y 0 ≤ 7 ∧ -1 ≤ k ∧ k ≤ 7) ∧ (y 2 ≤ 3 ∧ y 3 ≤ 7) ∧ ((1 ≤ y 4 ∧ y 4 < y 5 ∧ y 5 ≤ 5) ∧ (1 ≤ y 6 ∧ y 6 ≤ 4 ∧ y 6 = y 7 + y 8 + y 9 + y 10))
/-- by farm, level and number -/
def FO (y : Nat → Nat) (c : Nat) (fo : Nat → Nat → Nat → Int) (M : Mm) : Prop := ∀ f l n, f < y 2 → l ≤ y 0 → n < 4 → M.1 c ((f * 8 + l) * 4 + n) = iz (fo f l n)
/-- by broken, level and farm -/
def WA (y : Nat → Nat) (wa : Nat → Nat → Nat → Nat) (M : Mm) : Prop := ∀ b l f, b < 2 → l ≤ y 0 → f < y 2 → M.1 41994 ((b * 8 + l) * 3 + f) = nI (wa b l f)
def WV (y : Nat → Nat) (v : Nat → Nat) (M : Mm) : Prop := ∀ f, f < y 2 → M.1 41995 f = nI (v f)
theorem y_part {y : Nat → Nat} {k : Int} (h : YB y k) : ∀ r, r < 4 → y (7 + r) ≤ 4 := fun r hr => by
  obtain ⟨-, -, -, h1, h2, h3⟩ := h
  rcases (show r = 0 ∨ r = 1 ∨ r = 2 ∨ r = 3 by omega) with q | q | q | q <;> subst q <;> simp only [Nat.add_zero, Nat.reduceAdd] <;> omega
/-- what is left of a for the farms from f on -/
def rst (v : Nat → Nat) (a : Nat) : Nat → Nat
  | 0 => a
  | f + 1 => rst v a f - min (v f) (rst v a f)
def gt (v : Nat → Nat) (a f : Nat) : Nat := min (v f) (rst v a f)
/-- the level behind the first f farms -/
def lw (v : Nat → Nat) (a l : Nat) : Nat → Nat
  | 0 => l
  | f + 1 => lw v a l f - gt v a f
theorem lw_ge {v : Nat → Nat} {a l : Nat} (h : a ≤ l) : ∀ f, rst v a f ≤ lw v a l f
  | 0 => h
  | f + 1 => by
    have := lw_ge (v := v) h f
    show rst v a f - min (v f) (rst v a f) ≤ lw v a l f - min (v f) (rst v a f)
    omega
theorem lw_le {v : Nat → Nat} {a l : Nat} : ∀ f, lw v a l f ≤ l
  | 0 => Nat.le_refl _
  | f + 1 => Nat.le_trans (Nat.sub_le _ _) (lw_le f)
theorem gt_le {v : Nat → Nat} {a f : Nat} : gt v a f ≤ v f := Nat.min_le_left _ _
theorem rst_le {v : Nat → Nat} {a : Nat} : ∀ f, rst v a f ≤ a
  | 0 => Nat.le_refl _
  | f + 1 => Nat.le_trans (Nat.sub_le _ _) (rst_le f)
def lkd (k : Int) (x : Nat) : Nat := if k = -1 then 0 else if (x : Int) ≤ k then 0 else 1
/-- the low level of a year at l, by the numbers v, of which F farms -/
def lowS (y : Nat → Nat) (k : Int) (v : Nat → Nat) (l : Nat) : Nat := lw v (l - y 3) l (y 2) - lkd k (lw v (l - y 3) l (y 2))
theorem lkd_le {k : Int} {x : Nat} (hk : -1 ≤ k) : lkd k x ≤ x ∧ lkd k x ≤ 1 := by
  unfold lkd
  split
  · omega
  · split <;> omega
theorem lowS_le {y : Nat → Nat} {k : Int} {v : Nat → Nat} {l : Nat} : lowS y k v l ≤ l := Nat.le_trans (Nat.sub_le _ _) (lw_le _)
def aPump (k j : Nat) : Bool := Nat.beq k 41996 || (Nat.beq k 640 && (Nat.beq j 13 || Nat.beq j 14))
def aWish (k _ : Nat) : Bool := Nat.beq k 41995
/-- what the pump leaves -/
def PU (y : Nat → Nat) (k : Int) (v : Nat → Nat) (l : Nat) (N : Mm) : Prop := (∀ f, f < y 2 → N.1 41996 f = nI (gt v (l - y 3) f)) ∧ N.1 640 13 = nI (lowS y k v l) ∧ N.1 640 14 = nI (lkd k (lw v (l - y 3) l (y 2)))
theorem YR.of {y : Nat → Nat} {k : Int} {P : Nat → Nat → Bool} {M N : Mm} (h : YR y k M) (hF : Fr P M N) (h0 : ∀ j, j < 7 → P 640 j = false) (h1 : ∀ j, P 41991 j = false) : YR y k N := by
  obtain ⟨⟨a0, a1, a2, a3⟩, ⟨a4, a5, a6⟩, a7⟩ := h
  refine ⟨⟨?_, ?_, ?_, ?_⟩, ⟨?_, ?_, ?_⟩, fun r hr => by rw [(hF _ _ (h1 r)).1]; exact a7 r hr⟩
  · rw [(hF _ _ (h0 0 (by decide))).1]; exact a0
  · rw [(hF _ _ (h0 1 (by decide))).1]; exact a1
  · rw [(hF _ _ (h0 2 (by decide))).1]; exact a2
  · rw [(hF _ _ (h0 3 (by decide))).1]; exact a3
  · rw [(hF _ _ (h0 4 (by decide))).1]; exact a4
  · rw [(hF _ _ (h0 5 (by decide))).1]; exact a5
  · rw [(hF _ _ (h0 6 (by decide))).1]; exact a6
theorem FO.of {y : Nat → Nat} {c : Nat} {fo : Nat → Nat → Nat → Int} {P : Nat → Nat → Bool} {M N : Mm} (h : FO y c fo M) (hF : Fr P M N) (h0 : ∀ j, P c j = false) : FO y c fo N := fun f l n hf hl hn => by rw [(hF _ _ (h0 _)).1]; exact h f l n hf hl hn
theorem WA.of {y : Nat → Nat} {wa : Nat → Nat → Nat → Nat} {P : Nat → Nat → Bool} {M N : Mm} (h : WA y wa M) (hF : Fr P M N) (h0 : ∀ j, P 41994 j = false) : WA y wa N := fun b l f hb hl hf => by rw [(hF _ _ (h0 _)).1]; exact h b l f hb hl hf
theorem aP_640 : ∀ j, j < 7 → aPump 640 j = false := by decide
theorem iz_nn (n : Nat) : iz (n : Int) = nI n := (iz_n n).symm
theorem i32_n {n : Nat} (h : n < 2147483648) : i32 (n : Int) := ⟨by omega, by omega⟩
theorem cpI_v (M : Mm) (x y sp dp n a b : Nat) : (cpI M x y sp dp n).1 a b = if a = y ∧ dp ≤ b ∧ b < dp + n then M.1 x (sp + (b - dp)) else M.1 a b := rfl
theorem cpJ_v (M : Mm) (x y sp dp n a b : Nat) : (cpJ M x y sp dp n).2.1 a b = if a = y ∧ dp ≤ b ∧ b < dp + n then M.2.1 x (sp + (b - dp)) else M.2.1 a b := rfl
section YE
variable {d : Nat} {M : Mm} {y : Nat → Nat} {k : Int}
theorem c62 {l b : Nat} : SC (d + 1) 62 [.int (nI l), .int (nI b)] M (fun vs N => vs = [.int (nI ((b * 8 + l) * 3))] ∧ N = M) :=
  sC (by decide) rfl (go_in (e62_0 ⟨rfl, by rw [nI_mul, nI_add, nI_mul], rfl⟩))
theorem c72 (hy : YR y k M) (hb : YB y k) {a r : Nat} (ha : a ≤ 100) (hr : r ≤ 100) : SC (d + 2) 72 [.ref 640, .int (nI a), .int (nI r)] M (fun vs N => vs = [.int (nI (min (y 0) (a + r)))] ∧ N = M) := by
  have h0 : y 0 ≤ 7 := hb.1.2.1
  refine sC (by decide) rfl (go_in (e72_0 ?_))
  rw [hy.1.1, nI_add, iz_n, iz_n]
  refine useC (c231 (i32_n (by omega)) (i32_n (by omega))) fun vs N h => ?_
  obtain ⟨rfl, rfl⟩ := h
  rw [show min ((y 0 : Nat) : Int) ((a + r : Nat) : Int) = ((min (y 0) (a + r) : Nat) : Int) by omega, iz_nn]
  exact e72_10 ⟨rfl, rfl, rfl⟩
theorem c63 {wa : Nat → Nat → Nat → Nat} (hb : YB y k) (hw : WA y wa M) {f l b : Nat} (hf : f < y 2) (hl : l ≤ y 0) (hbb : b < 2) : SC (d + 2) 63 [.ref 640, .int (nI f), .int (nI l), .int (nI b)] M (fun vs N => vs = [.int (nI (wa b l f))] ∧ N = M) := by
  obtain ⟨⟨h1, h2, h3, h4⟩, ⟨h5, h6⟩, -⟩ := hb
  refine sC (by decide) rfl (go_in (e63_0 (useC c62 fun vs N h => ?_)))
  obtain ⟨rfl, rfl⟩ := h
  refine e63_9 ⟨by rw [nI_add]; exact nI_in2 (by omega) (by decide), rfl, ?_, rfl⟩
  rw [nI_add, nI_c (by omega), hw b l f hbb hl hf]
theorem c67 {wa : Nat → Nat → Nat → Nat} (hb : YB y k) (hw : WA y wa M) {l b : Nat} (hl : l ≤ y 0) (hbb : b < 2) : SC (d + 2) 67 [.ref 640, .int (nI l), .int (nI b)] M (fun vs N => vs = [] ∧ Fr aWish M N ∧ WV y (wa b l) N) := by
  obtain ⟨⟨h1, h2, h3, h4⟩, ⟨h5, h6⟩, -⟩ := hb
  refine sC (by decide) rfl (go_in (e67_0 (useC c62 fun vs N h => ?_)))
  obtain ⟨rfl, rfl⟩ := h
  refine e67_9 ⟨⟨nI_pos (by omega), by decide, by decide, ?_, by decide⟩, rfl, rfl, ?_, ?_⟩
  · rw [nI_c (by omega), show (nI 3).toNatClampNeg = 3 by decide]; omega
  · exact Fr.rf.cpI (fun b _ _ => rfl)
  · intro f hf
    rw [cpI_v, nI_c (a := 0) (by decide), nI_c (a := 3) (by decide), nI_c (by omega), if_pos (by omega), Nat.sub_zero]
    exact hw b l f hbb hl hf
theorem c70 {fo : Nat → Nat → Nat → Int} (hb : YB y k) (hfo : FO y 41992 fo M) {f l n : Nat} (hf : f < y 2) (hl : l ≤ y 0) (hn : n < 4) (hg : M.1 41996 f = nI n) : SC (d + 1) 70 [.ref 640, .int (nI f), .int (nI l)] M (fun vs N => vs = [.int (iz (fo f l n))] ∧ N = M) := by
  obtain ⟨⟨h1, h2, h3, h4⟩, ⟨h5, h6⟩, -⟩ := hb
  refine sC (by decide) rfl (go_in (e70_0 ⟨nI_in2 (by omega) (by decide), ?_, rfl, ?_, rfl⟩))
  · rw [nI_c (by omega), hg, nI_mul, nI_add, nI_mul, nI_add]
    exact nI_in2 (by omega) (by decide)
  · rw [nI_c (a := f) (by omega), hg, nI_mul, nI_add, nI_mul, nI_add, nI_c (by omega), hfo f l n hf hl hn]
theorem c71 {fo : Nat → Nat → Nat → Int} (hb : YB y k) (hfo : FO y 41993 fo M) {f l n : Nat} (hf : f < y 2) (hl : l ≤ y 0) (hn : n < 4) (hg : M.1 41996 f = nI n) : SC (d + 1) 71 [.ref 640, .int (nI f), .int (nI l)] M (fun vs N => vs = [.int (iz (fo f l n))] ∧ N = M) := by
  obtain ⟨⟨h1, h2, h3, h4⟩, ⟨h5, h6⟩, -⟩ := hb
  refine sC (by decide) rfl (go_in (e71_0 ⟨nI_in2 (by omega) (by decide), ?_, rfl, ?_, rfl⟩))
  · rw [nI_c (by omega), hg, nI_mul, nI_add, nI_mul, nI_add]
    exact nI_in2 (by omega) (by decide)
  · rw [nI_c (a := f) (by omega), hg, nI_mul, nI_add, nI_mul, nI_add, nI_c (by omega), hfo f l n hf hl hn]
theorem c77 (hy : YR y k M) (hb : YB y k) {f : Nat} (hf : f < y 2) : SC (d + 1) 77 [.ref 640, .int (nI f)] M (fun vs N => vs = [.int (nI (2 * (y 2 - 1 - f)))] ∧ N = M) := by
  have := hb.2.1.1
  refine sC (by decide) rfl (go_in (e77_0 ⟨rfl, ?_, rfl⟩))
  rw [hy.1.2.2.1, nI_sub (by omega), nI_sub (by omega), nI_mul]
theorem shr_w : ∀ w, w < 64 → ∀ s, s < 3 → ((nI w >>> (nI (2 * s) &&& 31)) &&& (nI 3)) = nI (w / 4 ^ s % 4) := by decide +kernel
/-- the number of farm f in a way of F farms -/
def wnr (F w f : Nat) : Nat := w / 4 ^ (F - 1 - f) % 4
theorem c76 (hy : YR y k M) (hb : YB y k) {w f : Nat} (hw : w < 64) (hf : f < y 2) : SC (d + 2) 76 [.ref 640, .int (nI w), .int (nI f)] M (fun vs N => vs = [.int (nI (wnr (y 2) w f))] ∧ N = M) := by
  have := hb.2.1.1
  refine sC (by decide) rfl (go_in (e76_0 (useC (c77 hy hb hf) fun vs N h => ?_)))
  obtain ⟨rfl, rfl⟩ := h
  exact e76_6 ⟨rfl, by rw [shr_w w hw _ (by omega)]; rfl, rfl⟩
theorem shl_w : ∀ f, f < 4 → ((nI 1) <<< ((nI (2 * f)) &&& 31)) = nI (4 ^ f) := by decide +kernel
theorem c78 (hy : YR y k M) (hb : YB y k) : SC (d + 1) 78 [.ref 640] M (fun vs N => vs = [.int (nI (4 ^ y 2))] ∧ N = M) := by
  have := hb.2.1.1
  refine sC (by decide) rfl (go_in (e78_0 ⟨rfl, ?_, rfl⟩))
  rw [hy.1.2.2.1, nI_mul, shl_w _ (by omega)]
theorem c75 (hy : YR y k M) (hb : YB y k) {w : Nat} (hw : w < 64) : SC (d + 3) 75 [.ref 640, .int (nI w)] M (fun vs N => vs = [] ∧ Fr aWish M N ∧ WV y (wnr (y 2) w) N) := by
  have hF := hb.2.1.1
  refine sC (by decide) rfl (go_in (e75_0 ?_))
  have loop : ∀ k' f N, f + k' = y 2 → Fr aWish M N → (∀ g, g < f → N.1 41995 g = nI (wnr (y 2) w g)) → Wp (SC (d + 2)) (ST (d + 2)) (RP (fun vs N => vs = [] ∧ Fr aWish M N ∧ WV y (wnr (y 2) w) N)) hdN (txOf 75) 0 2 [some (.ref 640), some (.int (nI w)), some (.int (nI f))] [] N := by
    intro k'
    induction k' with
    | zero =>
      intro f N hi hN hg
      have hi : f = y 2 := by omega
      have hyN := hy.of hN (fun j hj => rfl) (fun j => rfl)
      refine go_in (e75_2 ⟨fun _ => go_in (e75_28 ⟨rfl, rfl, hN, fun g h => hg g (by omega)⟩), fun q => absurd ?_ q⟩)
      rw [hyN.1.2.2.1, hi]
      exact (nI_leI (by omega) (by omega)).mpr (Nat.le_refl _)
    | succ k' ih =>
      intro f N hi hN hg
      have hyN := hy.of hN (fun j hj => rfl) (fun j => rfl)
      refine go_in (e75_2 ⟨fun q => absurd ?_ (show ¬ (y 2 ≤ f) by omega), fun _ => useC (c76 hyN hb hw (show f < y 2 by omega)) fun vs N2 h => ?_⟩)
      · rw [hyN.1.2.2.1] at q
        exact (nI_leI (by omega) (by omega)).mp q
      · obtain ⟨rfl, rfl⟩ := h
        refine e75_21 ⟨nI_in2 (by omega) (by decide), ?_⟩
        rw [nI_s, nI_c (by omega)]
        refine ih (f + 1) _ (by omega) (hN.sI rfl) fun g hgl => ?_
        rw [sI_v]
        by_cases e : g = f
        · subst e; simp
        · rw [if_neg (by omega)]; exact hg g (by omega)
  exact loop (y 2) 0 M (by omega) Fr.rf (fun g h => absurd h (Nat.not_lt_zero g))
end YE
