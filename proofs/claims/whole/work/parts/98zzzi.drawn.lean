/-! The class reads the whole text for every top; a draw is told. -/
def RdOK (ls : LNS) (M : Mm) : Prop := ∀ T, 1 ≤ T → T ≤ 7 → BM (lnT g0v T ls (fun _ => true)) (M.2.1 13322 ((T - 1) * 2)) ∧ BM (lnT g1v T ls (fun _ => true)) (M.2.1 13322 ((T - 1) * 2 + 1))
def aDrw (k j : Nat) : Bool := aRead k j || ((Nat.beq k 704 && Nat.beq j 11) || (Nat.beq k 384 || inO 512 k))
section CR
variable {d : Nat} {tp : Nat → Int} {tl : Nat} {w : Nat → Nat} {ta : Nat → Nat → Nat → Nat}
theorem aRdl_r {T k j : Nat} (h : aRdl T k j = true) : aRead k j = true := by
  unfold aRdl aRdd aRst aTl at h
  unfold aRead
  simp only [Bool.or_eq_true, Bool.and_eq_true, Nat.beq_eq, Nat.ble_eq] at h ⊢
  omega
theorem aPt_r {k j : Nat} (h : aPt k j = true) : aRead k j = true := by
  unfold aPt at h
  unfold aRead
  simp only [Bool.or_eq_true, Bool.and_eq_true, Nat.beq_eq, Nat.ble_eq] at h ⊢
  omega
/-- the answer of the reading -/
def RdA (tp : Nat → Int) (tl : Nat) (y : Int32) (M : Mm) : Prop := match pText (tkk tp tl) (nnk tp tl) with
  | .inl e => y = nI (bgk tp tl e)
  | .inr (_, _, ls) => y = iz (-1) ∧ RdOK ls M
theorem k20 {M : Mm} (hC : CTp tl tp M) {Q : List Value → Mm → Prop} (k : ∀ y M', RdA tp tl y M' → Fr aRead M M' → Q [.int y] M') : SC (d + 28) 20 [.ref 192] M Q := by
  have h4 := hC.2.1
  have hbk : ∀ e, bgk tp tl e ≤ 400 := fun e => Nat.le_trans (bgk_le e) h4
  refine sC (by decide) rfl (go_in (e20_0 (useC (upC (c21 (d := d) hC) (by omega)) fun vs M0 h => ?_)))
  obtain ⟨rfl, ⟨N, hNk, hA⟩, hF0⟩ := h
  have hN : NOK tp tl N := hNk
  have hn := hN.le h4
  have f0 : Fr aRead M M0 := hF0.up fun k j => aPt_r
  have loop : ∀ m T M1, T + m = 8 → 1 ≤ T → RdC tp tl N T M1 → M1.1 192 7 = iz (-1) → (∀ ls j c, 1 < T → pText (tkk tp tl) (nnk tp tl) = okP j c ls → ∀ T', 1 ≤ T' → T' < T → BM (lnT g0v T' ls (fun _ => true)) (M1.2.1 13322 ((T' - 1) * 2)) ∧ BM (lnT g1v T' ls (fun _ => true)) (M1.2.1 13322 ((T' - 1) * 2 + 1))) → (1 < T → ∃ j c ls, pText (tkk tp tl) (nnk tp tl) = okP j c ls) → Fr aRead M M1 → WM (d + 27) 20 Q 14 [some (.ref 192)] [] M1 := by
    intro m
    induction m with
    | zero =>
      intro T M1 hT hT1 hR h7 hL hO hF
      have hT : T = 8 := by omega
      subst hT
      refine go_in (e20_14 ?_)
      rw [hR.2.2]
      refine br_t (nI_lt (by decide) (by decide)) (go_in (e20_63 ⟨rfl, k _ M1 ?_ hF⟩))
      obtain ⟨j, c, ls, hp⟩ := hO (by decide)
      unfold RdA
      rw [hp]
      exact ⟨h7, fun T' a b => hL ls j c (by decide) hp T' a (by omega)⟩
    | succ m ih =>
      intro T M1 hT hT1 hR h7 hL hO hF
      refine go_in (e20_14 ?_)
      rw [hR.2.2, h7]
      refine br_f (nI_nlt (by omega) (by decide)) ⟨fun q => absurd rfl q, fun _ => ?_⟩
      have h00 := (hR.2.1 0 (Nat.zero_le _)).1
      have e00 : (sI M1 192 4 (nI 0)).2.2 13313 (nI 0).toNatClampNeg = 70100 + tkk tp tl 0 := h00
      rw [e00]
      have hE := (isE_j _ (tkk_lt (tp := tp) (tl := tl) (i := 0))).1
      obtain ⟨M2, hM2⟩ : ∃ M2, M2 = sR (sI M1 192 4 (nI 0)) 192 5 (70100 + tkk tp tl 0) := ⟨_, rfl⟩
      have f2 : Fr aRst M1 M2 := by
        rw [hM2]
        exact (Fr.rf.sI rfl).sR rfl
      have hs : Sst tp tl N T (.inr 0) M2 := by
        refine ⟨hR.of f2 (fun j => ⟨rfl, rfl, rfl⟩) rfl, ?_⟩
        rw [hM2]
        exact ⟨sR_at _ _ _ _, (show (sI M1 192 4 (nI 0)).1 192 4 = nI 0 from sI_e _ _ _ _), Nat.zero_le _, (show (sI M1 192 4 (nI 0)).1 192 7 = iz (-1) from (sI_j M1 _ (by decide)).trans h7)⟩
      rw [← hM2]
      refine ⟨nI_in2 (by decide) (by decide), hE, hE, k25 h4 ⟨hT1, by omega⟩ hs fun M3 g3 f3 => e20_50 ?_⟩
      have hR3 := g3.st.1
      rw [hR3.2.2, nI_add]
      have f13 : Fr aRead M M3 := hF.tr ((f2.up fun k j q => aRdl_r (T := T) (by unfold aRdl; rw [aRst_dd q]; rfl)).tr (f3.up fun k j => aRdl_r))
      have hR4 : RdC tp tl N (T + 1) (sI M3 192 6 (nI (T + 1))) := ⟨hN, fun j hj => by rw [sI_k _ _ (by decide), sI_k _ _ (by decide)]; exact hR3.2.1 j hj, sI_e _ _ _ _⟩
      match hp : pText (tkk tp tl) (nnk tp tl), g3 with
      | .inl e, g3 =>
        have g3 : Sst tp tl N T (.inl e) M3 := g3
        have h7e : (sI M3 192 6 (nI (T + 1))).1 192 7 = nI (bgk tp tl e) := (sI_j _ _ (by decide)).trans g3.2.2.2.1
        have hbe := hbk e
        have out : WM (d + 27) 20 Q 63 [some (.ref 192)] [] (sI M3 192 6 (nI (T + 1))) := by
          refine go_in (e20_63 ⟨rfl, k _ _ ?_ (f13.sI rfl)⟩)
          unfold RdA
          rw [hp]
          exact h7e
        refine go_in (e20_14 ⟨fun _ => out, fun _ => ⟨fun _ => out, fun q => absurd q ?_⟩⟩)
        rw [h7e, nI_neg1, iz_n, iz_eq (i32_n (by omega)) ⟨by decide, by decide⟩]
        omega
      | .inr (j, c, ls), g3 =>
        obtain ⟨g3, b0, b1⟩ := g3
        refine ih (T + 1) _ (by omega) (by omega) hR4 ((sI_j _ _ (by decide)).trans g3.2.2.2.2) (fun ls' j' c' _ hp' T' a b => ?_) (fun _ => ⟨j, c, ls, hp⟩) (f13.sI rfl)
        rw [hp] at hp'
        cases hp'
        by_cases e : T' = T
        · subst e
          exact ⟨b0.cg fun p hp => Bool.false_or _, b1.cg fun p hp => Bool.false_or _⟩
        · obtain ⟨a0, a1⟩ := hL ls j c (by omega) hp T' a (by omega)
          have n0 : aRdl T 13322 ((T' - 1) * 2) = false := by
            cases hq : aRdl T 13322 ((T' - 1) * 2) with
            | false => rfl
            | true =>
              unfold aRdl aRdd aRst aTl at hq
              simp only [Bool.or_eq_true, Bool.and_eq_true, Nat.beq_eq] at hq
              omega
          have n1 : aRdl T 13322 ((T' - 1) * 2 + 1) = false := by
            cases hq : aRdl T 13322 ((T' - 1) * 2 + 1) with
            | false => rfl
            | true =>
              unfold aRdl aRdd aRst aTl at hq
              simp only [Bool.or_eq_true, Bool.and_eq_true, Nat.beq_eq] at hq
              omega
          refine ⟨?_, ?_⟩
          · show BM _ (M3.2.1 _ _)
            rw [(f3 _ _ n0).2.1, (f2 _ _ rfl).2.1]
            exact a0
          · show BM _ (M3.2.1 _ _)
            rw [(f3 _ _ n1).2.1, (f2 _ _ rfl).2.1]
            exact a1
  refine e20_4 (loop 7 1 _ rfl (Nat.le_refl _) ⟨hN, fun j hj => ?_, sI_e _ _ _ _⟩ ((sI_j _ _ (by decide)).trans (sI_e _ _ _ _)) (fun ls j c h => absurd h (by decide)) (fun h => absurd h (by decide)) ((f0.sI rfl).sI rfl))
  rw [sI_k _ _ (by decide), sI_k _ _ (by decide), sI_k _ _ (by decide), sI_k _ _ (by decide)]
  exact hA j hj
/-- the draws' numbers with one more -/
def TaN (w : Nat → Nat) (ta ta' : Nat → Nat → Nat → Nat) (ls : LNS) : Prop := (∀ q, q ≠ w 11 → ta' q = ta q) ∧ ∀ T, 1 ≤ T → T ≤ 7 → ∀ p, p < 48 → ta' (w 11) T 0 / 2 ^ p % 2 = cond (lnT g0v T ls (fun _ => true) p) 1 0 ∧ ta' (w 11) T 1 / 2 ^ p % 2 = cond (lnT g1v T ls (fun _ => true) p) 1 0
theorem c50 {M : Mm} (hI : TI w ta M) (hb : WB w) (h11 : w 11 < 6) {ls : LNS} (hR : RdOK ls M) : SC (d + 1) 50 [.ref 512, .ref 13322] M (fun vs N => vs = [.int (nI (w 11))] ∧ (∃ ta', TaN w ta ta' ls ∧ TI (up w 11 (w 11 + 1)) ta' N) ∧ Fr aTold M N) := by
  have hc : M.1 512 12 = nI (w 11) := (hI.tr hb).1.2.2.1
  obtain ⟨h1, h2, h3⟩ := hI
  refine sC (by decide) rfl (go_in (e50_0 ?_))
  have e1 : (cpJ M 13322 33805 (nI 0).toNatClampNeg (nI (w 11) * nI 7 * nI 2).toNatClampNeg (nI 14).toNatClampNeg).1 512 12 = nI (w 11) := hc
  rw [hc, e1, nI_mul, nI_mul, nI_add, sI_e, nI_sub (by omega), Nat.add_sub_cancel]
  simp (disch := omega) only [nI_c]
  refine ⟨⟨by decide, nI_nlt (Nat.zero_le _) (by omega), by decide, by omega, by omega⟩, rfl, rfl, ⟨fun q T b => if q = w 11 then (M.2.1 13322 ((T - 1) * 2 + b)).toBitVec.toNat else ta q T b, ⟨fun q hq => funext fun T => funext fun b => if_neg hq, fun T hT hT7 p hp => ?_⟩, ?_⟩, ?_⟩
  · obtain ⟨b0, b1⟩ := hR T hT hT7
    constructor
    · show (if w 11 = w 11 then _ else _) / 2 ^ p % 2 = _
      rw [if_pos rfl]
      exact (BM_nat b0).2.2 p hp
    · show (if w 11 = w 11 then _ else _) / 2 ^ p % 2 = _
      rw [if_pos rfl]
      exact (BM_nat b1).2.2 p hp
  · have h1' : TSV (vld w) w (cpJ M 13322 33805 0 (w 11 * 7 * 2) 14) := h1
    have h2' : TZE (cpJ M 13322 33805 0 (w 11 * 7 * 2) 14) := h2
    refine ⟨TSV.le (TSV_c h1' (i := 11) (by decide) rfl (v := w 11 + 1) (iz_n _)) fun i hi hv => ?_, TZE_c h2' (i := 11) (by decide) rfl _, fun q T i hq hT hT7 hi => ?_⟩
    · simp only [vld] at hv ⊢
      rw [up_n (by decide), up_n (by decide), up_n (by decide), up_n (by decide)] at hv
      omega
    · rw [up_e] at hq
      show (if 33805 = 33805 ∧ w 11 * 7 * 2 ≤ (q * 7 + T - 1) * 2 + i ∧ (q * 7 + T - 1) * 2 + i < w 11 * 7 * 2 + 14 then M.2.1 13322 (0 + ((q * 7 + T - 1) * 2 + i - w 11 * 7 * 2)) else M.2.1 33805 ((q * 7 + T - 1) * 2 + i)) = lN (if q = w 11 then (M.2.1 13322 ((T - 1) * 2 + i)).toBitVec.toNat else ta q T i) ∧ (if q = w 11 then (M.2.1 13322 ((T - 1) * 2 + i)).toBitVec.toNat else ta q T i) < 2 ^ 48
      by_cases e : q = w 11
      · rw [if_pos ⟨rfl, by omega, by omega⟩, if_pos e, show 0 + ((q * 7 + T - 1) * 2 + i - w 11 * 7 * 2) = (T - 1) * 2 + i by omega]
        obtain ⟨b0, b1⟩ := hR T hT hT7
        obtain rfl | rfl : i = 0 ∨ i = 1 := by omega
        · exact ⟨(BM_nat b0).1, (BM_nat b0).2.1⟩
        · exact ⟨(BM_nat b1).1, (BM_nat b1).2.1⟩
      · rw [if_neg (by omega), if_neg e]
        exact h3 q T i (by omega) hT hT7 hi
  · exact (Fr.rf.cpJ fun _ _ _ => rfl).sI rfl
theorem aRead_o : ∀ k j, inO 512 k = true → aRead k j = false := fun k j h => by
  cases hq : aRead k j with
  | false => rfl
  | true =>
    unfold aRead at hq
    unfold inO at h
    simp only [Bool.or_eq_true, Bool.and_eq_true, Nat.beq_eq, Nat.ble_eq, Nat.blt_eq] at hq h
    omega
theorem aRead_d {k j : Nat} (h : aRead k j = true) : aDrw k j = true := by
  unfold aDrw
  rw [h]
  rfl
theorem CTp_0 {M M' : Mm} (h : CTp tl tp M) (h1 : M'.1 384 1 = nI 0) : CTp 0 tp M' := ⟨h1, by omega, h.2.2.1, fun j hj => absurd hj (Nat.not_lt_zero _)⟩
theorem c87 {M : Mm} (hI : TI w ta M) (hb : WB w) (hC : CTp tl tp M) (h11 : w 11 < 6) {j : Nat} {c : List (Nat × Nat)} {ls : LNS} (hp : pText (tkk tp tl) (nnk tp tl) = okP j c ls) : SC (d + 29) 87 [.ref 704] M (fun vs N => vs = [.int (nI (w 11))] ∧ (∃ ta', TaN w ta ta' ls ∧ TI (up w 11 (w 11 + 1)) ta' N) ∧ CTp 0 tp N ∧ N.1 704 11 = iz (-1) ∧ Fr aDrw M N) := by
  refine sC (by decide) rfl (go_in (e87_0 (k20 hC fun y M1 hy f1 => e87_8 ?_)))
  unfold RdA at hy
  rw [hp] at hy
  obtain ⟨rfl, hR⟩ := hy
  have e11 : (sI (sI M1 704 11 (iz (-1))) 384 1 (nI 0)).1 704 11 = iz (-1) := (sI_k _ _ (by decide)).trans (sI_e _ _ _ _)
  rw [e11, nI_neg1]
  refine ⟨fun _ => go_in (e87_37 (Or.inl ?_)), fun q => absurd rfl q⟩
  have f2 : Fr (fun k j => aRead k j || ((Nat.beq k 704 && Nat.beq j 11) || Nat.beq k 384)) M (sI (sI M1 704 11 (iz (-1))) 384 1 (nI 0)) := ((f1.up fun k j q => by show (aRead k j || _) = true; rw [q]; rfl).sI rfl).sI rfl
  have hI2 : TI w ta (sI (sI M1 704 11 (iz (-1))) 384 1 (nI 0)) := hI.of f2 fun k j h => by
    rw [aRead_o k j h]
    unfold inO at h
    simp only [Bool.or_eq_true, Bool.and_eq_true, Nat.beq_eq, Nat.ble_eq, Nat.blt_eq] at h
    have a : Nat.beq k 704 = false := by
      cases q : Nat.beq k 704 with
      | false => rfl
      | true => have := Nat.eq_of_beq_eq_true q; omega
    have b : Nat.beq k 384 = false := by
      cases q : Nat.beq k 384 with
      | false => rfl
      | true => have := Nat.eq_of_beq_eq_true q; omega
    rw [a, b]
    rfl
  have hR2 : RdOK ls (sI (sI M1 704 11 (iz (-1))) 384 1 (nI 0)) := hR
  have hc : (sI (sI M1 704 11 (iz (-1))) 384 1 (nI 0)).1 512 12 = nI (w 11) := (hI2.tr hb).1.2.2.1
  rw [hc]
  refine upC (k121 (d := 0) (by omega) (by decide) h11 (e87_49 (useC (upC (c50 (d := 0) hI2 hb h11 hR2) (by omega)) fun vs N h => ?_))) (by omega)
  obtain ⟨rfl, ht, hF⟩ := h
  refine e87_63 ⟨rfl, rfl, ht, CTp_0 hC ?_, ?_, ?_⟩
  · rw [(hF 384 1 rfl).1, sI_e]
  · rw [(hF 704 11 rfl).1]
    exact e11
  · refine (f2.up fun k j q => ?_).tr (hF.up fun k j q => ?_)
    · unfold aDrw
      simp only [Bool.or_eq_true, Bool.and_eq_true] at q ⊢
      rcases q with q | q | q
      · exact Or.inl q
      · exact Or.inr (Or.inl q)
      · exact Or.inr (Or.inr (Or.inl q))
    · unfold aDrw
      unfold aTold at q
      rw [q, Bool.or_true, Bool.or_true, Bool.or_true]
theorem u87 {M : Mm} (hI : TI w ta M) (hb : WB w) (hC : CTp tl tp M) (h11 : ¬ w 11 < 6) {j : Nat} {c : List (Nat × Nat)} {ls : LNS} (hp : pText (tkk tp tl) (nnk tp tl) = okP j c ls) : ST (d + 29) 87 [.ref 704] M (fun E N => E = 2 ∧ CTp 0 tp N ∧ N.1 704 11 = iz (-1) ∧ TI w ta N ∧ Fr aDrw M N) := by
  refine sT (by decide) (by decide) (by decide +kernel) rfl (go_inE (e87_0 (k20 hC fun y M1 hy f1 => e87_8 ?_)))
  unfold RdA at hy
  rw [hp] at hy
  obtain ⟨rfl, hR⟩ := hy
  have e11 : (sI (sI M1 704 11 (iz (-1))) 384 1 (nI 0)).1 704 11 = iz (-1) := (sI_k _ _ (by decide)).trans (sI_e _ _ _ _)
  rw [e11, nI_neg1]
  refine ⟨fun _ => go_inE (e87_37 (Or.inr ?_)), fun q => absurd rfl q⟩
  show ST _ 121 _ _ _
  have f2 : Fr (fun k j => aRead k j || ((Nat.beq k 704 && Nat.beq j 11) || Nat.beq k 384)) M (sI (sI M1 704 11 (iz (-1))) 384 1 (nI 0)) := ((f1.up fun k j q => by show (aRead k j || _) = true; rw [q]; rfl).sI rfl).sI rfl
  have hI2 : TI w ta (sI (sI M1 704 11 (iz (-1))) 384 1 (nI 0)) := hI.of f2 fun k j h => by
    rw [aRead_o k j h]
    unfold inO at h
    simp only [Bool.or_eq_true, Bool.and_eq_true, Nat.beq_eq, Nat.ble_eq, Nat.blt_eq] at h
    have a : Nat.beq k 704 = false := by
      cases q : Nat.beq k 704 with
      | false => rfl
      | true => have := Nat.eq_of_beq_eq_true q; omega
    have b : Nat.beq k 384 = false := by
      cases q : Nat.beq k 384 with
      | false => rfl
      | true => have := Nat.eq_of_beq_eq_true q; omega
    rw [a, b]
    rfl
  have w11 : w 11 ≤ 6 := hb.2.2.2.1.2.2.2.1
  have hc : (sI (sI M1 704 11 (iz (-1))) 384 1 (nI 0)).1 512 12 = nI (w 11) := (hI2.tr hb).1.2.2.1
  rw [hc]
  refine upT (d := 1) (useT (f121 (d := 0) (by omega) (by decide) h11) fun E N q => ⟨q.1, q.2.1, ?_⟩) (by omega)
  obtain ⟨-, -, rfl⟩ := q
  refine ⟨CTp_0 hC (sI_e _ _ _ _), e11, hI2, f2.up fun k j q => ?_⟩
  unfold aDrw
  simp only [Bool.or_eq_true, Bool.and_eq_true] at q ⊢
  rcases q with q | q | q
  · exact Or.inl q
  · exact Or.inr (Or.inl q)
  · exact Or.inr (Or.inr (Or.inl q))
theorem t87 {M : Mm} (hI : TI w ta M) (hC : CTp tl tp M) {e : Nat} (hp : pText (tkk tp tl) (nnk tp tl) = .inl e) : ST (d + 29) 87 [.ref 704] M (fun E N => E = 0 ∧ CTp 0 tp N ∧ N.1 704 11 = nI (bgk tp tl e) ∧ TI w ta N ∧ Fr aDrw M N) := by
  have h4 := hC.2.1
  have hbe : bgk tp tl e ≤ 400 := Nat.le_trans (bgk_le e) h4
  refine sT (by decide) (by decide) (by decide +kernel) rfl (go_inE (e87_0 (k20 hC fun y M1 hy f1 => e87_8 ?_)))
  unfold RdA at hy
  rw [hp] at hy
  have hy : y = nI (bgk tp tl e) := hy
  subst hy
  have e11 : (sI (sI M1 704 11 (nI (bgk tp tl e))) 384 1 (nI 0)).1 704 11 = nI (bgk tp tl e) := (sI_k _ _ (by decide)).trans (sI_e _ _ _ _)
  rw [e11, nI_neg1]
  have f2 : Fr (fun k j => aRead k j || ((Nat.beq k 704 && Nat.beq j 11) || Nat.beq k 384)) M (sI (sI M1 704 11 (nI (bgk tp tl e))) 384 1 (nI 0)) := ((f1.up fun k j q => by show (aRead k j || _) = true; rw [q]; rfl).sI rfl).sI rfl
  have hI2 : TI w ta (sI (sI M1 704 11 (nI (bgk tp tl e))) 384 1 (nI 0)) := hI.of f2 fun k j h => by
    rw [aRead_o k j h]
    unfold inO at h
    simp only [Bool.or_eq_true, Bool.and_eq_true, Nat.beq_eq, Nat.ble_eq, Nat.blt_eq] at h
    have a : Nat.beq k 704 = false := by
      cases q : Nat.beq k 704 with
      | false => rfl
      | true => have := Nat.eq_of_beq_eq_true q; omega
    have b : Nat.beq k 384 = false := by
      cases q : Nat.beq k 384 with
      | false => rfl
      | true => have := Nat.eq_of_beq_eq_true q; omega
    rw [a, b]
    rfl
  refine ⟨fun q => absurd q ?_, fun _ => ⟨by decide, by decide, rfl, CTp_0 hC (sI_e _ _ _ _), e11, hI2, f2.up fun k j q => ?_⟩⟩
  · rw [iz_n, iz_eq (i32_n (by omega)) ⟨by decide, by decide⟩]
    omega
  · unfold aDrw
    simp only [Bool.or_eq_true, Bool.and_eq_true] at q ⊢
    rcases q with q | q | q
    · exact Or.inl q
    · exact Or.inr (Or.inl q)
    · exact Or.inr (Or.inr (Or.inl q))
end CR
