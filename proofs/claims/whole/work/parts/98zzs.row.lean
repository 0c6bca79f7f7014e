/-! The row, on both sides. -/
def okR (tp : Nat → Int) (n : Nat) : Prop := ∀ j, j < n → 0 ≤ tp j ∧ tp j ≤ 3
def okb (tp : Nat → Int) : Nat → Bool
  | 0 => true
  | n + 1 => okb tp n && decide (0 ≤ tp n ∧ tp n ≤ 3)
theorem okb_t {tp : Nat → Int} : ∀ n, okb tp n = true ↔ okR tp n := fun n => by
  induction n with
  | zero => exact ⟨fun _ j hj => absurd hj (Nat.not_lt_zero _), fun _ => rfl⟩
  | succ n ih =>
    show (okb tp n && decide (0 ≤ tp n ∧ tp n ≤ 3)) = true ↔ _
    rw [Bool.and_eq_true, ih, decide_eq_true_iff]
    constructor
    · intro q j hj
      by_cases e : j = n
      · subst e
        exact q.2
      · exact q.1 j (by omega)
    · intro q
      exact ⟨fun j hj => q j (by omega), q n (by omega)⟩
def rwT (tp : Nat → Int) (j : Nat) : Nat := (tp j).toNat
def rw2 (w : Nat → Nat) (n : Nat) (t : Nat → Nat) (i : Nat) : Nat := if 75 ≤ i ∧ i < 75 + n then t (i - 75) else w i
def aUse (k j : Nat) : Bool := Nat.beq k 768 && (Nat.beq j 0 || (Nat.beq j 5 || (Nat.beq j 6 || (Nat.beq j 7 || Nat.beq j 12))))
def aRwC (k j : Nat) : Bool := aTold k j || aTape k j
def aRwR (k j : Nat) : Bool := aUse k j || Nat.beq k 50177
section RW
variable {d : Nat} {M : Mm} {w : Nat → Nat} {ta : Nat → Nat → Nat → Nat} {tl : Nat} {tp : Nat → Int}
theorem c148 : SC (d + 1) 148 [.ref 768] M (fun vs N => vs = [] ∧ N.1 768 7 = M.1 768 5 ∧ (N.1 768 0 = nI 0 ∧ N.1 768 5 = nI 0 ∧ N.1 768 6 = nI 0 ∧ N.1 768 12 = nI 0) ∧ Fr aUse M N) := by
  refine sC (by decide) rfl (go_in (e148_0 ⟨rfl, rfl, ?_, ⟨?_, ?_, ?_, ?_⟩, ((((Fr.rf.sI rfl).sI rfl).sI rfl).sI rfl).sI rfl⟩))
  all_goals simp (disch := decide) only [sI_j, sI_e]
theorem TI_row (h : TI w ta M) (hb : WB w) (ht : CTp tl tp M) (ho : okR tp tl) : TI (rwW w tl (rwT tp)) ta (cpI (sI (sI M 384 1 (nI 0)) 512 16 (nI tl)) 25600 33809 0 0 tl) := by
  have hb2 := WB_row hb ht.2.1 (fun j hj => by have := ho j hj; unfold rwT; omega : ∀ j, j < tl → rwT tp j ≤ 3)
  obtain ⟨h1, h2, h3⟩ := h
  refine ⟨fun i hi hv => ?_, fun f hf => ?_, fun q T i hq hT hT7 hi => ?_⟩
  · have hp := lp_pl i hi
    by_cases e13 : i = 13
    · subst e13
      show nI tl = iz (wv (rwW w tl (rwT tp)) 13)
      exact iz_n tl
    · by_cases e75 : i < 75
      · have hne : (pl i).1 ≠ 33809 := by
          have : ∀ i, i < 75 → (pl i).1 ≠ 33809 := by decide +kernel
          exact this i e75
        have hne2 : (pl i).1 ≠ 384 := by
          have : ∀ i, i < 75 → (pl i).1 ≠ 384 := by decide +kernel
          exact this i e75
        rw [cpI_v, if_neg (fun q => hne q.1), sI_v, if_neg (fun q => e13 (pl_in hi (by decide) ⟨q.1, q.2⟩)), sI_v, if_neg (fun q => hne2 q.1)]
        have hw : wv (rwW w tl (rwT tp)) i = wv w i := by
          unfold wv
          rw [rwW_n e13 e75]
        rw [hw]
        refine h1 i hi ?_
        unfold vld at hv ⊢
        rw [rwW_n (by decide) (by decide), rwW_n (by decide) (by decide), rwW_n (by decide) (by decide)] at hv
        omega
      · have hv2 : i < 75 + tl := by
          unfold vld at hv
          rw [rwW_n (by decide) (by decide), rwW_n (by decide) (by decide), rwW_n (by decide) (by decide), show rwW w tl (rwT tp) 13 = tl from if_pos rfl] at hv
          have := (wb_w hb).2.1
          have := (wb_w hb).2.2
          have : w 12 ≤ 6 := hb.2.2.2.1.2.2.2.2.1
          omega
        have hpl := pl_75 (i - 75) (by have := ht.2.1; omega)
        rw [show 75 + (i - 75) = i by omega] at hpl
        rw [hpl]
        show (cpI _ 25600 33809 0 0 tl).1 33809 (i - 75) = _
        rw [cpI_v, if_pos ⟨rfl, by omega, by omega⟩, sI_k _ _ (by decide), sI_k _ _ (by decide), show 0 + (i - 75 - 0) = i - 75 by omega, ht.2.2.2 _ (by omega)]
        have hs : shf i = false := shf_no (by omega)
        unfold wv
        rw [hs]
        show iz _ = iz ((rwW w tl (rwT tp) i : Nat) : Int)
        have e : rwW w tl (rwT tp) i = rwT tp (i - 75) := by
          unfold rwW
          rw [if_neg e13, if_pos ⟨by omega, by omega⟩]
        rw [e]
        have := ho (i - 75) (by omega)
        unfold rwT
        congr 1
        omega
  · rw [cpI_v, if_neg (fun q => absurd q.1 (by decide)), sI_k _ _ (by decide), sI_k _ _ (by decide)]
    exact h2 f hf
  · rw [rwW_n (by decide) (by decide)] at hq
    exact h3 q T i hq hT hT7 hi
theorem c91 (h : TI w ta M) (hb : WB w) (ht : CTp tl tp M) (ho : okR tp tl) : SC (d + 2) 91 [.ref 704] M (fun vs N => vs = [.int (nI tl)] ∧ TI (rwW w tl (rwT tp)) ta N ∧ CTp 0 tp N ∧ Fr aRwC M N) := by
  have htl := ht.2.1
  refine sC (by decide) rfl (go_in (e91_0 ?_))
  rw [ht.1]
  have loop : ∀ m i, i + m = tl → WM (d + 1) 91 (fun vs N => vs = [.int (nI tl)] ∧ TI (rwW w tl (rwT tp)) ta N ∧ CTp 0 tp N ∧ Fr aRwC M N) 18 [some (.ref 704), some (.int (nI tl)), some (.int (nI i))] [] (sI M 384 1 (nI 0)) := by
    intro m
    induction m with
    | zero =>
      intro i hi
      have hi : i = tl := by omega
      subst hi
      refine go_in (e91_18 (br_t (nI_le (Nat.le_refl _) (by omega)) (go_in (e91_43 ⟨⟨by decide, by decide, ?_, ?_, ?_⟩, rfl, rfl, ?_⟩))))
      · exact nI_nlt (Nat.zero_le _) (by omega)
      · rw [nI_c (by decide), nI_c (by omega)]
        omega
      · rw [nI_c (by decide), nI_c (by omega)]
        omega
      · rw [nI_c (by decide), nI_c (by omega)]
        refine ⟨TI_row h hb ht ho, ⟨?_, by omega, ht.2.2.1, fun j hj => absurd hj (Nat.not_lt_zero _)⟩, fun k j hkj => ?_⟩
        · rw [cpI_v, if_neg (fun q => absurd q.1 (by decide)), sI_k _ _ (by decide), sI_e]
        · have hF : Fr aRwC M (sI (sI M 384 1 (nI 0)) 512 16 (nI i)) := (Fr.rf.sI rfl).sI rfl
          have hk : k ≠ 33809 := fun e => by
            rw [e] at hkj
            have q : aRwC 33809 j = true := rfl
            rw [q] at hkj
            cases hkj
          rw [cpI_v, if_neg (fun q => hk q.1)]
          exact hF k j hkj
    | succ m ih =>
      intro i hi
      refine go_in (e91_18 (br_f (nI_ge (by omega) (by omega)) ⟨nI_in2 (by omega) (by decide), Or.inl ?_⟩))
      have := ho i (by omega)
      rw [nI_c (by omega), sI_k _ _ (by decide), ht.2.2.2 i (by omega)]
      refine k120n ⟨by omega, by omega⟩ (by decide) (by decide) (by omega) (e91_37 ?_)
      rw [nI_s]
      exact ih (i + 1) (by omega)
  exact loop tl 0 (by omega)
theorem t91 (ht : CTp tl tp M) (ho : ¬ okR tp tl) : ST (d + 2) 91 [.ref 704] M (fun E N => E = 0 ∧ N = sI M 384 1 (nI 0)) := by
  have htl := ht.2.1
  refine sT (by decide) (by decide) (by decide +kernel) rfl (go_inE (e91_0 ?_))
  rw [ht.1]
  have loop : ∀ m i, i + m = tl → okR tp i → Wp (SC (d + 1)) (ST (d + 1)) (RE (fun E N => E = 0 ∧ N = sI M 384 1 (nI 0))) (hdE (fun E N => E = 0 ∧ N = sI M 384 1 (nI 0))) (txOf 91) 1 18 [some (.ref 704), some (.int (nI tl)), some (.int (nI i))] [] (sI M 384 1 (nI 0)) := by
    intro m
    induction m with
    | zero =>
      intro i hi hk
      have hi : i = tl := by omega
      subst hi
      exact absurd hk ho
    | succ m ih =>
      intro i hi hk
      refine go_inE (e91_18 (br_f (nI_ge (by omega) (by omega)) ⟨nI_in2 (by omega) (by decide), ?_⟩))
      have hr := ht.2.2.1 i
      rw [nI_c (by omega), sI_k _ _ (by decide), ht.2.2.2 i (by omega)]
      by_cases g : 0 ≤ tp i ∧ tp i ≤ 3
      · refine Or.inl (k120n ⟨by omega, by omega⟩ (by decide) (by decide) (by omega) (e91_37 ?_))
        rw [nI_s]
        refine ih (i + 1) (by omega) fun j hj => ?_
        by_cases e : j = i
        · subst e
          exact g
        · exact hk j (by omega)
      · refine Or.inr ?_
        show ST _ 120 _ _ _
        exact f120n ⟨by omega, by omega⟩ (by decide) (by decide) (by omega)
  exact loop tl 0 (by omega) fun j hj => absurd hj (Nat.not_lt_zero _)
theorem rw2_s {n : Nat} {t : Nat → Nat} : rw2 w (n + 1) t = up (rw2 w n t) (75 + n) (t n) := funext fun i => by
  by_cases e : i = 75 + n
  · subst e
    rw [up_e]
    unfold rw2
    rw [if_pos (by omega), show 75 + n - 75 = n by omega]
  · rw [up_n e]
    unfold rw2
    by_cases g : 75 ≤ i ∧ i < 75 + n
    · rw [if_pos g, if_pos (by omega)]
    · rw [if_neg g, if_neg (by omega)]
theorem rw2_0 {t : Nat → Nat} : rw2 w 0 t = w := funext fun i => if_neg (by omega)
theorem rwW_2 {n : Nat} {t : Nat → Nat} : rwW w n t = up (rw2 w n t) 13 n := rfl
theorem c221a (ht : RTp tl tp M) {Q : List Value → Mm → Prop} (k : ∀ N (o : Option Value), N.1 768 7 = nI tl → N.1 768 0 = nI 0 → N.1 768 5 = nI 0 → Fr aUse M N → (∀ j, j < tl → N.1 50180 j = iz (tp j)) → WM (d + 2) 221 Q 46 [some (.ref 768), some (.int (nI (cond (okb tp tl) 1 0))), o] [] N) : SC (d + 3) 221 [.ref 768] M Q := by
  have htl := ht.2.1
  refine sC (by decide) rfl (go_in (e221_0 (useC (upC (c148 (d := d)) (by omega)) fun vs N h => ?_)))
  obtain ⟨rfl, h7, ⟨h0, h5, -, -⟩, hF⟩ := h
  rw [ht.1] at h7
  have hT : ∀ j, j < tl → N.1 50180 j = iz (tp j) := fun j hj => by rw [(hF 50180 j rfl).1]; exact ht.2.2.2 j hj
  have loop : ∀ m i, i + m = tl → WM (d + 2) 221 Q 8 [some (.ref 768), some (.int (nI (cond (okb tp i) 1 0))), some (.int (nI i))] [] N := by
    intro m
    induction m with
    | zero =>
      intro i hi
      have hi : i = tl := by omega
      subst hi
      refine go_in (e221_8 ?_)
      rw [h7]
      exact br_t (nI_le (Nat.le_refl _) (by omega)) (k N _ h7 h0 h5 hF hT)
    | succ m ih =>
      intro i hi
      refine go_in (e221_8 ?_)
      rw [h7]
      refine br_f (nI_ge (by omega) (by omega)) ?_
      have hr := ht.2.2.1 i
      have es : okb tp (i + 1) = (okb tp i && decide (0 ≤ tp i ∧ tp i ≤ 3)) := rfl
      have ihs := ih (i + 1) (by omega)
      rw [es] at ihs
      cases hk : okb tp i with
      | false =>
        rw [hk] at ihs
        refine ⟨fun _ => go_in (e221_38 (go_in (e221_39 ?_))), fun q => absurd rfl q⟩
        rw [nI_s]
        exact ihs
      | true =>
        rw [hk] at ihs
        refine ⟨fun q => absurd q (by decide), fun _ => ⟨nI_in2 (by omega) (by decide), ?_⟩⟩
        rw [nI_c (by omega), hT i (by omega)]
        by_cases g : 0 ≤ tp i ∧ tp i ≤ 3
        · rw [decide_eq_true g] at ihs
          refine k131n ⟨by omega, by omega⟩ (by decide) (by decide) (by omega) (e221_31 ⟨fun q => absurd q (by decide), fun _ => go_in (e221_39 ?_)⟩)
          rw [nI_s]
          exact ihs
        · rw [decide_eq_false g] at ihs
          refine f131n ⟨by omega, by omega⟩ (by decide) (by decide) (by omega) (e221_31 ⟨fun _ => go_in (e221_38 (go_in (e221_39 ?_))), fun q => absurd rfl q⟩)
          rw [nI_s]
          exact ihs
  exact e221_4 (loop tl 0 (by omega))
theorem c221 (h : RI w ta M) (hb : WB w) (ht : RTp tl tp M) (ho : okR tp tl) : SC (d + 3) 221 [.ref 768] M (fun vs N => vs = [.int (nI tl)] ∧ RI (rwW w tl (rwT tp)) ta N ∧ RTp 0 tp N ∧ Fr aRwR M N ∧ N.1 768 0 = nI 0) := by
  have htl := ht.2.1
  have hok : okb tp tl = true := (okb_t tl).mpr ho
  refine c221a ht fun N o h7 h0 h5 hF hT => ?_
  rw [hok]
  refine go_in (e221_46 ⟨fun _ => go_in (e221_55 (go_in (e221_56 (k130 (e221_60 ⟨fun _ => go_in (e221_65 ?_), fun q => absurd rfl q⟩))))), fun q => absurd q (by decide)⟩)
  have hI : RI w ta N := h.of hF (fun j => rfl) rfl rfl
  have loop : ∀ m i N (o1 : Option Value), i + m = tl → RI (rw2 w i (rwT tp)) ta N → Fr aRwR M N → N.1 768 7 = nI tl → N.1 768 0 = nI 0 → N.1 768 5 = nI 0 → (∀ j, j < tl → N.1 50180 j = iz (tp j)) → WM (d + 2) 221 (fun vs N => vs = [.int (nI tl)] ∧ RI (rwW w tl (rwT tp)) ta N ∧ RTp 0 tp N ∧ Fr aRwR M N ∧ N.1 768 0 = nI 0) 67 [some (.ref 768), o1, some (.int (nI i))] [] N := by
    intro m
    induction m with
    | zero =>
      intro i N o1 hi hI hF h7 h0 h5 hT
      have hi : i = tl := by omega
      subst hi
      refine go_in (e221_67 ?_)
      rw [h7]
      refine br_t (nI_le (Nat.le_refl _) (by omega)) (go_in (e221_96 ⟨nI_in2 (by decide) (by decide), ?_⟩))
      rw [nI_c (by decide), sI_k _ _ (by decide), h7]
      refine ⟨rfl, rfl, ?_, ⟨by rw [sI_k _ _ (by decide)]; exact h5, by omega, ht.2.2.1, fun j hj => absurd hj (Nat.not_lt_zero _)⟩, hF.sI rfl, by rw [sI_k _ _ (by decide)]; exact h0⟩
      rw [rwW_2]
      exact RI_c hI (i := 13) (by decide) (by decide) (iz_n _)
    | succ m ih =>
      intro i N o1 hi hI hF h7 h0 h5 hT
      refine go_in (e221_67 ?_)
      rw [h7]
      refine br_f (nI_ge (by omega) (by omega)) ?_
      have hr := ho i (by omega)
      rw [nI_add, nI_c (by omega), nI_c (by omega), hT i (by omega), nI_s]
      refine ⟨nI_in2 (by omega) (by decide), nI_in2 (by omega) (by decide), ih (i + 1) _ _ (by omega) ?_ (hF.sI rfl) (by rw [sI_k _ _ (by decide)]; exact h7) (by rw [sI_k _ _ (by decide)]; exact h0) (by rw [sI_k _ _ (by decide)]; exact h5) fun j hj => by rw [sI_k _ _ (by decide)]; exact hT j hj⟩
      rw [rw2_s]
      refine RI_c hI (by omega) (by omega) ?_
      rw [wz_no (shf_no (by omega))]
      unfold rwT
      congr 1
      omega
  exact loop tl 0 N _ (by omega) (by rw [rw2_0]; exact hI) (hF.up fun k j q => by unfold aRwR; rw [q]; rfl) h7 h0 h5 hT
theorem c221t (ht : RTp tl tp M) (ho : ¬ okR tp tl) : SC (d + 3) 221 [.ref 768] M (fun vs N => vs = [.int (nI 0)] ∧ RTp 0 tp N ∧ Fr aUse M N ∧ N.1 768 0 = nI 1) := by
  have hok : okb tp tl = false := by
    cases h : okb tp tl with
    | false => rfl
    | true => exact absurd ((okb_t tl).mp h) ho
  refine c221a ht fun N o h7 h0 h5 hF hT => ?_
  rw [hok]
  refine go_in (e221_46 ⟨fun q => absurd rfl q, fun _ => go_in (e221_56 (f130 (e221_60 ⟨fun q => absurd q (by decide), fun _ => ⟨rfl, rfl, ⟨?_, by omega, ht.2.2.1, fun j hj => absurd hj (Nat.not_lt_zero _)⟩, hF.sI rfl, rfl⟩⟩)))⟩)
  rw [sI_j _ _ (by decide)]
  exact h5
end RW
