/-! The class reads a line. -/
def aTl (T k j : Nat) : Bool := Nat.beq k 13322 && (Nat.beq j ((T - 1) * 2) || Nat.beq j ((T - 1) * 2 + 1))
def aRdl (T k j : Nat) : Bool := aRdd k j || aTl T k j
theorem v_b1 : ∀ v, v < 100 → (nI v &&& nI 1 = 0 ↔ v % 2 = 0) := by decide +kernel
theorem v_b2 : ∀ v, v < 100 → (nI v &&& nI 2 = 0 ↔ v / 2 % 2 = 0) := by decide +kernel
theorem sJ_e (M : Mm) (k j : Nat) (v : Int64) : (sJ M k j v).2.1 k j = v := if_pos ⟨rfl, rfl⟩
theorem sJ_j (M : Mm) {k j b : Nat} (v : Int64) (h : b ≠ j) : (sJ M k j v).2.1 k b = M.2.1 k b := if_neg fun q => h q.2
section CL
variable {d : Nat} {tp : Nat → Int} {tl N T : Nat}
theorem aTl_0 {j : Nat} : aTl T 13322 ((T - 1) * 2) = true := by
  unfold aTl
  rw [Nat.beq_refl, Nat.beq_refl]
  rfl
theorem aTl_1 : aTl T 13322 ((T - 1) * 2 + 1) = true := by
  unfold aTl
  rw [Nat.beq_refl, Nat.beq_refl, Bool.or_true]
  rfl
theorem t26 {M : Mm} (h6 : M.1 192 6 = nI T) (hT : 1 ≤ T ∧ T ≤ 7) {v : Nat} (hv : v < 100) {x1 x4 : Int64} {o2 o5 o6 : Option Value} {Q : List Value → Mm → Prop} (k : ∀ M', M'.2.1 13322 ((T - 1) * 2) = cond (decide (v % 2 = 1)) (M.2.1 13322 ((T - 1) * 2) ||| x4) (M.2.1 13322 ((T - 1) * 2)) → M'.2.1 13322 ((T - 1) * 2 + 1) = cond (decide (v / 2 % 2 = 1)) (M.2.1 13322 ((T - 1) * 2 + 1) ||| x4) (M.2.1 13322 ((T - 1) * 2 + 1)) → Fr (aTl T) M M' → Q [.long (x1 &&& (x4 ^^^ (-(lN 1))))] M') : WM d 26 Q 60 [some (.ref 192), some (.long x1), o2, some (.int (nI v)), some (.long x4), o5, o6] [] M := by
  refine go_in (e26_60 ?_)
  rw [h6, nI_sub hT.1, nI_mul, v_b1 v hv, nI_c (by omega)]
  have last : ∀ M1 (o2 o5 : Option Value), M1.2.1 13322 ((T - 1) * 2) = cond (decide (v % 2 = 1)) (M.2.1 13322 ((T - 1) * 2) ||| x4) (M.2.1 13322 ((T - 1) * 2)) → M1.2.1 13322 ((T - 1) * 2 + 1) = M.2.1 13322 ((T - 1) * 2 + 1) → Fr (aTl T) M M1 → WM d 26 Q 88 [some (.ref 192), some (.long x1), o2, some (.int (nI v)), some (.long x4), o5, some (.int (nI ((T - 1) * 2)))] [] M1 := fun M1 o2 o5 a b hF => by
    refine go_in (e26_88 ?_)
    rw [nI_add, v_b2 v hv, nI_c (by omega)]
    refine ⟨fun q => go_in (e26_108 ⟨rfl, k M1 a ?_ hF⟩), fun q => ⟨nI_in2 (by omega) (by decide), nI_in2 (by omega) (by decide), go_in (e26_108 ⟨rfl, k _ ?_ ?_ (hF.sJ aTl_1)⟩)⟩⟩
    · rw [decide_eq_false (show ¬ v / 2 % 2 = 1 by omega)]
      exact b
    · rw [sJ_j _ _ (by omega)]
      exact a
    · rw [sJ_e, decide_eq_true (show v / 2 % 2 = 1 by omega), b]
      rfl
  refine ⟨fun q => last M _ _ ?_ rfl Fr.rf, fun q => ⟨nI_in2 (by omega) (by decide), nI_in2 (by omega) (by decide), last _ _ _ ?_ (sJ_j _ _ (by omega)) (Fr.rf.sJ (aTl_0 (j := 0)))⟩⟩
  · rw [decide_eq_false (show ¬ v % 2 = 1 by omega)]
    rfl
  · rw [sJ_e, decide_eq_true (show v % 2 = 1 by omega)]
    rfl
/-- what a line tells, from what is open and told -/
def LnG (T : Nat) (o t0 t1 : Nat → Bool) (y : Int64) (M : Mm) (v : Nat × MSK) : Prop := BM (fun p => o p && !(o p && v.2 T p)) y ∧ BM (fun p => t0 p || (decide (v.1 % 2 = 1) && (o p && v.2 T p))) (M.2.1 13322 ((T - 1) * 2)) ∧ BM (fun p => t1 p || (decide (v.1 / 2 % 2 = 1) && (o p && v.2 T p))) (M.2.1 13322 ((T - 1) * 2 + 1))
theorem BM_c {t h : Nat → Bool} {c : Bool} {x y : Int64} (ht : BM t x) (hh : BM h y) : BM (fun p => t p || (c && h p)) (cond c (x ||| y) x) := by
  cases c with
  | true => exact (ht.or hh).cg fun p hp => by rw [Bool.true_and]
  | false => exact ht.cg fun p hp => by rw [Bool.false_and, Bool.or_false]
theorem aTl_s (hT : True) : (∀ j, aTl T 13313 j = false ∧ aTl T 13314 j = false ∧ aTl T 13315 j = false) ∧ ∀ j, aTl T 192 j = false := ⟨fun j => ⟨rfl, rfl, rfl⟩, fun j => rfl⟩
theorem k26 (h4 : tl ≤ 400) (hT : 1 ≤ T ∧ T ≤ 7) {M : Mm} {s : Nat ⊕ Nat} (hs : Sst tp tl N T s M) {o t0 t1 : Nat → Bool} {x1 : Int64} (ho : BM o x1) (b0 : BM t0 (M.2.1 13322 ((T - 1) * 2))) (b1 : BM t1 (M.2.1 13322 ((T - 1) * 2 + 1))) {Q : List Value → Mm → Prop} (k : ∀ y M', CPO tp tl N T (lfS (pLine (tkk tp tl) (nnk tp tl)) s) (LnG T o t0 t1 y M') M' → Fr (aRdl T) M M' → Q [.long y] M') : SC (d + 26) 26 [.ref 192, .long x1] M Q := by
  have hn := hs.1.1.le h4
  have up1 : ∀ {M1 M2 : Mm}, Fr aRst M1 M2 → Fr (aRdl T) M1 M2 := fun h => h.up fun k j q => by unfold aRdl; rw [aRst_dd q]; rfl
  have up2 : ∀ {M1 M2 : Mm}, Fr aRdd M1 M2 → Fr (aRdl T) M1 M2 := fun h => h.up fun k j q => by unfold aRdl; rw [q]; rfl
  have up3 : ∀ {M1 M2 : Mm}, Fr (aTl T) M1 M2 → Fr (aRdl T) M1 M2 := fun h => h.up fun k j q => by unfold aRdl; rw [q, Bool.or_true]
  have s1 : ∀ j, aTl T 13313 j = false ∧ aTl T 13314 j = false ∧ aTl T 13315 j = false := fun j => ⟨rfl, rfl, rfl⟩
  have s2 : ∀ j, aTl T 192 j = false := fun j => rfl
  -- an error: all that follows leaves it
  have bad : ∀ e M1 (v : Nat) (o2 o5 o6 o4 : Option Value), v < 100 → Sst tp tl N T (.inl e) M1 → lfS (pLine (tkk tp tl) (nnk tp tl)) s = .inl e → Fr (aRdl T) M M1 → WM (d + 25) 26 Q 26 [some (.ref 192), some (.long x1), o2, some (.int (nI v)), o4, o5, o6] [] M1 := fun e M1 v o2 o5 o6 o4 hv h1 hp hF => by
    refine go_in (e26_26 (upC (k34 (d := 0) h4 h1 (j := 2) (by decide) (by decide) fun M2 g2 f2 => e26_33 ?_) (by omega)))
    have g2 : Sst tp tl N T (.inl e) M2 := g2
    have hE := isE_t g2
    refine ⟨hE, ⟨hE, rfl⟩, fun _ => t26 g2.1.2.2 hT hv fun M3 _ _ f3 => k _ M3 ?_ ((hF.tr (up1 f2)).tr (up3 f3)), fun q => absurd (g2.2.1.symm.trans q) (by decide)⟩
    rw [hp]
    exact g2.of f3 s1 s2
  refine sC (by decide) rfl (go_in (e26_0 (upC (k34 (d := 0) h4 hs (j := 3) (by decide) (by decide) fun M1 g1 f1 => e26_7 ?_) (by omega))))
  match s, hs, k, bad, g1 with
  | .inl e, hs, k, bad, g1 =>
    obtain ⟨hR, -, ⟨a, ha, haN⟩, -, -⟩ := id g1
    rw [ha, nI_c (by omega), (hR.2.1 a haN).2.1]
    have hv := nnk_le (tp := tp) (tl := tl) a
    refine ⟨nI_in2 (by omega) (by decide), fun _ => bad e M1 _ _ _ _ _ (by omega) g1 rfl (up1 f1), fun _ => upC (k35 (d := 0) h4 g1 fun M2 g2 f2 => ?_) (by omega)⟩
    exact e26_26_1 (upC (k34 (d := 0) h4 (s := .inl e) g2 (j := 2) (by decide) (by decide) fun M3 g3 f3 => e26_33 ⟨isE_t g3, ⟨isE_t g3, rfl⟩, fun _ => t26 g3.1.2.2 hT (by omega) fun M4 _ _ f4 => k _ M4 (Sst.of (s := .inl e) g3 f4 s1 s2) (((up1 f1).tr ((up1 f2).tr (up1 f3))).tr (up3 f4)), fun q => absurd (g3.2.1.symm.trans q) (by decide)⟩) (by omega))
  | .inr i, hs, k, bad, g1 =>
    have kk : lfS (pLine (tkk tp tl) (nnk tp tl)) (.inr i) = pLine (tkk tp tl) (nnk tp tl) i := rfl
    by_cases h3 : tkk tp tl i = 3
    · rw [taS_1 h3] at g1
      obtain ⟨hR, ht1, ha, haN, h7⟩ := id g1
      have hv := nnk_le (tp := tp) (tl := tl) (i + 1)
      rw [ha, nI_c (by omega), (hR.2.1 (i + 1) haN).2.1, nI_ltI (by omega) (by decide)]
      refine ⟨nI_in2 (by omega) (by decide), fun q4 => ?_, fun q4 => upC (k35 (d := 0) h4 g1 fun M2 g2 f2 => ?_) (by omega)⟩
      · refine go_in (e26_26 (upC (k34 (d := 0) h4 g1 (j := 2) (by decide) (by decide) fun M2 g2 f2 => e26_33 ?_) (by omega)))
        by_cases h2 : tkk tp tl (i + 1) = 2
        · rw [taS_1 h2] at g2
          have hE := isE_t g2
          have ht := fun j => th_q g2 (j := j)
          have m0 : M2.2.1 13322 ((T - 1) * 2) = M.2.1 13322 ((T - 1) * 2) := ((f1.tr f2) _ _ rfl).2.1
          have m1 : M2.2.1 13322 ((T - 1) * 2 + 1) = M.2.1 13322 ((T - 1) * 2 + 1) := ((f1.tr f2) _ _ rfl).2.1
          refine ⟨hE, ⟨hE, rfl⟩, fun q => t26 g2.1.2.2 hT (by omega) fun M3 a b f3 => k _ M3 ?_ (((up1 f1).tr (up1 f2)).tr (up3 f3)), fun q => upC (k36 (d := 0) h4 g2 fun M3 g3 f3 => e26_50 ?_) (by omega)⟩
          · have h4' : ¬ tkk tp tl (i + 2) = 4 := fun z => q ((ht 4).mpr z)
            show CPO tp tl N T (pLine _ _ i) _ M3
            unfold pLine
            rw [if_pos h3, if_pos ⟨h2, by omega⟩, if_neg h4']
            refine ⟨g2.of f3 s1 s2, (ho.wo ho).cg fun p hp => by show _ = (o p && !(o p && true)); rw [Bool.and_true], ?_, ?_⟩
            · rw [a, m0]
              exact (BM_c b0 ho).cg fun p hp => by show _ = (t0 p || (decide (nnk tp tl (i + 1) % 2 = 1) && (o p && true))); rw [Bool.and_true]
            · rw [b, m1]
              exact (BM_c b1 ho).cg fun p hp => by show _ = (t1 p || (decide (nnk tp tl (i + 1) / 2 % 2 = 1) && (o p && true))); rw [Bool.and_true]
          · have h4' : tkk tp tl (i + 2) = 4 := (ht 4).mp q
            rw [stS_1 (show ¬ tkk tp tl (i + 1 + 1) = 0 by rw [show i + 1 + 1 = i + 2 from rfl, h4']; decide)] at g3
            refine upC (k27 h4 (k28 (d0 := 22) h4 (k29 (d := 0) h4 hT.2 6 (Nat.le_refl _))) _ _ _ g3 fun x M4 g4 f4 => e26_57 ?_) (by omega)
            have g4 : CPO tp tl N T (pOrs (tkk tp tl) (pAtom (tkk tp tl) (nnk tp tl) 6) (i + 3)) (fun m => BM (m T) x) M4 := g4
            have hp : pLine (tkk tp tl) (nnk tp tl) i = bdP (pOrs (tkk tp tl) (pAtom (tkk tp tl) (nnk tp tl) 6) (i + 3)) fun j c m => okP j c (nnk tp tl (i + 1), m) := by
              unfold pLine
              rw [if_pos h3, if_pos ⟨h2, by omega⟩, if_pos h4']
            have f14 : Fr (aRdl T) M M4 := (((up1 f1).tr (up1 f2)).tr (up1 f3)).tr (up2 f4)
            have n0 : M4.2.1 13322 ((T - 1) * 2) = M.2.1 13322 ((T - 1) * 2) := (f4 _ _ rfl).2.1.trans ((f3 _ _ rfl).2.1.trans m0)
            have n1 : M4.2.1 13322 ((T - 1) * 2 + 1) = M.2.1 13322 ((T - 1) * 2 + 1) := (f4 _ _ rfl).2.1.trans ((f3 _ _ rfl).2.1.trans m1)
            refine t26 g4.st.1.2.2 hT (by omega) fun M5 a b f5 => k _ M5 ?_ (f14.tr (up3 f5))
            show CPO tp tl N T (pLine _ _ i) _ M5
            rw [hp]
            match pOrs (tkk tp tl) (pAtom (tkk tp tl) (nnk tp tl) 6) (i + 3), g4 with
            | .inl e, g4 => exact Sst.of (s := .inl e) g4 f5 s1 s2
            | .inr (j, c, m), g4 =>
              have hh := ho.and g4.2
              refine ⟨g4.1.of f5 s1 s2, ho.wo hh, ?_, ?_⟩
              · rw [a, n0]
                exact BM_c b0 hh
              · rw [b, n1]
                exact BM_c b1 hh
        · rw [taS_0 h2] at g2
          have hE := isE_t g2
          refine ⟨hE, ⟨hE, rfl⟩, fun _ => t26 g2.1.2.2 hT (by omega) fun M3 _ _ f3 => k _ M3 ?_ (((up1 f1).tr (up1 f2)).tr (up3 f3)), fun q => absurd (g2.2.1.symm.trans q) (by decide)⟩
          show CPO tp tl N T (pLine _ _ i) _ M3
          unfold pLine
          rw [if_pos h3, if_neg (fun z => h2 z.1)]
          exact Sst.of (s := .inl (i + 1)) g2 f3 s1 s2
      · have g2 : Sst tp tl N T (.inl (i + 1)) M2 := g2
        refine e26_26_1 (upC (k34 (d := 0) h4 g2 (j := 2) (by decide) (by decide) fun M3 g3 f3 => e26_33 ⟨isE_t g3, ⟨isE_t g3, rfl⟩, fun _ => t26 g3.1.2.2 hT (by omega) fun M4 _ _ f4 => k _ M4 ?_ (((up1 f1).tr ((up1 f2).tr (up1 f3))).tr (up3 f4)), fun q => absurd (g3.2.1.symm.trans q) (by decide)⟩) (by omega))
        show CPO tp tl N T (pLine _ _ i) _ M4
        unfold pLine
        rw [if_pos h3, if_neg (fun z => by omega)]
        exact Sst.of (s := .inl (i + 1)) g3 f4 s1 s2
    · rw [taS_0 h3] at g1
      obtain ⟨hR, -, ⟨a, ha, haN⟩, -, -⟩ := id g1
      rw [ha, nI_c (by omega), (hR.2.1 a haN).2.1]
      have hv := nnk_le (tp := tp) (tl := tl) a
      have hp : lfS (pLine (tkk tp tl) (nnk tp tl)) (.inr i) = .inl i := if_neg h3
      refine ⟨nI_in2 (by omega) (by decide), fun _ => bad i M1 _ _ _ _ _ (by omega) g1 hp (up1 f1), fun _ => upC (k35 (d := 0) h4 g1 fun M2 g2 f2 => ?_) (by omega)⟩
      refine e26_26_1 (upC (k34 (d := 0) h4 (s := .inl i) g2 (j := 2) (by decide) (by decide) fun M3 g3 f3 => e26_33 ⟨isE_t g3, ⟨isE_t g3, rfl⟩, fun _ => t26 g3.1.2.2 hT (by omega) fun M4 _ _ f4 => k _ M4 ?_ (((up1 f1).tr ((up1 f2).tr (up1 f3))).tr (up3 f4)), fun q => absurd (g3.2.1.symm.trans q) (by decide)⟩) (by omega))
      rw [hp]
      exact Sst.of (s := .inl i) g3 f4 s1 s2
end CL
