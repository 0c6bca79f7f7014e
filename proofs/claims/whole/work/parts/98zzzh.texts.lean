/-! The class reads a text; a draw is told. -/
def g0v (v : Nat) : Bool := decide (v % 2 = 1)
def g1v (v : Nat) : Bool := decide (v / 2 % 2 = 1)
def lnT (g : Nat → Bool) (T : Nat) : LNS → (Nat → Bool) → Nat → Bool
  | [], _, _ => false
  | (v, _, m) :: r, o, p => (g v && (o p && m T p)) || lnT g T r (fun p => o p && !(o p && m T p)) p
/-- what is told of the lines, from what is open -/
def LsG (T : Nat) (o t0 t1 : Nat → Bool) (M : Mm) (ls : LNS) : Prop := BM (fun p => t0 p || lnT g0v T ls o p) (M.2.1 13322 ((T - 1) * 2)) ∧ BM (fun p => t1 p || lnT g1v T ls o p) (M.2.1 13322 ((T - 1) * 2 + 1))
def aRead (k _ : Nat) : Bool := Nat.beq k 192 || (Nat.ble 13313 k && Nat.ble k 13322)
section CT2
variable {d : Nat} {tp : Nat → Int} {tl N T : Nat}
theorem k25 (h4 : tl ≤ 400) (hT : 1 ≤ T ∧ T ≤ 7) {M : Mm} (hs : Sst tp tl N T (.inr 0) M) {Q : List Value → Mm → Prop} (k : ∀ M', CPO tp tl N T (pText (tkk tp tl) (nnk tp tl)) (LsG T (fun _ => true) (fun _ => false) (fun _ => false) M') M' → Fr (aRdl T) M M' → Q [] M') : SC (d + 27) 25 [.ref 192] M Q := by
  have s1 : ∀ j, aTl T 13313 j = false ∧ aTl T 13314 j = false ∧ aTl T 13315 j = false := fun j => ⟨rfl, rfl, rfl⟩
  have s2 : ∀ j, aTl T 192 j = false := fun j => rfl
  have up1 : ∀ {M1 M2 : Mm}, Fr aRst M1 M2 → Fr (aRdl T) M1 M2 := fun h => h.up fun k j q => by unfold aRdl; rw [aRst_dd q]; rfl
  have up3 : ∀ {M1 M2 : Mm}, Fr (aTl T) M1 M2 → Fr (aRdl T) M1 M2 := fun h => h.up fun k j q => by unfold aRdl; rw [q, Bool.or_true]
  -- the end: the thing is END and no more, or it is refused
  have fin0 : ∀ (s : Nat ⊕ Nat) M1 (o1 o2 o3 o5 : Option Value), Sst tp tl N T s M1 → thS tp tl s = 0 → Q [] M1 → WM (d + 26) 25 Q 99 [some (.ref 192), o1, o2, o3, some (.int (nI 0)), o5] [] M1 := fun s M1 o1 o2 o3 o5 h1 h0 k => by
    have hE := isE_t h1
    exact go_in (e25_99 ⟨fun q => absurd rfl q, fun _ => ⟨hE, ⟨hE, rfl⟩, fun _ => go_in (e25_118 ⟨rfl, k⟩), fun q => absurd ((th_q h1 (j := 0)).mpr h0) q⟩⟩)
  have refu : ∀ i M1 (o4 : Option Value), Sst tp tl N T (.inr i) M1 → (∀ M', Sst tp tl N T (.inl i) M' → Fr (aRdl T) M1 M' → Q [] M') → WM (d + 26) 25 Q 114 [some (.ref 192), none, none, none, o4, none] [] M1 := fun i M1 o4 h1 k =>
    go_in (e25_114 (upC (k35 (d := 0) h4 h1 fun M2 g2 f2 => e25_118_1 ⟨rfl, k M2 g2 (up1 f2)⟩) (by omega)))
  have loop : ∀ n i M1 (o t0 t1 : Nat → Bool) (x : Int64) (o1 o3 : Option Value), n ≤ 10 → Sst tp tl N T (.inr i) M1 → BM o x → BM t0 (M1.2.1 13322 ((T - 1) * 2)) → BM t1 (M1.2.1 13322 ((T - 1) * 2 + 1)) → (∀ M', CPO tp tl N T (pLns (tkk tp tl) (nnk tp tl) n i) (LsG T o t0 t1 M') M' → Fr (aRdl T) M1 M' → Q [] M') → WM (d + 26) 25 Q 49 [some (.ref 192), o1, some (.long x), o3, some (.int (nI 1)), some (.int (nI (10 - n)))] [] M1 := by
    intro n
    induction n with
    | zero =>
      intro i M1 o t0 t1 x o1 o3 hn h1 ho b0 b1 k
      refine go_in (e25_49 ⟨fun q => absurd q (by decide), fun _ => br_t (nI_le (by omega) (by decide)) (go_in (e25_99 ⟨fun _ => ?_, fun q => absurd q (by decide)⟩))⟩)
      exact refu i M1 _ h1 k
    | succ n ih =>
      intro i M1 o t0 t1 x o1 o3 hn h1 ho b0 b1 k
      refine go_in (e25_49 ⟨fun q => absurd q (by decide), fun _ => br_f (nI_ge (by omega) (by decide)) (k26 h4 hT h1 ho b0 b1 fun y M2 g2 f2 => e25_66 ?_)⟩)
      have hE := isE_t g2.st
      have g2 : CPO tp tl N T (pLine (tkk tp tl) (nnk tp tl) i) (LnG T o t0 t1 y M2) M2 := g2
      have k : ∀ M', CPO tp tl N T (bdP (pLine (tkk tp tl) (nnk tp tl) i) fun j c v => if tkk tp tl j = 17 then bdP (pLns (tkk tp tl) (nnk tp tl) n (j + 1)) fun k _ ls => okP k [] ((v.1, c, v.2) :: ls) else if tkk tp tl j = 0 then okP j [] [(v.1, c, v.2)] else erP j) (LsG T o t0 t1 M') M' → Fr (aRdl T) M1 M' → Q [] M' := k
      have e10 : nI (10 - (n + 1)) + Int32.ofInt 1 = nI (10 - n) := by
        rw [nI_s]
        congr 1
        omega
      match hpl : pLine (tkk tp tl) (nnk tp tl) i, g2, k with
      | .inl e, g2, k =>
        have g2 : Sst tp tl N T (.inl e) M2 := g2
        refine ⟨hE, ⟨hE, rfl⟩, fun _ => go_in (e25_81 (go_in (e25_82 ⟨fun _ => go_in (e25_93 ?_), fun q => absurd rfl q⟩))), fun q => absurd (g2.2.1.symm.trans q) (by decide)⟩
        refine go_in (e25_49 ⟨fun _ => ?_, fun q => absurd rfl q⟩)
        exact fin0 (.inl e) M2 _ _ _ _ g2 rfl (k M2 g2 f2)
      | .inr (j, c, v), g2, k =>
        obtain ⟨g2, hy, c0, c1⟩ := g2
        have ht := fun n => th_q g2 (j := n)
        have k : ∀ M', CPO tp tl N T (if tkk tp tl j = 17 then bdP (pLns (tkk tp tl) (nnk tp tl) n (j + 1)) fun k _ ls => okP k [] ((v.1, c, v.2) :: ls) else if tkk tp tl j = 0 then okP j [] [(v.1, c, v.2)] else erP j) (LsG T o t0 t1 M') M' → Fr (aRdl T) M1 M' → Q [] M' := k
        refine ⟨hE, ⟨hE, rfl⟩, fun q => go_in (e25_81 (go_in (e25_82 ⟨fun _ => go_in (e25_93 ?_), fun q => absurd rfl q⟩))), fun q => go_in (e25_82 ⟨fun q => absurd q (by decide), fun _ => upC (k36 (d := 0) h4 g2 fun M3 g3 f3 => e25_93_1 ?_) (by omega)⟩)⟩
        · have h17 : ¬ tkk tp tl j = 17 := fun z => q ((ht 17).mpr z)
          rw [if_neg h17] at k
          refine go_in (e25_49 ⟨fun _ => ?_, fun q => absurd rfl q⟩)
          by_cases h0 : tkk tp tl j = 0
          · rw [if_pos h0] at k
            refine fin0 (.inr j) M2 _ _ _ _ g2 h0 (k M2 ⟨g2, c0.cg fun p hp => ?_, c1.cg fun p hp => ?_⟩ f2)
            · show _ = (t0 p || ((g0v v.1 && (o p && v.2 T p)) || false))
              rw [Bool.or_false]
              rfl
            · show _ = (t1 p || ((g1v v.1 && (o p && v.2 T p)) || false))
              rw [Bool.or_false]
              rfl
          · rw [if_neg h0] at k
            have hE2 := isE_t g2
            exact go_in (e25_99 ⟨fun q => absurd rfl q, fun _ => ⟨hE2, ⟨hE2, rfl⟩, fun q => absurd ((ht 0).mp q) h0, fun _ => refu j M2 _ g2 fun M' h' f' => k M' h' (f2.tr f')⟩⟩)
        · have h17 : tkk tp tl j = 17 := (ht 17).mp q
          rw [if_pos h17] at k
          rw [stS_1 (by omega)] at g3
          rw [e10]
          refine ih (j + 1) M3 _ _ _ y _ _ (by omega) g3 hy (by rw [(f3 _ _ rfl).2.1]; exact c0) (by rw [(f3 _ _ rfl).2.1]; exact c1) fun M' h' f' => k M' ?_ ((f2.tr (up1 f3)).tr f')
          match pLns (tkk tp tl) (nnk tp tl) n (j + 1), h' with
          | .inl e, h' => exact h'
          | .inr (j2, c2, ls), h' =>
            refine ⟨h'.1, h'.2.1.cg fun p hp => ?_, h'.2.2.cg fun p hp => ?_⟩
            · show _ = (t0 p || ((g0v v.1 && (o p && v.2 T p)) || lnT g0v T ls (fun p => o p && !(o p && v.2 T p)) p))
              rw [← Bool.or_assoc]
              rfl
            · show _ = (t1 p || ((g1v v.1 && (o p && v.2 T p)) || lnT g1v T ls (fun p => o p && !(o p && v.2 T p)) p))
              rw [← Bool.or_assoc]
              rfl
  have hE := isE_t hs
  have h6 := hs.1.2.2
  refine sC (by decide) rfl (go_in (e25_0 ?_))
  rw [h6, nI_sub hT.1, nI_mul, nI_add, nI_c (by omega), nI_c (by omega)]
  obtain ⟨M1, hM1⟩ : ∃ M1, M1 = sJ (sJ M 13322 ((T - 1) * 2) (lN 0)) 13322 ((T - 1) * 2 + 1) (lN 0) := ⟨_, rfl⟩
  have hF : Fr (aTl T) M M1 := by
    rw [hM1]
    exact (Fr.rf.sJ (aTl_0 (j := 0))).sJ aTl_1
  have hs1 : Sst tp tl N T (.inr 0) M1 := hs.of hF s1 s2
  have z0 : M1.2.1 13322 ((T - 1) * 2) = lN 0 := by
    rw [hM1, sJ_j _ _ (by omega), sJ_e]
  have z1 : M1.2.1 13322 ((T - 1) * 2 + 1) = lN 0 := by
    rw [hM1, sJ_e]
  rw [← hM1]
  have hE1 := isE_t hs1
  refine ⟨nI_in2 (by omega) (by decide), nI_in2 (by omega) (by decide), hE1, ⟨hE1, rfl⟩, fun q => go_in (e25_43 (go_in (e25_44 (go_in (e25_49 ⟨fun _ => ?_, fun z => absurd rfl z⟩))))), fun q => go_in (e25_44 ?_)⟩
  · have h0 : tkk tp tl 0 = 0 := (th_q hs1 (j := 0)).mp q
    refine fin0 (.inr 0) M1 _ _ _ _ hs1 h0 (k M1 ?_ (up3 hF))
    unfold pText
    rw [if_pos h0]
    refine ⟨hs1, ?_, ?_⟩
    · rw [z0]
      exact BM_0.cg fun p hp => rfl
    · rw [z1]
      exact BM_0.cg fun p hp => rfl
  · have h0 : ¬ tkk tp tl 0 = 0 := fun z => q ((th_q hs1 (j := 0)).mpr z)
    refine loop 10 0 M1 (fun _ => true) (fun _ => false) (fun _ => false) _ _ _ (Nat.le_refl _) hs1 BM_all (by rw [z0]; exact BM_0) (by rw [z1]; exact BM_0) fun M' h' f' => k M' ?_ ((up3 hF).tr f')
    unfold pText
    rw [if_neg h0]
    exact h'
end CT2
