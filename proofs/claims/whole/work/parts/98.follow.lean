/-! The class's chains follow. -/
def loY (y : Nat → Nat) (k : Int) (V : Nat → Nat → Nat) (l : Nat) : Nat := if l ≤ 7 then lowS y k (V l) l else 0
theorem loY_le {y : Nat → Nat} {k : Int} {V : Nat → Nat → Nat} (l : Nat) : loY y k V l ≤ 7 := by
  unfold loY
  split
  · unfold lowS
    have := lw_le (v := V l) (a := l - y 3) (l := l) (y 2)
    omega
  · omega
theorem loY_at {y : Nat → Nat} {k : Int} {V : Nat → Nat → Nat} {l : Nat} (h : l ≤ 7) : loY y k V l = lowS y k (V l) l := if_pos h
def paY (y : Nat → Nat) (fo : Nat → Nat → Nat → Int) (V : Nat → Nat → Nat) (f l : Nat) : Int := fo f l (gt (V l) (l - y 3) f)
theorem FLP_any (W : Nat → Nat → Int) {n : Nat} (hn : 1 ≤ n) : ∃ C B, FLP W n C B := FLE W n hn
def RY (y : Nat → Nat) (p q : Nat) (lo : Nat → Nat) : Nat → Nat → Int := AX (pW p (Wm y lo)) ((q : Int) * (y 6 : Int))
theorem prt_yW (w : Nat → Nat) (r a b : Nat) : ∀ k, k ≤ 4 → prt (yW w r) a b k = prt (yW w 0) a b k
  | 0, _ => rfl
  | k + 1, h => by
    show prt (yW w r) a b k + (if min (w 0) (a + k) = b then yW w r (7 + k) else 0) = prt (yW w 0) a b k + (if min (w 0) (a + k) = b then yW w 0 (7 + k) else 0)
    rw [prt_yW w r a b k (by omega)]
    rcases (show k = 0 ∨ k = 1 ∨ k = 2 ∨ k = 3 by omega) with e | e | e | e <;> subst e <;> rfl
theorem RY_RSQ (w : Nat → Nat) (r : Nat) (lo : Nat → Nat) : RY (yW w r) (w 6) (w 7) lo = RSQ w lo := by
  funext i c
  unfold RY RSQ AX pW Wm
  rw [prt_yW w r _ _ 4 (by omega)]
  rfl
/-- the class's upper numbers and base are Cramer's -/
theorem wth_crm {y : Nat → Nat} {k : Int} (hb : YB y k) {lo : Nat → Nat} {C : Nat → Int} {B : Nat → Nat → Nat → Int} (h : FLP (Wm y lo) (y 0 + 1) C B) (pay : Nat → Int) {p q : Nat} (hpq : p < q) {l : Nat} (hl : l < y 0 + 1) : wth y lo C pay p q l = crm (RY y p q lo) (y 0 + 1) (fun i => pay i * ((q : Int) * (y 6 : Int))) l := by
  have h1 := worth_eq h (by omega) pay p ((q : Int) * (y 6 : Int)) (Wm_MM hb hpq).1 hl
  unfold RY
  rw [← h1]
  unfold wth
  rw [hs_congr (y 0 + 1) (fun k hk => tT_tB h pay k (by omega) l hl)]
theorem hb_det {y : Nat → Nat} {lo : Nat → Nat} {C : Nat → Int} {B : Nat → Nat → Nat → Int} (h : FLP (Wm y lo) (y 0 + 1) C B) (p q : Nat) : hb C p ((q : Int) * (y 6 : Int)) (y 0 + 1) = det (RY y p q lo) (y 0 + 1) := (FLP_scale h (by omega) p _).symm
theorem aFo_pump {o : Nat} : ∀ k j, aFo o k j = false → aPumpBy k j = false := fun k j h => (Bool.or_eq_false_iff.mp h).1
section FL0
variable {d : Nat} {M : Mm} {y : Nat → Nat} {k : Int}
theorem aFo_640_0 : ∀ j, j < 7 → aFo 0 640 j = false := by decide
theorem aFo_in_0 : ∀ c, 1024 + 64 * 0 ≤ c → c < 1024 + 64 * 0 + 64 → ∀ j, aFo 0 c j = true := fun c h1 h2 j => by
  unfold aFo
  rw [show Nat.ble (1024 + 64 * 0) c = true from Nat.ble_eq.mpr h1, show Nat.blt c (1024 + 64 * 0 + 64) = true from Nat.blt_eq.mpr h2]
  cases aPumpBy c j <;> rfl
theorem aFo_sh_0 : ∀ k j, aFo 0 k j = false → aSh 0 k j = false := fun k j h => by
  cases h2 : aSh 0 k j with
  | false => rfl
  | true =>
    unfold aSh at h2
    rw [Bool.or_eq_true, Bool.or_eq_true] at h2
    have : k = 1027 + 64 * 0 ∨ k = 1028 + 64 * 0 ∨ k = 1029 + 64 * 0 := by
      rcases h2 with q | q | q
      · exact Or.inl (Nat.eq_of_beq_eq_true q)
      · exact Or.inr (Or.inl (Nat.eq_of_beq_eq_true q))
      · exact Or.inr (Or.inr (Nat.eq_of_beq_eq_true q))
    rw [aFo_in_0 k (by omega) (by omega) j] at h
    cases h
set_option maxHeartbeats 1000000 in
theorem c0_0 (hy : YR y k M) (hb : YB y k) {wa : Nat → Nat → Nat → Nat} (hwa : WA y wa M) (hwa3 : ∀ b l f, wa b l f ≤ 3) {fo : Nat → Nat → Nat → Int} (hfo : FO y 41992 fo M) {b : Nat} (hbb : b < 2) : SC (d + 5) 0 [.ref 0, .int (nI b)] M (fun vs N => vs = [] ∧ Fr (aFo 0) M N ∧ LOC 0 y (loY y k (wa b)) N ∧ (∀ f, f < y 2 → PAY 0 f y (paY y fo (wa b) f) N) ∧ ∃ C B, FLP (Wm y (loY y k (wa b))) (y 0 + 1) C B ∧ COE 0 y C N) := by
  have h0 := hb.1.2.1
  have h2 := hb.2.1.1
  have ok : ∀ N, Fr (aFo 0) M N → YR y k N ∧ WA y wa N ∧ FO y 41992 fo N := fun N hF => ⟨hy.of hF aFo_640_0 (fun j => rfl), hwa.of hF (fun j => rfl), hfo.of hF (fun j => rfl)⟩
  refine sC (by decide) rfl (go_in (e0_0 ?_))
  have LL : ∀ k' (o3 : Option Value) l N, l + k' = y 0 + 1 → Fr (aFo 0) M N → (∀ l', l' < l → N.1 (1025 + 64 * 0) l' = nI (loY y k (wa b) l')) → (∀ f l', f < y 2 → l' < l → N.1 (1026 + 64 * 0) (f * 8 + l') = iz (paY y fo (wa b) f l')) → WM (d + 4) 0 (fun vs N => vs = [] ∧ Fr (aFo 0) M N ∧ LOC 0 y (loY y k (wa b)) N ∧ (∀ f, f < y 2 → PAY 0 f y (paY y fo (wa b) f) N) ∧ ∃ C B, FLP (Wm y (loY y k (wa b))) (y 0 + 1) C B ∧ COE 0 y C N) 2 [some (.ref 0), some (.int (nI b)), some (.int (nI l)), o3] [] N := by
    intro k'
    induction k' with
    | zero =>
      intro o3 l N hl hF hlo hpa
      obtain ⟨hyN, -, -⟩ := ok N hF
      have hl : l = y 0 + 1 := by omega
      subst hl
      obtain ⟨C, B, hfl⟩ := FLP_any (Wm y (loY y k (wa b))) (show 1 ≤ y 0 + 1 by omega)
      refine go_in (e0_2 (br_t (by rw [hyN.1.1]; exact nI_lt (by omega) (by omega)) (go_in (e0_80 (useC (c1_0 (d := d) hyN hb (fun l hl => hlo l hl) loY_le hfl) fun vs N2 h => ?_)))))
      obtain ⟨rfl, hF2, hC⟩ := h
      exact e0_84 ⟨rfl, rfl, hF.tr (hF2.le aFo_sh_0), fun l hl => by rw [(hF2 (1025 + 64 * 0) l rfl).1]; exact hlo l hl, fun f hf l hl => by rw [(hF2 (1026 + 64 * 0) _ rfl).1]; exact hpa f l hf hl, C, B, hfl, hC⟩
    | succ k' ih =>
      intro o3 l N hl hF hlo hpa
      obtain ⟨hyN, hwN, hfN⟩ := ok N hF
      refine go_in (e0_2 (br_f (by rw [hyN.1.1]; exact nI_nlt (by omega) (by omega)) (useC (upC (c68 (d := d) hyN hb hwN hwa3 (show l ≤ y 0 by omega) hbb) (by omega)) fun vs N2 h => ?_)))
      obtain ⟨rfl, hF2, -, hg, h13, -⟩ := h
      have hF2' : Fr (aFo 0) M N2 := hF.tr (hF2.le aFo_pump)
      refine e0_22 ?_
      rw [nI_c (by omega), h13, ← loY_at (show l ≤ 7 by omega)]
      refine ⟨nI_in2 (by omega) (by decide), ?_⟩
      have LF : ∀ k2 f N3, f + k2 = y 2 → Fr (aFo 0) M N3 → (∀ l', l' < l + 1 → N3.1 (1025 + 64 * 0) l' = nI (loY y k (wa b) l')) → (∀ f' l', f' < y 2 → l' < l → N3.1 (1026 + 64 * 0) (f' * 8 + l') = iz (paY y fo (wa b) f' l')) → (∀ f', f' < f → N3.1 (1026 + 64 * 0) (f' * 8 + l) = iz (paY y fo (wa b) f' l)) → (∀ f, f < y 2 → N3.1 41996 f = nI (gt (wa b l) (l - y 3) f)) → WM (d + 4) 0 (fun vs N => vs = [] ∧ Fr (aFo 0) M N ∧ LOC 0 y (loY y k (wa b)) N ∧ (∀ f, f < y 2 → PAY 0 f y (paY y fo (wa b) f) N) ∧ ∃ C B, FLP (Wm y (loY y k (wa b))) (y 0 + 1) C B ∧ COE 0 y C N) 37 [some (.ref 0), some (.int (nI b)), some (.int (nI l)), some (.int (nI f))] [] N3 := by
        intro k2
        induction k2 with
        | zero =>
          intro f N3 hf hF3 hlo3 hpa3 hpl3 hg3
          obtain ⟨hy3, -, -⟩ := ok N3 hF3
          refine go_in (e0_37 (br_t (by rw [hy3.1.2.2.1]; exact nI_le (by omega) (by omega)) (go_in (e0_74 ?_))))
          rw [nI_s]
          refine ih _ (l + 1) _ (by omega) hF3 hlo3 fun f' l' h1 h3 => ?_
          by_cases e : l' = l
          · subst e; exact hpl3 f' (by omega)
          · exact hpa3 f' l' h1 (by omega)
        | succ k2 ih2 =>
          intro f N3 hf hF3 hlo3 hpa3 hpl3 hg3
          obtain ⟨hy3, -, hf3⟩ := ok N3 hF3
          have hg4 : gt (wa b l) (l - y 3) f ≤ wa b l f := gt_le
          have hw3 := hwa3 b l f
          refine go_in (e0_37 (br_f (by rw [hy3.1.2.2.1]; exact nI_ge (by omega) (by omega)) (useC (upC (c70 (d := d) hb hf3 (show f < y 2 by omega) (show l ≤ y 0 by omega) (n := gt (wa b l) (l - y 3) f) (by omega) (hg3 f (by omega))) (by omega)) fun vs N4 h => ?_)))
          obtain ⟨rfl, rfl⟩ := h
          refine e0_67 ?_
          rw [nI_mul, nI_add, nI_c (by omega), nI_s]
          refine ⟨nI_in2 (by omega) (by decide), ih2 (f + 1) _ (by omega) (hF3.sI (aFo_in_0 _ (by omega) (by omega) _)) (fun l' h1 => ?_) (fun f' l' h1 h3 => ?_) (fun f' h1 => ?_) fun f' h1 => ?_⟩
          · rw [sI_v, if_neg (by omega)]; exact hlo3 l' h1
          · rw [sI_v, if_neg (by omega)]; exact hpa3 f' l' h1 h3
          · rw [sI_v]
            by_cases e : f' = f
            · subst e; rw [if_pos ⟨rfl, rfl⟩]; rfl
            · rw [if_neg (by omega)]; exact hpl3 f' (by omega)
          · rw [sI_v, if_neg (by omega)]; exact hg3 f' h1
      refine LF (y 2) 0 _ (by omega) (hF2'.sI (aFo_in_0 _ (by omega) (by omega) _)) (fun l' h1 => ?_) (fun f' l' h1 h3 => ?_) (fun f' h1 => absurd h1 (Nat.not_lt_zero f')) fun f' h1 => ?_
      · rw [sI_v]
        by_cases e : l' = l
        · subst e; rw [if_pos ⟨rfl, rfl⟩]
        · rw [if_neg (by omega), (hF2 (1025 + 64 * 0) l' rfl).1]; exact hlo l' (by omega)
      · rw [sI_v, if_neg (by omega), (hF2 (1026 + 64 * 0) _ rfl).1]; exact hpa f' l' h1 h3
      · rw [sI_v, if_neg (by omega)]; exact hg f' h1
  exact LL (y 0 + 1) _ 0 _ (by omega) Fr.rf (fun l' h => absurd h (Nat.not_lt_zero l')) fun f l' _ h => absurd h (Nat.not_lt_zero l')
end FL0
section FL1
variable {d : Nat} {M : Mm} {y : Nat → Nat} {k : Int}
theorem aFo_640_1 : ∀ j, j < 7 → aFo 1 640 j = false := by decide
theorem aFo_in_1 : ∀ c, 1024 + 64 * 1 ≤ c → c < 1024 + 64 * 1 + 64 → ∀ j, aFo 1 c j = true := fun c h1 h2 j => by
  unfold aFo
  rw [show Nat.ble (1024 + 64 * 1) c = true from Nat.ble_eq.mpr h1, show Nat.blt c (1024 + 64 * 1 + 64) = true from Nat.blt_eq.mpr h2]
  cases aPumpBy c j <;> rfl
theorem aFo_sh_1 : ∀ k j, aFo 1 k j = false → aSh 1 k j = false := fun k j h => by
  cases h2 : aSh 1 k j with
  | false => rfl
  | true =>
    unfold aSh at h2
    rw [Bool.or_eq_true, Bool.or_eq_true] at h2
    have : k = 1027 + 64 * 1 ∨ k = 1028 + 64 * 1 ∨ k = 1029 + 64 * 1 := by
      rcases h2 with q | q | q
      · exact Or.inl (Nat.eq_of_beq_eq_true q)
      · exact Or.inr (Or.inl (Nat.eq_of_beq_eq_true q))
      · exact Or.inr (Or.inr (Nat.eq_of_beq_eq_true q))
    rw [aFo_in_1 k (by omega) (by omega) j] at h
    cases h
set_option maxHeartbeats 1000000 in
theorem c0_1 (hy : YR y k M) (hb : YB y k) {wa : Nat → Nat → Nat → Nat} (hwa : WA y wa M) (hwa3 : ∀ b l f, wa b l f ≤ 3) {fo : Nat → Nat → Nat → Int} (hfo : FO y 41992 fo M) {b : Nat} (hbb : b < 2) : SC (d + 5) 0 [.ref 1, .int (nI b)] M (fun vs N => vs = [] ∧ Fr (aFo 1) M N ∧ LOC 1 y (loY y k (wa b)) N ∧ (∀ f, f < y 2 → PAY 1 f y (paY y fo (wa b) f) N) ∧ ∃ C B, FLP (Wm y (loY y k (wa b))) (y 0 + 1) C B ∧ COE 1 y C N) := by
  have h0 := hb.1.2.1
  have h2 := hb.2.1.1
  have ok : ∀ N, Fr (aFo 1) M N → YR y k N ∧ WA y wa N ∧ FO y 41992 fo N := fun N hF => ⟨hy.of hF aFo_640_1 (fun j => rfl), hwa.of hF (fun j => rfl), hfo.of hF (fun j => rfl)⟩
  refine sC (by decide) rfl (go_in (e0_0_1 ?_))
  have LL : ∀ k' (o3 : Option Value) l N, l + k' = y 0 + 1 → Fr (aFo 1) M N → (∀ l', l' < l → N.1 (1025 + 64 * 1) l' = nI (loY y k (wa b) l')) → (∀ f l', f < y 2 → l' < l → N.1 (1026 + 64 * 1) (f * 8 + l') = iz (paY y fo (wa b) f l')) → WM (d + 4) 0 (fun vs N => vs = [] ∧ Fr (aFo 1) M N ∧ LOC 1 y (loY y k (wa b)) N ∧ (∀ f, f < y 2 → PAY 1 f y (paY y fo (wa b) f) N) ∧ ∃ C B, FLP (Wm y (loY y k (wa b))) (y 0 + 1) C B ∧ COE 1 y C N) 2 [some (.ref 1), some (.int (nI b)), some (.int (nI l)), o3] [] N := by
    intro k'
    induction k' with
    | zero =>
      intro o3 l N hl hF hlo hpa
      obtain ⟨hyN, -, -⟩ := ok N hF
      have hl : l = y 0 + 1 := by omega
      subst hl
      obtain ⟨C, B, hfl⟩ := FLP_any (Wm y (loY y k (wa b))) (show 1 ≤ y 0 + 1 by omega)
      refine go_in (e0_2_1 (br_t (by rw [hyN.1.1]; exact nI_lt (by omega) (by omega)) (go_in (e0_80_1 (useC (c1_1 (d := d) hyN hb (fun l hl => hlo l hl) loY_le hfl) fun vs N2 h => ?_)))))
      obtain ⟨rfl, hF2, hC⟩ := h
      exact e0_84_1 ⟨rfl, rfl, hF.tr (hF2.le aFo_sh_1), fun l hl => by rw [(hF2 (1025 + 64 * 1) l rfl).1]; exact hlo l hl, fun f hf l hl => by rw [(hF2 (1026 + 64 * 1) _ rfl).1]; exact hpa f l hf hl, C, B, hfl, hC⟩
    | succ k' ih =>
      intro o3 l N hl hF hlo hpa
      obtain ⟨hyN, hwN, hfN⟩ := ok N hF
      refine go_in (e0_2_1 (br_f (by rw [hyN.1.1]; exact nI_nlt (by omega) (by omega)) (useC (upC (c68 (d := d) hyN hb hwN hwa3 (show l ≤ y 0 by omega) hbb) (by omega)) fun vs N2 h => ?_)))
      obtain ⟨rfl, hF2, -, hg, h13, -⟩ := h
      have hF2' : Fr (aFo 1) M N2 := hF.tr (hF2.le aFo_pump)
      refine e0_22_1 ?_
      rw [nI_c (by omega), h13, ← loY_at (show l ≤ 7 by omega)]
      refine ⟨nI_in2 (by omega) (by decide), ?_⟩
      have LF : ∀ k2 f N3, f + k2 = y 2 → Fr (aFo 1) M N3 → (∀ l', l' < l + 1 → N3.1 (1025 + 64 * 1) l' = nI (loY y k (wa b) l')) → (∀ f' l', f' < y 2 → l' < l → N3.1 (1026 + 64 * 1) (f' * 8 + l') = iz (paY y fo (wa b) f' l')) → (∀ f', f' < f → N3.1 (1026 + 64 * 1) (f' * 8 + l) = iz (paY y fo (wa b) f' l)) → (∀ f, f < y 2 → N3.1 41996 f = nI (gt (wa b l) (l - y 3) f)) → WM (d + 4) 0 (fun vs N => vs = [] ∧ Fr (aFo 1) M N ∧ LOC 1 y (loY y k (wa b)) N ∧ (∀ f, f < y 2 → PAY 1 f y (paY y fo (wa b) f) N) ∧ ∃ C B, FLP (Wm y (loY y k (wa b))) (y 0 + 1) C B ∧ COE 1 y C N) 37 [some (.ref 1), some (.int (nI b)), some (.int (nI l)), some (.int (nI f))] [] N3 := by
        intro k2
        induction k2 with
        | zero =>
          intro f N3 hf hF3 hlo3 hpa3 hpl3 hg3
          obtain ⟨hy3, -, -⟩ := ok N3 hF3
          refine go_in (e0_37_1 (br_t (by rw [hy3.1.2.2.1]; exact nI_le (by omega) (by omega)) (go_in (e0_74_1 ?_))))
          rw [nI_s]
          refine ih _ (l + 1) _ (by omega) hF3 hlo3 fun f' l' h1 h3 => ?_
          by_cases e : l' = l
          · subst e; exact hpl3 f' (by omega)
          · exact hpa3 f' l' h1 (by omega)
        | succ k2 ih2 =>
          intro f N3 hf hF3 hlo3 hpa3 hpl3 hg3
          obtain ⟨hy3, -, hf3⟩ := ok N3 hF3
          have hg4 : gt (wa b l) (l - y 3) f ≤ wa b l f := gt_le
          have hw3 := hwa3 b l f
          refine go_in (e0_37_1 (br_f (by rw [hy3.1.2.2.1]; exact nI_ge (by omega) (by omega)) (useC (upC (c70 (d := d) hb hf3 (show f < y 2 by omega) (show l ≤ y 0 by omega) (n := gt (wa b l) (l - y 3) f) (by omega) (hg3 f (by omega))) (by omega)) fun vs N4 h => ?_)))
          obtain ⟨rfl, rfl⟩ := h
          refine e0_67_1 ?_
          rw [nI_mul, nI_add, nI_c (by omega), nI_s]
          refine ⟨nI_in2 (by omega) (by decide), ih2 (f + 1) _ (by omega) (hF3.sI (aFo_in_1 _ (by omega) (by omega) _)) (fun l' h1 => ?_) (fun f' l' h1 h3 => ?_) (fun f' h1 => ?_) fun f' h1 => ?_⟩
          · rw [sI_v, if_neg (by omega)]; exact hlo3 l' h1
          · rw [sI_v, if_neg (by omega)]; exact hpa3 f' l' h1 h3
          · rw [sI_v]
            by_cases e : f' = f
            · subst e; rw [if_pos ⟨rfl, rfl⟩]; rfl
            · rw [if_neg (by omega)]; exact hpl3 f' (by omega)
          · rw [sI_v, if_neg (by omega)]; exact hg3 f' h1
      refine LF (y 2) 0 _ (by omega) (hF2'.sI (aFo_in_1 _ (by omega) (by omega) _)) (fun l' h1 => ?_) (fun f' l' h1 h3 => ?_) (fun f' h1 => absurd h1 (Nat.not_lt_zero f')) fun f' h1 => ?_
      · rw [sI_v]
        by_cases e : l' = l
        · subst e; rw [if_pos ⟨rfl, rfl⟩]
        · rw [if_neg (by omega), (hF2 (1025 + 64 * 1) l' rfl).1]; exact hlo l' (by omega)
      · rw [sI_v, if_neg (by omega), (hF2 (1026 + 64 * 1) _ rfl).1]; exact hpa f' l' h1 h3
      · rw [sI_v, if_neg (by omega)]; exact hg f' h1
  exact LL (y 0 + 1) _ 0 _ (by omega) Fr.rf (fun l' h => absurd h (Nat.not_lt_zero l')) fun f l' _ h => absurd h (Nat.not_lt_zero l')
end FL1
section FL2
variable {d : Nat} {M : Mm} {y : Nat → Nat} {k : Int}
theorem aFo_640_2 : ∀ j, j < 7 → aFo 2 640 j = false := by decide
theorem aFo_in_2 : ∀ c, 1024 + 64 * 2 ≤ c → c < 1024 + 64 * 2 + 64 → ∀ j, aFo 2 c j = true := fun c h1 h2 j => by
  unfold aFo
  rw [show Nat.ble (1024 + 64 * 2) c = true from Nat.ble_eq.mpr h1, show Nat.blt c (1024 + 64 * 2 + 64) = true from Nat.blt_eq.mpr h2]
  cases aPumpBy c j <;> rfl
theorem aFo_sh_2 : ∀ k j, aFo 2 k j = false → aSh 2 k j = false := fun k j h => by
  cases h2 : aSh 2 k j with
  | false => rfl
  | true =>
    unfold aSh at h2
    rw [Bool.or_eq_true, Bool.or_eq_true] at h2
    have : k = 1027 + 64 * 2 ∨ k = 1028 + 64 * 2 ∨ k = 1029 + 64 * 2 := by
      rcases h2 with q | q | q
      · exact Or.inl (Nat.eq_of_beq_eq_true q)
      · exact Or.inr (Or.inl (Nat.eq_of_beq_eq_true q))
      · exact Or.inr (Or.inr (Nat.eq_of_beq_eq_true q))
    rw [aFo_in_2 k (by omega) (by omega) j] at h
    cases h
set_option maxHeartbeats 1000000 in
theorem c0_2 (hy : YR y k M) (hb : YB y k) {wa : Nat → Nat → Nat → Nat} (hwa : WA y wa M) (hwa3 : ∀ b l f, wa b l f ≤ 3) {fo : Nat → Nat → Nat → Int} (hfo : FO y 41992 fo M) {b : Nat} (hbb : b < 2) : SC (d + 5) 0 [.ref 2, .int (nI b)] M (fun vs N => vs = [] ∧ Fr (aFo 2) M N ∧ LOC 2 y (loY y k (wa b)) N ∧ (∀ f, f < y 2 → PAY 2 f y (paY y fo (wa b) f) N) ∧ ∃ C B, FLP (Wm y (loY y k (wa b))) (y 0 + 1) C B ∧ COE 2 y C N) := by
  have h0 := hb.1.2.1
  have h2 := hb.2.1.1
  have ok : ∀ N, Fr (aFo 2) M N → YR y k N ∧ WA y wa N ∧ FO y 41992 fo N := fun N hF => ⟨hy.of hF aFo_640_2 (fun j => rfl), hwa.of hF (fun j => rfl), hfo.of hF (fun j => rfl)⟩
  refine sC (by decide) rfl (go_in (e0_0_2 ?_))
  have LL : ∀ k' (o3 : Option Value) l N, l + k' = y 0 + 1 → Fr (aFo 2) M N → (∀ l', l' < l → N.1 (1025 + 64 * 2) l' = nI (loY y k (wa b) l')) → (∀ f l', f < y 2 → l' < l → N.1 (1026 + 64 * 2) (f * 8 + l') = iz (paY y fo (wa b) f l')) → WM (d + 4) 0 (fun vs N => vs = [] ∧ Fr (aFo 2) M N ∧ LOC 2 y (loY y k (wa b)) N ∧ (∀ f, f < y 2 → PAY 2 f y (paY y fo (wa b) f) N) ∧ ∃ C B, FLP (Wm y (loY y k (wa b))) (y 0 + 1) C B ∧ COE 2 y C N) 2 [some (.ref 2), some (.int (nI b)), some (.int (nI l)), o3] [] N := by
    intro k'
    induction k' with
    | zero =>
      intro o3 l N hl hF hlo hpa
      obtain ⟨hyN, -, -⟩ := ok N hF
      have hl : l = y 0 + 1 := by omega
      subst hl
      obtain ⟨C, B, hfl⟩ := FLP_any (Wm y (loY y k (wa b))) (show 1 ≤ y 0 + 1 by omega)
      refine go_in (e0_2_2 (br_t (by rw [hyN.1.1]; exact nI_lt (by omega) (by omega)) (go_in (e0_80_2 (useC (c1_2 (d := d) hyN hb (fun l hl => hlo l hl) loY_le hfl) fun vs N2 h => ?_)))))
      obtain ⟨rfl, hF2, hC⟩ := h
      exact e0_84_2 ⟨rfl, rfl, hF.tr (hF2.le aFo_sh_2), fun l hl => by rw [(hF2 (1025 + 64 * 2) l rfl).1]; exact hlo l hl, fun f hf l hl => by rw [(hF2 (1026 + 64 * 2) _ rfl).1]; exact hpa f l hf hl, C, B, hfl, hC⟩
    | succ k' ih =>
      intro o3 l N hl hF hlo hpa
      obtain ⟨hyN, hwN, hfN⟩ := ok N hF
      refine go_in (e0_2_2 (br_f (by rw [hyN.1.1]; exact nI_nlt (by omega) (by omega)) (useC (upC (c68 (d := d) hyN hb hwN hwa3 (show l ≤ y 0 by omega) hbb) (by omega)) fun vs N2 h => ?_)))
      obtain ⟨rfl, hF2, -, hg, h13, -⟩ := h
      have hF2' : Fr (aFo 2) M N2 := hF.tr (hF2.le aFo_pump)
      refine e0_22_2 ?_
      rw [nI_c (by omega), h13, ← loY_at (show l ≤ 7 by omega)]
      refine ⟨nI_in2 (by omega) (by decide), ?_⟩
      have LF : ∀ k2 f N3, f + k2 = y 2 → Fr (aFo 2) M N3 → (∀ l', l' < l + 1 → N3.1 (1025 + 64 * 2) l' = nI (loY y k (wa b) l')) → (∀ f' l', f' < y 2 → l' < l → N3.1 (1026 + 64 * 2) (f' * 8 + l') = iz (paY y fo (wa b) f' l')) → (∀ f', f' < f → N3.1 (1026 + 64 * 2) (f' * 8 + l) = iz (paY y fo (wa b) f' l)) → (∀ f, f < y 2 → N3.1 41996 f = nI (gt (wa b l) (l - y 3) f)) → WM (d + 4) 0 (fun vs N => vs = [] ∧ Fr (aFo 2) M N ∧ LOC 2 y (loY y k (wa b)) N ∧ (∀ f, f < y 2 → PAY 2 f y (paY y fo (wa b) f) N) ∧ ∃ C B, FLP (Wm y (loY y k (wa b))) (y 0 + 1) C B ∧ COE 2 y C N) 37 [some (.ref 2), some (.int (nI b)), some (.int (nI l)), some (.int (nI f))] [] N3 := by
        intro k2
        induction k2 with
        | zero =>
          intro f N3 hf hF3 hlo3 hpa3 hpl3 hg3
          obtain ⟨hy3, -, -⟩ := ok N3 hF3
          refine go_in (e0_37_2 (br_t (by rw [hy3.1.2.2.1]; exact nI_le (by omega) (by omega)) (go_in (e0_74_2 ?_))))
          rw [nI_s]
          refine ih _ (l + 1) _ (by omega) hF3 hlo3 fun f' l' h1 h3 => ?_
          by_cases e : l' = l
          · subst e; exact hpl3 f' (by omega)
          · exact hpa3 f' l' h1 (by omega)
        | succ k2 ih2 =>
          intro f N3 hf hF3 hlo3 hpa3 hpl3 hg3
          obtain ⟨hy3, -, hf3⟩ := ok N3 hF3
          have hg4 : gt (wa b l) (l - y 3) f ≤ wa b l f := gt_le
          have hw3 := hwa3 b l f
          refine go_in (e0_37_2 (br_f (by rw [hy3.1.2.2.1]; exact nI_ge (by omega) (by omega)) (useC (upC (c70 (d := d) hb hf3 (show f < y 2 by omega) (show l ≤ y 0 by omega) (n := gt (wa b l) (l - y 3) f) (by omega) (hg3 f (by omega))) (by omega)) fun vs N4 h => ?_)))
          obtain ⟨rfl, rfl⟩ := h
          refine e0_67_2 ?_
          rw [nI_mul, nI_add, nI_c (by omega), nI_s]
          refine ⟨nI_in2 (by omega) (by decide), ih2 (f + 1) _ (by omega) (hF3.sI (aFo_in_2 _ (by omega) (by omega) _)) (fun l' h1 => ?_) (fun f' l' h1 h3 => ?_) (fun f' h1 => ?_) fun f' h1 => ?_⟩
          · rw [sI_v, if_neg (by omega)]; exact hlo3 l' h1
          · rw [sI_v, if_neg (by omega)]; exact hpa3 f' l' h1 h3
          · rw [sI_v]
            by_cases e : f' = f
            · subst e; rw [if_pos ⟨rfl, rfl⟩]; rfl
            · rw [if_neg (by omega)]; exact hpl3 f' (by omega)
          · rw [sI_v, if_neg (by omega)]; exact hg3 f' h1
      refine LF (y 2) 0 _ (by omega) (hF2'.sI (aFo_in_2 _ (by omega) (by omega) _)) (fun l' h1 => ?_) (fun f' l' h1 h3 => ?_) (fun f' h1 => absurd h1 (Nat.not_lt_zero f')) fun f' h1 => ?_
      · rw [sI_v]
        by_cases e : l' = l
        · subst e; rw [if_pos ⟨rfl, rfl⟩]
        · rw [if_neg (by omega), (hF2 (1025 + 64 * 2) l' rfl).1]; exact hlo l' (by omega)
      · rw [sI_v, if_neg (by omega), (hF2 (1026 + 64 * 2) _ rfl).1]; exact hpa f' l' h1 h3
      · rw [sI_v, if_neg (by omega)]; exact hg f' h1
  exact LL (y 0 + 1) _ 0 _ (by omega) Fr.rf (fun l' h => absurd h (Nat.not_lt_zero l')) fun f l' _ h => absurd h (Nat.not_lt_zero l')
end FL2
