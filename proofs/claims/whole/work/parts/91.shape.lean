/-! The class's chains: the numbers of Faddeev and LeVerrier. -/
theorem lz_neg' (a : Int) : -lz a = lz (-a) := lz_neg a
theorem fJ_v (M : Mm) (x n : Nat) (v : Int64) (a b : Nat) : (fJ M x n v).2.1 a b = if a = x ∧ b < n then v else M.2.1 a b := rfl
theorem Fr.fJ {P : Nat → Nat → Bool} {M N : Mm} {x n : Nat} {v : Int64} (h : Fr P M N) (hp : ∀ b, P x b = true) : Fr P M (fJ N x n v) := fun a b q => by
  refine ⟨(h a b q).1, ?_, (h a b q).2.2⟩
  rw [fJ_v, if_neg (fun e => by rw [e.1, hp b] at q; cases q)]
  exact (h a b q).2.1
def PB (y lo : Nat → Nat) (B : Nat → Nat → Nat → Int) (k i j : Nat) : Int := sm (fun l => Wm y lo i l * B k l j) (y 0 + 1)
theorem ix8 {i j i' j' : Nat} (hj : j < 8) (hj' : j' < 8) (e : i * 8 + j = i' * 8 + j') : i = i' ∧ j = j' := by omega
section CI0
variable {d : Nat} {M : Mm} {y lo : Nat → Nat} {k : Int}
set_option maxHeartbeats 2000000 in
theorem c1_0 (hy : YR y k M) (hb : YB y k) (hlo : LOC 0 y lo M) (hlo7 : ∀ l, lo l ≤ 7) {C : Nat → Int} {B : Nat → Nat → Nat → Int} (hfl : FLP (Wm y lo) (y 0 + 1) C B) : SC (d + 4) 1 [.ref 0] M (fun vs N => vs = [] ∧ Fr (aSh 0) M N ∧ COE 0 y C N) := by
  have h0 := hb.1.2.1
  obtain ⟨wo1, wo2⟩ := Wm_ok hb (lo := lo)
  have hbd := FLP_bd hfl (show y 0 + 1 ≤ 8 by omega) wo1 wo2
  have ok : ∀ N, Fr (aSh 0) M N → YR y k N ∧ LOC 0 y lo N := fun N hF => ⟨hy.of hF (fun j _ => rfl) (fun j => rfl), fun l hl => by rw [(hF 1025 l rfl).1]; exact hlo l hl⟩
  refine sC (by decide) rfl (go_in (e1_0 ?_))
  have e0 : M.1 640 0 + nI 1 = nI (y 0 + 1) := by rw [hy.1.1, nI_add]
  rw [e0]
  refine useC (upC (c232 (d := d) (x := 1028) (v := lN 0) (by decide +kernel) (by decide +kernel) (by decide +kernel)) (by omega)) fun vs N h => ?_
  obtain ⟨rfl, rfl⟩ := h
  rw [show len 1028 = 64 by decide +kernel]
  refine e1_18 ⟨nI_in2 (by decide) (by decide), ?_⟩
  rw [nI_c (by decide)]
  have hF1 : Fr (aSh 0) M (sJ (fJ M 1028 64 (lN 0)) 1027 0 (lN 1)) := (Fr.fJ Fr.rf (fun b => rfl)).sJ rfl
  -- the loop over k
  have main : ∀ k' (o3 o4 o5 : Option Value) m N, m + k' = y 0 + 2 → 1 ≤ m → Fr (aSh 0) M N → (∀ i, i < m → N.2.1 1027 i = lz (C i)) → (m < y 0 + 2 → ∀ i j, i < y 0 + 1 → j < y 0 + 1 → N.2.1 1028 (i * 8 + j) = lz (B (m - 1) i j)) →
      WM (d + 3) 1 (fun vs N => vs = [] ∧ Fr (aSh 0) M N ∧ COE 0 y C N) 52 [some (.ref 0), some (.int (nI (y 0 + 1))), some (.int (nI m)), o3, o4, o5] [] N := by
    intro k'
    induction k' with
    | zero =>
      intro o3 o4 o5 m N hm h1 hF hC hB
      exact go_in (e1_52 (br_t (nI_lt (by omega) (by omega)) (go_in (e1_168 ⟨rfl, rfl, hF, fun i hi => hC i (by omega)⟩))))
    | succ k' ih =>
      intro o3 o4 o5 m N hm h1 hF hC hB
      have hB := hB (by omega)
      refine go_in (e1_52 (br_f (nI_nlt (by omega) (by omega)) ?_))
      have L1 : ∀ k2 (o4 : Option Value) l N2, l + k2 = y 0 + 1 → Fr (aSh 0) M N2 → (∀ i, i < m → N2.2.1 1027 i = lz (C i)) → (∀ i j, i < y 0 + 1 → j < y 0 + 1 → N2.2.1 1028 (i * 8 + j) = lz (B (m - 1) i j)) → (∀ i j, i < l → j < y 0 + 1 → N2.2.1 1029 (i * 8 + j) = lz (PB y lo B (m - 1) i j)) →
          WM (d + 3) 1 (fun vs N => vs = [] ∧ Fr (aSh 0) M N ∧ COE 0 y C N) 62 [some (.ref 0), some (.int (nI (y 0 + 1))), some (.int (nI m)), some (.long (lz (sm (fun i => PB y lo B (m - 1) i i) l))), o4, some (.int (nI l))] [] N2 := by
        intro k2
        induction k2 with
        | zero =>
          intro o4 l N2 hl hF2 hC2 hB2 hP
          have hl : l = y 0 + 1 := by omega
          subst hl
          refine go_in (e1_62 (br_t (nI_le (Nat.le_refl _) (by omega)) (go_in (e1_96 ?_))))
          -- the number
          have htr := hfl.2.2.1 m h1 (by omega)
          have htb := (hbd (m - 1) (by omega)).2.1
          have hx := pw36 (m - 1) (by omega)
          have etr : sm (fun i => PB y lo B (m - 1) i i) (y 0 + 1) = sm (fun i => sm (fun j => Wm y lo i j * B (m - 1) j i) (y 0 + 1)) (y 0 + 1) := rfl
          rw [etr]
          rw [iz_n m, iz_l ⟨by omega, by omega⟩, lz_neg, ← htr]
          have hi1 : i64 ((m : Int) * C m) := i64_of (X := 32 * 36 ^ (m - 1)) ⟨by have := htb.2; omega, by have := htb.1; omega⟩ hx
          rw [lz_div hi1 ⟨by omega, by omega⟩ (by omega), Int.mul_tdiv_cancel_left _ (show (m : Int) ≠ 0 by omega), iz_nn]
          rw [nI_c (a := m) (by omega), nI_c (a := 0) (by decide), nI_c (a := 64) (by decide)]
          refine ⟨fun e => ?_, nI_in2 (by omega) (by decide), ⟨by decide, by decide, by decide, by decide, by decide⟩, ?_⟩
          · rw [show (0 : Int64) = lz 0 from rfl, lz_eq ⟨by omega, by omega⟩ i64_0] at e
            omega
          · -- the diagonal
            have L3 : ∀ k3 (o3 o4 : Option Value) i N4, i + k3 = y 0 + 1 → Fr (aSh 0) M N4 → (∀ i, i < m + 1 → N4.2.1 1027 i = lz (C i)) → (∀ a b, a < y 0 + 1 → b < y 0 + 1 → N4.2.1 1028 (a * 8 + b) = lz (PB y lo B (m - 1) a b + (if a < i then C m * dl a b else 0))) →
                WM (d + 3) 1 (fun vs N => vs = [] ∧ Fr (aSh 0) M N ∧ COE 0 y C N) 128 [some (.ref 0), some (.int (nI (y 0 + 1))), some (.int (nI m)), o3, o4, some (.int (nI i))] [] N4 := by
              intro k3
              induction k3 with
              | zero =>
                intro o3 o4 i N4 hi hF4 hC4 hB4
                refine go_in (e1_128 (br_t (nI_le (by omega) (by omega)) (go_in (e1_162 ?_))))
                rw [nI_s]
                refine ih _ _ _ (m + 1) N4 (by omega) (by omega) hF4 hC4 fun hm2 a b ha hbb => ?_
                rw [hB4 a b ha hbb, if_pos (by omega), Nat.add_sub_cancel, hfl.2.2.2.1 m h1 (by omega) a b ha hbb]
                rfl
              | succ k3 ih3 =>
                intro o3 o4 i N4 hi hF4 hC4 hB4
                refine go_in (e1_128 (br_f (nI_ge (by omega) (by omega)) ?_))
                rw [nI_mul, nI_add, nI_s, nI_c (by omega), nI_c (by omega), hB4 i i (by omega) (by omega), if_neg (by omega), Int.add_zero, hC4 m (by omega), lz_add]
                refine ⟨nI_in2 (by omega) (by decide), nI_in2 (by omega) (by decide), nI_in2 (by omega) (by decide), ih3 _ _ (i + 1) _ (by omega) (hF4.sJ rfl) (fun j hj => ?_) fun a b ha hbb => ?_⟩
                · rw [sJ_v, if_neg (by omega)]; exact hC4 j hj
                · rw [sJ_v]
                  by_cases e : a = i ∧ b = i
                  · obtain ⟨rfl, rfl⟩ := e
                    rw [if_pos ⟨rfl, rfl⟩, if_pos (by omega), dl_s, Int.mul_one]
                  · rw [if_neg (fun q => e (ix8 (by omega) (by omega) q.2)), hB4 a b ha hbb]
                    by_cases e2 : a < i
                    · rw [if_pos e2, if_pos (by omega)]
                    · rw [if_neg e2]
                      by_cases e3 : a = i
                      · rw [if_pos (by omega), dl_n (show a ≠ b by omega), Int.mul_zero]
                      · rw [if_neg (by omega)]
            refine L3 (y 0 + 1) _ _ 0 _ (by omega) ((hF2.sJ rfl).cpJ (fun b _ _ => rfl)) (fun i hi => ?_) fun a b ha hbb => ?_
            · rw [cpJ_v, if_neg (by omega), sJ_v]
              by_cases e : i = m
              · rw [if_pos ⟨rfl, e⟩, e]
              · rw [if_neg (by omega)]; exact hC2 i (by omega)
            · rw [cpJ_v, if_pos (by omega), Nat.zero_add, Nat.sub_zero, sJ_v, if_neg (by omega), hP a b ha hbb, if_neg (by omega), Int.add_zero]
        | succ k2 ih2 =>
          intro o4 l N2 hl hF2 hC2 hB2 hP
          obtain ⟨hy2, hl2⟩ := ok N2 hF2
          refine go_in (e1_62 (br_f (nI_ge (by omega) (by omega)) (useC (c2_0 hy2 hb hl2 hlo7 hB2 (show l < y 0 + 1 by omega)) fun vs N3 h => ?_)))
          obtain ⟨rfl, hF3, hP3⟩ := h
          have hF3' : Fr (aSh 0) M N3 := hF2.tr (hF3.le (le_by fun k j h => by rw [beqN (and2 h).1]; rfl))
          refine e1_74 ?_
          have er : ∀ j, j < y 0 + 1 → N3.2.1 1029 (l * 8 + j) = lz (PB y lo B (m - 1) l j) := fun j hj => by rw [hP3 j hj, ← Wm_sm]; rfl
          rw [nI_mul, nI_add, nI_c (by omega), er l (by omega), lz_add, nI_s]
          refine ⟨nI_in2 (by omega) (by decide), ih2 _ (l + 1) N3 (by omega) hF3' (fun i hi => ?_) (fun i j hi hj => ?_) fun i j hi hj => ?_⟩
          · rw [(hF3 1027 i rfl).2.1]; exact hC2 i hi
          · rw [(hF3 1028 _ rfl).2.1]; exact hB2 i j hi hj
          · by_cases e : i = l
            · subst e; exact er j hj
            · have hout : (fun k j => Nat.beq k 1029 && (Nat.ble (l * 8) j && Nat.blt j (l * 8 + 8))) 1029 (i * 8 + j) = false := by
                show (true && (Nat.ble (l * 8) (i * 8 + j) && Nat.blt (i * 8 + j) (l * 8 + 8))) = false
                cases hb1 : Nat.ble (l * 8) (i * 8 + j) with
                | false => rfl
                | true => have := Nat.le_of_ble_eq_true hb1; omega
              rw [(hF3 1029 _ hout).2.1]
              exact hP i j (by omega) hj
      exact L1 (y 0 + 1) _ 0 N (by omega) hF hC hB (fun i j h => absurd h (Nat.not_lt_zero _))
  -- the unit square
  have unit : ∀ k' (o3 o4 o5 : Option Value) i N, i + k' = y 0 + 1 → Fr (aSh 0) M N → N.2.1 1027 0 = lz 1 → (∀ a b, a < y 0 + 1 → b < y 0 + 1 → N.2.1 1028 (a * 8 + b) = lz (if a < i then dl a b else 0)) →
      WM (d + 3) 1 (fun vs N => vs = [] ∧ Fr (aSh 0) M N ∧ COE 0 y C N) 27 [some (.ref 0), some (.int (nI (y 0 + 1))), some (.int (nI i)), o3, o4, o5] [] N := by
    intro k'
    induction k' with
    | zero =>
      intro o3 o4 o5 i N hi hF hC hB
      refine go_in (e1_27 (br_t (nI_le (by omega) (by omega)) (go_in (e1_50 ?_))))
      refine main (y 0 + 1) _ _ _ 1 N (by omega) (by omega) hF (fun j hj => ?_) fun _ a b ha hbb => ?_
      · rw [show j = 0 by omega, hC, hfl.1]
      · rw [hB a b ha hbb, if_pos (by omega), Nat.sub_self, hfl.2.1 a b ha hbb]
    | succ k' ih =>
      intro o3 o4 o5 i N hi hF hC hB
      refine go_in (e1_27 (br_f (nI_ge (by omega) (by omega)) ?_))
      rw [nI_mul, nI_add, nI_s, nI_c (by omega)]
      refine ⟨nI_in2 (by omega) (by decide), ih _ _ _ (i + 1) _ (by omega) (hF.sJ rfl) (by rw [sJ_v, if_neg (by omega)]; exact hC) fun a b ha hbb => ?_⟩
      rw [sJ_v]
      by_cases e : a = i ∧ b = i
      · obtain ⟨rfl, rfl⟩ := e
        rw [if_pos ⟨rfl, rfl⟩, if_pos (by omega), dl_s]; rfl
      · rw [if_neg (fun q => e (ix8 (by omega) (by omega) q.2)), hB a b ha hbb]
        by_cases e2 : a < i
        · rw [if_pos e2, if_pos (by omega)]
        · rw [if_neg e2]
          by_cases e3 : a = i
          · rw [if_pos (by omega), dl_n (show a ≠ b by omega)]
          · rw [if_neg (by omega)]
  refine unit (y 0 + 1) _ _ _ 0 _ (by omega) hF1 (by rw [sJ_at]; rfl) fun a b ha hbb => ?_
  rw [sJ_v, if_neg (by omega), fJ_v, if_pos (by omega), if_neg (by omega)]
  rfl
end CI0
section CI1
variable {d : Nat} {M : Mm} {y lo : Nat → Nat} {k : Int}
set_option maxHeartbeats 2000000 in
theorem c1_1 (hy : YR y k M) (hb : YB y k) (hlo : LOC 1 y lo M) (hlo7 : ∀ l, lo l ≤ 7) {C : Nat → Int} {B : Nat → Nat → Nat → Int} (hfl : FLP (Wm y lo) (y 0 + 1) C B) : SC (d + 4) 1 [.ref 1] M (fun vs N => vs = [] ∧ Fr (aSh 1) M N ∧ COE 1 y C N) := by
  have h0 := hb.1.2.1
  obtain ⟨wo1, wo2⟩ := Wm_ok hb (lo := lo)
  have hbd := FLP_bd hfl (show y 0 + 1 ≤ 8 by omega) wo1 wo2
  have ok : ∀ N, Fr (aSh 1) M N → YR y k N ∧ LOC 1 y lo N := fun N hF => ⟨hy.of hF (fun j _ => rfl) (fun j => rfl), fun l hl => by rw [(hF 1089 l rfl).1]; exact hlo l hl⟩
  refine sC (by decide) rfl (go_in (e1_0_1 ?_))
  have e0 : M.1 640 0 + nI 1 = nI (y 0 + 1) := by rw [hy.1.1, nI_add]
  rw [e0]
  refine useC (upC (c232 (d := d) (x := 1092) (v := lN 0) (by decide +kernel) (by decide +kernel) (by decide +kernel)) (by omega)) fun vs N h => ?_
  obtain ⟨rfl, rfl⟩ := h
  rw [show len 1092 = 64 by decide +kernel]
  refine e1_18_1 ⟨nI_in2 (by decide) (by decide), ?_⟩
  rw [nI_c (by decide)]
  have hF1 : Fr (aSh 1) M (sJ (fJ M 1092 64 (lN 0)) 1091 0 (lN 1)) := (Fr.fJ Fr.rf (fun b => rfl)).sJ rfl
  -- the loop over k
  have main : ∀ k' (o3 o4 o5 : Option Value) m N, m + k' = y 0 + 2 → 1 ≤ m → Fr (aSh 1) M N → (∀ i, i < m → N.2.1 1091 i = lz (C i)) → (m < y 0 + 2 → ∀ i j, i < y 0 + 1 → j < y 0 + 1 → N.2.1 1092 (i * 8 + j) = lz (B (m - 1) i j)) →
      WM (d + 3) 1 (fun vs N => vs = [] ∧ Fr (aSh 1) M N ∧ COE 1 y C N) 52 [some (.ref 1), some (.int (nI (y 0 + 1))), some (.int (nI m)), o3, o4, o5] [] N := by
    intro k'
    induction k' with
    | zero =>
      intro o3 o4 o5 m N hm h1 hF hC hB
      exact go_in (e1_52_1 (br_t (nI_lt (by omega) (by omega)) (go_in (e1_168 ⟨rfl, rfl, hF, fun i hi => hC i (by omega)⟩))))
    | succ k' ih =>
      intro o3 o4 o5 m N hm h1 hF hC hB
      have hB := hB (by omega)
      refine go_in (e1_52_1 (br_f (nI_nlt (by omega) (by omega)) ?_))
      have L1 : ∀ k2 (o4 : Option Value) l N2, l + k2 = y 0 + 1 → Fr (aSh 1) M N2 → (∀ i, i < m → N2.2.1 1091 i = lz (C i)) → (∀ i j, i < y 0 + 1 → j < y 0 + 1 → N2.2.1 1092 (i * 8 + j) = lz (B (m - 1) i j)) → (∀ i j, i < l → j < y 0 + 1 → N2.2.1 1093 (i * 8 + j) = lz (PB y lo B (m - 1) i j)) →
          WM (d + 3) 1 (fun vs N => vs = [] ∧ Fr (aSh 1) M N ∧ COE 1 y C N) 62 [some (.ref 1), some (.int (nI (y 0 + 1))), some (.int (nI m)), some (.long (lz (sm (fun i => PB y lo B (m - 1) i i) l))), o4, some (.int (nI l))] [] N2 := by
        intro k2
        induction k2 with
        | zero =>
          intro o4 l N2 hl hF2 hC2 hB2 hP
          have hl : l = y 0 + 1 := by omega
          subst hl
          refine go_in (e1_62_1 (br_t (nI_le (Nat.le_refl _) (by omega)) (go_in (e1_96_1 ?_))))
          -- the number
          have htr := hfl.2.2.1 m h1 (by omega)
          have htb := (hbd (m - 1) (by omega)).2.1
          have hx := pw36 (m - 1) (by omega)
          have etr : sm (fun i => PB y lo B (m - 1) i i) (y 0 + 1) = sm (fun i => sm (fun j => Wm y lo i j * B (m - 1) j i) (y 0 + 1)) (y 0 + 1) := rfl
          rw [etr]
          rw [iz_n m, iz_l ⟨by omega, by omega⟩, lz_neg, ← htr]
          have hi1 : i64 ((m : Int) * C m) := i64_of (X := 32 * 36 ^ (m - 1)) ⟨by have := htb.2; omega, by have := htb.1; omega⟩ hx
          rw [lz_div hi1 ⟨by omega, by omega⟩ (by omega), Int.mul_tdiv_cancel_left _ (show (m : Int) ≠ 0 by omega), iz_nn]
          rw [nI_c (a := m) (by omega), nI_c (a := 0) (by decide), nI_c (a := 64) (by decide)]
          refine ⟨fun e => ?_, nI_in2 (by omega) (by decide), ⟨by decide, by decide, by decide, by decide, by decide⟩, ?_⟩
          · rw [show (0 : Int64) = lz 0 from rfl, lz_eq ⟨by omega, by omega⟩ i64_0] at e
            omega
          · -- the diagonal
            have L3 : ∀ k3 (o3 o4 : Option Value) i N4, i + k3 = y 0 + 1 → Fr (aSh 1) M N4 → (∀ i, i < m + 1 → N4.2.1 1091 i = lz (C i)) → (∀ a b, a < y 0 + 1 → b < y 0 + 1 → N4.2.1 1092 (a * 8 + b) = lz (PB y lo B (m - 1) a b + (if a < i then C m * dl a b else 0))) →
                WM (d + 3) 1 (fun vs N => vs = [] ∧ Fr (aSh 1) M N ∧ COE 1 y C N) 128 [some (.ref 1), some (.int (nI (y 0 + 1))), some (.int (nI m)), o3, o4, some (.int (nI i))] [] N4 := by
              intro k3
              induction k3 with
              | zero =>
                intro o3 o4 i N4 hi hF4 hC4 hB4
                refine go_in (e1_128_1 (br_t (nI_le (by omega) (by omega)) (go_in (e1_162_1 ?_))))
                rw [nI_s]
                refine ih _ _ _ (m + 1) N4 (by omega) (by omega) hF4 hC4 fun hm2 a b ha hbb => ?_
                rw [hB4 a b ha hbb, if_pos (by omega), Nat.add_sub_cancel, hfl.2.2.2.1 m h1 (by omega) a b ha hbb]
                rfl
              | succ k3 ih3 =>
                intro o3 o4 i N4 hi hF4 hC4 hB4
                refine go_in (e1_128_1 (br_f (nI_ge (by omega) (by omega)) ?_))
                rw [nI_mul, nI_add, nI_s, nI_c (by omega), nI_c (by omega), hB4 i i (by omega) (by omega), if_neg (by omega), Int.add_zero, hC4 m (by omega), lz_add]
                refine ⟨nI_in2 (by omega) (by decide), nI_in2 (by omega) (by decide), nI_in2 (by omega) (by decide), ih3 _ _ (i + 1) _ (by omega) (hF4.sJ rfl) (fun j hj => ?_) fun a b ha hbb => ?_⟩
                · rw [sJ_v, if_neg (by omega)]; exact hC4 j hj
                · rw [sJ_v]
                  by_cases e : a = i ∧ b = i
                  · obtain ⟨rfl, rfl⟩ := e
                    rw [if_pos ⟨rfl, rfl⟩, if_pos (by omega), dl_s, Int.mul_one]
                  · rw [if_neg (fun q => e (ix8 (by omega) (by omega) q.2)), hB4 a b ha hbb]
                    by_cases e2 : a < i
                    · rw [if_pos e2, if_pos (by omega)]
                    · rw [if_neg e2]
                      by_cases e3 : a = i
                      · rw [if_pos (by omega), dl_n (show a ≠ b by omega), Int.mul_zero]
                      · rw [if_neg (by omega)]
            refine L3 (y 0 + 1) _ _ 0 _ (by omega) ((hF2.sJ rfl).cpJ (fun b _ _ => rfl)) (fun i hi => ?_) fun a b ha hbb => ?_
            · rw [cpJ_v, if_neg (by omega), sJ_v]
              by_cases e : i = m
              · rw [if_pos ⟨rfl, e⟩, e]
              · rw [if_neg (by omega)]; exact hC2 i (by omega)
            · rw [cpJ_v, if_pos (by omega), Nat.zero_add, Nat.sub_zero, sJ_v, if_neg (by omega), hP a b ha hbb, if_neg (by omega), Int.add_zero]
        | succ k2 ih2 =>
          intro o4 l N2 hl hF2 hC2 hB2 hP
          obtain ⟨hy2, hl2⟩ := ok N2 hF2
          refine go_in (e1_62_1 (br_f (nI_ge (by omega) (by omega)) (useC (c2_1 hy2 hb hl2 hlo7 hB2 (show l < y 0 + 1 by omega)) fun vs N3 h => ?_)))
          obtain ⟨rfl, hF3, hP3⟩ := h
          have hF3' : Fr (aSh 1) M N3 := hF2.tr (hF3.le (le_by fun k j h => by rw [beqN (and2 h).1]; rfl))
          refine e1_74_1 ?_
          have er : ∀ j, j < y 0 + 1 → N3.2.1 1093 (l * 8 + j) = lz (PB y lo B (m - 1) l j) := fun j hj => by rw [hP3 j hj, ← Wm_sm]; rfl
          rw [nI_mul, nI_add, nI_c (by omega), er l (by omega), lz_add, nI_s]
          refine ⟨nI_in2 (by omega) (by decide), ih2 _ (l + 1) N3 (by omega) hF3' (fun i hi => ?_) (fun i j hi hj => ?_) fun i j hi hj => ?_⟩
          · rw [(hF3 1091 i rfl).2.1]; exact hC2 i hi
          · rw [(hF3 1092 _ rfl).2.1]; exact hB2 i j hi hj
          · by_cases e : i = l
            · subst e; exact er j hj
            · have hout : (fun k j => Nat.beq k 1093 && (Nat.ble (l * 8) j && Nat.blt j (l * 8 + 8))) 1093 (i * 8 + j) = false := by
                show (true && (Nat.ble (l * 8) (i * 8 + j) && Nat.blt (i * 8 + j) (l * 8 + 8))) = false
                cases hb1 : Nat.ble (l * 8) (i * 8 + j) with
                | false => rfl
                | true => have := Nat.le_of_ble_eq_true hb1; omega
              rw [(hF3 1093 _ hout).2.1]
              exact hP i j (by omega) hj
      exact L1 (y 0 + 1) _ 0 N (by omega) hF hC hB (fun i j h => absurd h (Nat.not_lt_zero _))
  -- the unit square
  have unit : ∀ k' (o3 o4 o5 : Option Value) i N, i + k' = y 0 + 1 → Fr (aSh 1) M N → N.2.1 1091 0 = lz 1 → (∀ a b, a < y 0 + 1 → b < y 0 + 1 → N.2.1 1092 (a * 8 + b) = lz (if a < i then dl a b else 0)) →
      WM (d + 3) 1 (fun vs N => vs = [] ∧ Fr (aSh 1) M N ∧ COE 1 y C N) 27 [some (.ref 1), some (.int (nI (y 0 + 1))), some (.int (nI i)), o3, o4, o5] [] N := by
    intro k'
    induction k' with
    | zero =>
      intro o3 o4 o5 i N hi hF hC hB
      refine go_in (e1_27_1 (br_t (nI_le (by omega) (by omega)) (go_in (e1_50_1 ?_))))
      refine main (y 0 + 1) _ _ _ 1 N (by omega) (by omega) hF (fun j hj => ?_) fun _ a b ha hbb => ?_
      · rw [show j = 0 by omega, hC, hfl.1]
      · rw [hB a b ha hbb, if_pos (by omega), Nat.sub_self, hfl.2.1 a b ha hbb]
    | succ k' ih =>
      intro o3 o4 o5 i N hi hF hC hB
      refine go_in (e1_27_1 (br_f (nI_ge (by omega) (by omega)) ?_))
      rw [nI_mul, nI_add, nI_s, nI_c (by omega)]
      refine ⟨nI_in2 (by omega) (by decide), ih _ _ _ (i + 1) _ (by omega) (hF.sJ rfl) (by rw [sJ_v, if_neg (by omega)]; exact hC) fun a b ha hbb => ?_⟩
      rw [sJ_v]
      by_cases e : a = i ∧ b = i
      · obtain ⟨rfl, rfl⟩ := e
        rw [if_pos ⟨rfl, rfl⟩, if_pos (by omega), dl_s]; rfl
      · rw [if_neg (fun q => e (ix8 (by omega) (by omega) q.2)), hB a b ha hbb]
        by_cases e2 : a < i
        · rw [if_pos e2, if_pos (by omega)]
        · rw [if_neg e2]
          by_cases e3 : a = i
          · rw [if_pos (by omega), dl_n (show a ≠ b by omega)]
          · rw [if_neg (by omega)]
  refine unit (y 0 + 1) _ _ _ 0 _ (by omega) hF1 (by rw [sJ_at]; rfl) fun a b ha hbb => ?_
  rw [sJ_v, if_neg (by omega), fJ_v, if_pos (by omega), if_neg (by omega)]
  rfl
end CI1
section CI2
variable {d : Nat} {M : Mm} {y lo : Nat → Nat} {k : Int}
set_option maxHeartbeats 2000000 in
theorem c1_2 (hy : YR y k M) (hb : YB y k) (hlo : LOC 2 y lo M) (hlo7 : ∀ l, lo l ≤ 7) {C : Nat → Int} {B : Nat → Nat → Nat → Int} (hfl : FLP (Wm y lo) (y 0 + 1) C B) : SC (d + 4) 1 [.ref 2] M (fun vs N => vs = [] ∧ Fr (aSh 2) M N ∧ COE 2 y C N) := by
  have h0 := hb.1.2.1
  obtain ⟨wo1, wo2⟩ := Wm_ok hb (lo := lo)
  have hbd := FLP_bd hfl (show y 0 + 1 ≤ 8 by omega) wo1 wo2
  have ok : ∀ N, Fr (aSh 2) M N → YR y k N ∧ LOC 2 y lo N := fun N hF => ⟨hy.of hF (fun j _ => rfl) (fun j => rfl), fun l hl => by rw [(hF 1153 l rfl).1]; exact hlo l hl⟩
  refine sC (by decide) rfl (go_in (e1_0_2 ?_))
  have e0 : M.1 640 0 + nI 1 = nI (y 0 + 1) := by rw [hy.1.1, nI_add]
  rw [e0]
  refine useC (upC (c232 (d := d) (x := 1156) (v := lN 0) (by decide +kernel) (by decide +kernel) (by decide +kernel)) (by omega)) fun vs N h => ?_
  obtain ⟨rfl, rfl⟩ := h
  rw [show len 1156 = 64 by decide +kernel]
  refine e1_18_2 ⟨nI_in2 (by decide) (by decide), ?_⟩
  rw [nI_c (by decide)]
  have hF1 : Fr (aSh 2) M (sJ (fJ M 1156 64 (lN 0)) 1155 0 (lN 1)) := (Fr.fJ Fr.rf (fun b => rfl)).sJ rfl
  -- the loop over k
  have main : ∀ k' (o3 o4 o5 : Option Value) m N, m + k' = y 0 + 2 → 1 ≤ m → Fr (aSh 2) M N → (∀ i, i < m → N.2.1 1155 i = lz (C i)) → (m < y 0 + 2 → ∀ i j, i < y 0 + 1 → j < y 0 + 1 → N.2.1 1156 (i * 8 + j) = lz (B (m - 1) i j)) →
      WM (d + 3) 1 (fun vs N => vs = [] ∧ Fr (aSh 2) M N ∧ COE 2 y C N) 52 [some (.ref 2), some (.int (nI (y 0 + 1))), some (.int (nI m)), o3, o4, o5] [] N := by
    intro k'
    induction k' with
    | zero =>
      intro o3 o4 o5 m N hm h1 hF hC hB
      exact go_in (e1_52_2 (br_t (nI_lt (by omega) (by omega)) (go_in (e1_168 ⟨rfl, rfl, hF, fun i hi => hC i (by omega)⟩))))
    | succ k' ih =>
      intro o3 o4 o5 m N hm h1 hF hC hB
      have hB := hB (by omega)
      refine go_in (e1_52_2 (br_f (nI_nlt (by omega) (by omega)) ?_))
      have L1 : ∀ k2 (o4 : Option Value) l N2, l + k2 = y 0 + 1 → Fr (aSh 2) M N2 → (∀ i, i < m → N2.2.1 1155 i = lz (C i)) → (∀ i j, i < y 0 + 1 → j < y 0 + 1 → N2.2.1 1156 (i * 8 + j) = lz (B (m - 1) i j)) → (∀ i j, i < l → j < y 0 + 1 → N2.2.1 1157 (i * 8 + j) = lz (PB y lo B (m - 1) i j)) →
          WM (d + 3) 1 (fun vs N => vs = [] ∧ Fr (aSh 2) M N ∧ COE 2 y C N) 62 [some (.ref 2), some (.int (nI (y 0 + 1))), some (.int (nI m)), some (.long (lz (sm (fun i => PB y lo B (m - 1) i i) l))), o4, some (.int (nI l))] [] N2 := by
        intro k2
        induction k2 with
        | zero =>
          intro o4 l N2 hl hF2 hC2 hB2 hP
          have hl : l = y 0 + 1 := by omega
          subst hl
          refine go_in (e1_62_2 (br_t (nI_le (Nat.le_refl _) (by omega)) (go_in (e1_96_2 ?_))))
          -- the number
          have htr := hfl.2.2.1 m h1 (by omega)
          have htb := (hbd (m - 1) (by omega)).2.1
          have hx := pw36 (m - 1) (by omega)
          have etr : sm (fun i => PB y lo B (m - 1) i i) (y 0 + 1) = sm (fun i => sm (fun j => Wm y lo i j * B (m - 1) j i) (y 0 + 1)) (y 0 + 1) := rfl
          rw [etr]
          rw [iz_n m, iz_l ⟨by omega, by omega⟩, lz_neg, ← htr]
          have hi1 : i64 ((m : Int) * C m) := i64_of (X := 32 * 36 ^ (m - 1)) ⟨by have := htb.2; omega, by have := htb.1; omega⟩ hx
          rw [lz_div hi1 ⟨by omega, by omega⟩ (by omega), Int.mul_tdiv_cancel_left _ (show (m : Int) ≠ 0 by omega), iz_nn]
          rw [nI_c (a := m) (by omega), nI_c (a := 0) (by decide), nI_c (a := 64) (by decide)]
          refine ⟨fun e => ?_, nI_in2 (by omega) (by decide), ⟨by decide, by decide, by decide, by decide, by decide⟩, ?_⟩
          · rw [show (0 : Int64) = lz 0 from rfl, lz_eq ⟨by omega, by omega⟩ i64_0] at e
            omega
          · -- the diagonal
            have L3 : ∀ k3 (o3 o4 : Option Value) i N4, i + k3 = y 0 + 1 → Fr (aSh 2) M N4 → (∀ i, i < m + 1 → N4.2.1 1155 i = lz (C i)) → (∀ a b, a < y 0 + 1 → b < y 0 + 1 → N4.2.1 1156 (a * 8 + b) = lz (PB y lo B (m - 1) a b + (if a < i then C m * dl a b else 0))) →
                WM (d + 3) 1 (fun vs N => vs = [] ∧ Fr (aSh 2) M N ∧ COE 2 y C N) 128 [some (.ref 2), some (.int (nI (y 0 + 1))), some (.int (nI m)), o3, o4, some (.int (nI i))] [] N4 := by
              intro k3
              induction k3 with
              | zero =>
                intro o3 o4 i N4 hi hF4 hC4 hB4
                refine go_in (e1_128_2 (br_t (nI_le (by omega) (by omega)) (go_in (e1_162_2 ?_))))
                rw [nI_s]
                refine ih _ _ _ (m + 1) N4 (by omega) (by omega) hF4 hC4 fun hm2 a b ha hbb => ?_
                rw [hB4 a b ha hbb, if_pos (by omega), Nat.add_sub_cancel, hfl.2.2.2.1 m h1 (by omega) a b ha hbb]
                rfl
              | succ k3 ih3 =>
                intro o3 o4 i N4 hi hF4 hC4 hB4
                refine go_in (e1_128_2 (br_f (nI_ge (by omega) (by omega)) ?_))
                rw [nI_mul, nI_add, nI_s, nI_c (by omega), nI_c (by omega), hB4 i i (by omega) (by omega), if_neg (by omega), Int.add_zero, hC4 m (by omega), lz_add]
                refine ⟨nI_in2 (by omega) (by decide), nI_in2 (by omega) (by decide), nI_in2 (by omega) (by decide), ih3 _ _ (i + 1) _ (by omega) (hF4.sJ rfl) (fun j hj => ?_) fun a b ha hbb => ?_⟩
                · rw [sJ_v, if_neg (by omega)]; exact hC4 j hj
                · rw [sJ_v]
                  by_cases e : a = i ∧ b = i
                  · obtain ⟨rfl, rfl⟩ := e
                    rw [if_pos ⟨rfl, rfl⟩, if_pos (by omega), dl_s, Int.mul_one]
                  · rw [if_neg (fun q => e (ix8 (by omega) (by omega) q.2)), hB4 a b ha hbb]
                    by_cases e2 : a < i
                    · rw [if_pos e2, if_pos (by omega)]
                    · rw [if_neg e2]
                      by_cases e3 : a = i
                      · rw [if_pos (by omega), dl_n (show a ≠ b by omega), Int.mul_zero]
                      · rw [if_neg (by omega)]
            refine L3 (y 0 + 1) _ _ 0 _ (by omega) ((hF2.sJ rfl).cpJ (fun b _ _ => rfl)) (fun i hi => ?_) fun a b ha hbb => ?_
            · rw [cpJ_v, if_neg (by omega), sJ_v]
              by_cases e : i = m
              · rw [if_pos ⟨rfl, e⟩, e]
              · rw [if_neg (by omega)]; exact hC2 i (by omega)
            · rw [cpJ_v, if_pos (by omega), Nat.zero_add, Nat.sub_zero, sJ_v, if_neg (by omega), hP a b ha hbb, if_neg (by omega), Int.add_zero]
        | succ k2 ih2 =>
          intro o4 l N2 hl hF2 hC2 hB2 hP
          obtain ⟨hy2, hl2⟩ := ok N2 hF2
          refine go_in (e1_62_2 (br_f (nI_ge (by omega) (by omega)) (useC (c2_2 hy2 hb hl2 hlo7 hB2 (show l < y 0 + 1 by omega)) fun vs N3 h => ?_)))
          obtain ⟨rfl, hF3, hP3⟩ := h
          have hF3' : Fr (aSh 2) M N3 := hF2.tr (hF3.le (le_by fun k j h => by rw [beqN (and2 h).1]; rfl))
          refine e1_74_2 ?_
          have er : ∀ j, j < y 0 + 1 → N3.2.1 1157 (l * 8 + j) = lz (PB y lo B (m - 1) l j) := fun j hj => by rw [hP3 j hj, ← Wm_sm]; rfl
          rw [nI_mul, nI_add, nI_c (by omega), er l (by omega), lz_add, nI_s]
          refine ⟨nI_in2 (by omega) (by decide), ih2 _ (l + 1) N3 (by omega) hF3' (fun i hi => ?_) (fun i j hi hj => ?_) fun i j hi hj => ?_⟩
          · rw [(hF3 1155 i rfl).2.1]; exact hC2 i hi
          · rw [(hF3 1156 _ rfl).2.1]; exact hB2 i j hi hj
          · by_cases e : i = l
            · subst e; exact er j hj
            · have hout : (fun k j => Nat.beq k 1157 && (Nat.ble (l * 8) j && Nat.blt j (l * 8 + 8))) 1157 (i * 8 + j) = false := by
                show (true && (Nat.ble (l * 8) (i * 8 + j) && Nat.blt (i * 8 + j) (l * 8 + 8))) = false
                cases hb1 : Nat.ble (l * 8) (i * 8 + j) with
                | false => rfl
                | true => have := Nat.le_of_ble_eq_true hb1; omega
              rw [(hF3 1157 _ hout).2.1]
              exact hP i j (by omega) hj
      exact L1 (y 0 + 1) _ 0 N (by omega) hF hC hB (fun i j h => absurd h (Nat.not_lt_zero _))
  -- the unit square
  have unit : ∀ k' (o3 o4 o5 : Option Value) i N, i + k' = y 0 + 1 → Fr (aSh 2) M N → N.2.1 1155 0 = lz 1 → (∀ a b, a < y 0 + 1 → b < y 0 + 1 → N.2.1 1156 (a * 8 + b) = lz (if a < i then dl a b else 0)) →
      WM (d + 3) 1 (fun vs N => vs = [] ∧ Fr (aSh 2) M N ∧ COE 2 y C N) 27 [some (.ref 2), some (.int (nI (y 0 + 1))), some (.int (nI i)), o3, o4, o5] [] N := by
    intro k'
    induction k' with
    | zero =>
      intro o3 o4 o5 i N hi hF hC hB
      refine go_in (e1_27_2 (br_t (nI_le (by omega) (by omega)) (go_in (e1_50_2 ?_))))
      refine main (y 0 + 1) _ _ _ 1 N (by omega) (by omega) hF (fun j hj => ?_) fun _ a b ha hbb => ?_
      · rw [show j = 0 by omega, hC, hfl.1]
      · rw [hB a b ha hbb, if_pos (by omega), Nat.sub_self, hfl.2.1 a b ha hbb]
    | succ k' ih =>
      intro o3 o4 o5 i N hi hF hC hB
      refine go_in (e1_27_2 (br_f (nI_ge (by omega) (by omega)) ?_))
      rw [nI_mul, nI_add, nI_s, nI_c (by omega)]
      refine ⟨nI_in2 (by omega) (by decide), ih _ _ _ (i + 1) _ (by omega) (hF.sJ rfl) (by rw [sJ_v, if_neg (by omega)]; exact hC) fun a b ha hbb => ?_⟩
      rw [sJ_v]
      by_cases e : a = i ∧ b = i
      · obtain ⟨rfl, rfl⟩ := e
        rw [if_pos ⟨rfl, rfl⟩, if_pos (by omega), dl_s]; rfl
      · rw [if_neg (fun q => e (ix8 (by omega) (by omega) q.2)), hB a b ha hbb]
        by_cases e2 : a < i
        · rw [if_pos e2, if_pos (by omega)]
        · rw [if_neg e2]
          by_cases e3 : a = i
          · rw [if_pos (by omega), dl_n (show a ≠ b by omega)]
          · rw [if_neg (by omega)]
  refine unit (y 0 + 1) _ _ _ 0 _ (by omega) hF1 (by rw [sJ_at]; rfl) fun a b ha hbb => ?_
  rw [sJ_v, if_neg (by omega), fJ_v, if_pos (by omega), if_neg (by omega)]
  rfl
end CI2
