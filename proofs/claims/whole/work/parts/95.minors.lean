/-! The reference: a number with a column told otherwise; its squares; solved. -/
theorem in_odd : ∀ m, m < 9 → nI m - nI m / nI 2 * nI 2 = nI (m % 2) := by decide +kernel
theorem pc_lt : ∀ n, n < 9 → ∀ S, S < 2 ^ n → ∀ j, j < n → S.testBit j = false → pc S < n := by decide +kernel
theorem pc_9 (S : Nat) : pc S < 9 := by
  have h := List.length_filter_le (fun c => S.testBit c) (List.range 8)
  rw [List.length_range] at h
  exact Nat.lt_succ_of_le h
theorem sh_256 {S j : Nat} (h : S < 256) : S >>> j < 256 := by
  rw [Nat.shiftRight_eq_div_pow]
  exact Nat.lt_of_le_of_lt (Nat.div_le_self _ _) h
theorem or_pow {n S j : Nat} (h : S < 2 ^ n) (hj : j < n) : S ||| 1 <<< j < 2 ^ n := by
  refine Nat.or_lt_two_pow h ?_
  rw [Nat.one_shiftLeft]
  exact Nat.pow_lt_pow_right (by omega) hj
theorem sg_lz (m : Nat) (x : Int) : lz (sg m * x) = if m % 2 = 0 then lz x else -lz x := by
  unfold sg
  split
  · rw [Int.one_mul]
  · rw [Int.neg_mul, Int.one_mul, lz_neg]
section HS
variable {d : Nat} {M : Mm} {w : Nat → Nat}
theorem c225 {a : Nat} (ha : a < 256) : SC (d + 1) 225 [.int (nI a)] M (fun vs N => vs = [.int (nI (pc a))] ∧ N = M) := by
  refine sC (by decide) rfl (go_in (e225_0 ⟨rfl, ?_, rfl⟩))
  congr 2
  revert ha
  revert a
  decide +kernel
def aM (k _ : Nat) : Bool := Nat.beq k 50201
/-- the square with one column told otherwise, or none -/
def colA (A : Nat → Nat → Int) (col : Int) (b : Nat → Int) (i c : Nat) : Int := if (c : Int) = col then b i else A i c
set_option maxHeartbeats 1000000 in
theorem c184 (hw : MR w M) (hb : WB w) {A : Nat → Nat → Int} (hA : ∀ i c, i < w 0 + 1 → c < w 0 + 1 → M.2.1 50200 (8 * i + c) = lz (A i c)) {b : Nat → Int} (hB : ∀ i, i < w 0 + 1 → M.1 50203 i = iz (b i) ∧ i32 (b i)) {col : Int} (hc : -1 ≤ col ∧ col ≤ 8) : SC (d + 2) 184 [.ref 768, .int (iz col)] M (fun vs N => vs = [.long (lz (det (colA A col (fun i => b i * ((w 7 : Int) * ((w 2 + w 3 + w 4 + w 5 : Nat) : Int)))) (w 0 + 1)))] ∧ Fr aM M N) := by
  obtain ⟨w0, -, -⟩ := wb_w hb
  have w7 := hb.2.2.1
  have w2 := hb.2.1.2
  obtain ⟨B, hBd⟩ : ∃ B, B = colA A col (fun i => b i * ((w 7 : Int) * ((w 2 + w 3 + w 4 + w 5 : Nat) : Int))) := ⟨_, rfl⟩
  rw [← hBd]
  obtain ⟨n, hn⟩ : ∃ n, n = w 0 + 1 := ⟨_, rfl⟩
  have hn9 : n < 9 := by omega
  obtain ⟨ip, p256⟩ := in_pow n hn9
  rw [← hn] at hA hB ⊢
  refine sC (by decide) rfl (go_in (e184_0 (useC (c134 hw) fun vs N h => ?_)))
  obtain ⟨rfl, rfl⟩ := h
  refine e184_4 ?_
  rw [nI_add, ← hn]
  have hw2 : ∀ N', Fr aM N N' → MR w N' := fun N' hF => hw.of hF (fun j _ => rfl)
  -- the last
  have P3 : ∀ (o4 o5 o6 : Option Value) N', Fr aM N N' → (∀ T, T < 2 ^ n → N'.2.1 50201 T = lz (PS B (2 ^ n) 0 T)) → WM (d + 1) 184 (fun vs N' => vs = [.long (lz (det B n))] ∧ Fr aM N N') 188 [some (.ref 768), some (.int (iz col)), some (.int (nI n)), some (.int (nI (2 ^ n))), o4, o5, o6, none] [] N' := by
    intro o4 o5 o6 N' hF hd
    have h1 : 1 ≤ 2 ^ n := Nat.one_le_two_pow
    have e1 : PS B (2 ^ n) 0 (2 ^ n - 1) = det B n := by
      have e2 := PS_mu B (S := 2 ^ n - 1) (by omega)
      have e3 : PS B (2 ^ n) 0 (2 ^ n - 1) = PS B (2 ^ n - 1) 0 (2 ^ n - 1) := by
        rw [show PS B (2 ^ n) 0 (2 ^ n - 1) = PS B (2 ^ n - 1 + 1) 0 (2 ^ n - 1) by rw [Nat.sub_add_cancel h1], PS_s B (n := n) (by omega) (by omega)]
        unfold PS
        split
        · rfl
        · refine sm_congr fun c hc => ?_
          by_cases hb : (2 ^ n - 1).testBit c = true
          · have := (cl_wo (2 ^ n - 1) (by omega) c hc hb).2.2.2.1
            rw [if_pos ⟨hb, Or.inl this⟩, if_pos ⟨hb, Or.inl this⟩]
          · rw [if_neg (fun q => hb q.1), if_neg (fun q => hb q.1)]
      rw [e3, e2]
      unfold mu det
      have e4 := cl_all n hn9
      rw [show pc (2 ^ n - 1) = n by unfold pc; rw [e4, List.length_range], e4]
    refine go_in (e184_188 ?_)
    rw [ip, nI_sub h1, nI_c (by omega), hd _ (by omega), e1]
    exact ⟨nI_in2 (by omega) (by decide), rfl, rfl, hF⟩
  -- over the subsets
  have P2 : ∀ k (o4 o5 o6 : Option Value) S N', S + k = 2 ^ n → Fr aM N N' → (∀ T, T < 2 ^ n → N'.2.1 50201 T = lz (PS B S 0 T)) → WM (d + 1) 184 (fun vs N' => vs = [.long (lz (det B n))] ∧ Fr aM N N') 39 [some (.ref 768), some (.int (iz col)), some (.int (nI n)), some (.int (nI S)), o4, o5, o6, none] [] N' := by
    intro k
    induction k with
    | zero =>
      intro o4 o5 o6 S N' hS hF hd
      have hS : S = 2 ^ n := by omega
      subst hS
      exact go_in (e184_39 (br_t (by rw [ip]; exact nI_le (Nat.le_refl _) (by omega)) (P3 _ _ _ _ hF hd)))
    | succ k ih =>
      intro o4 o5 o6 S N' hS hF hd
      refine go_in (e184_39 (br_f (by rw [ip]; exact nI_ge (by omega) (by omega)) (useC (c225 (by omega)) fun vs N2 h => ?_)))
      obtain ⟨rfl, rfl⟩ := h
      have eS := PS_mu B (S := S) (by omega)
      refine e184_50 ⟨nI_in2 (by omega) (by omega), ?_⟩
      rw [nI_c (by omega), hd S (by omega), eS, cmp_eq, lz_0]
      refine ⟨fun _ => go_in (e184_66 ?_), fun e => go_in (e184_182 ?_)⟩
      · have P1 : ∀ k2 (o6 : Option Value) j N3, j + k2 = n → Fr aM N N3 → (∀ T, T < 2 ^ n → N3.2.1 50201 T = lz (PS B S j T)) → WM (d + 1) 184 (fun vs N' => vs = [.long (lz (det B n))] ∧ Fr aM N N') 69 [some (.ref 768), some (.int (iz col)), some (.int (nI n)), some (.int (nI S)), some (.int (nI (pc S))), some (.int (nI j)), o6, none] [] N3 := by
          intro k2
          induction k2 with
          | zero =>
            intro o6 j N3 hj hF3 hd3
            have hj : j = n := by omega
            subst hj
            refine go_in (e184_69 (br_t (nI_le (Nat.le_refl _) (by omega)) (go_in (e184_182 ?_))))
            rw [nI_s]
            exact ih _ _ _ (S + 1) _ (by omega) hF3 fun T hT => by rw [hd3 T hT, PS_s B (by omega) hT]
          | succ k2 ih2 =>
            intro o6 j N3 hj hF3 hd3
            obtain ⟨b1, b2, b3⟩ := in_bit S (by omega) j (by omega)
            refine go_in (e184_69 (br_f (nI_ge (by omega) (by omega)) ?_))
            rw [b1]
            refine ⟨fun e => ?_, fun e => ?_⟩
            · have hbit : S.testBit j = false := by
                cases hbj : S.testBit j with
                | false => rfl
                | true => exact absurd (b3.mpr hbj) e
              obtain ⟨q1, q2, q3⟩ := cl_wi S (by omega) j (by omega) hbit
              have hp := pc_lt n hn9 S (by omega) j (by omega) hbit
              have hT := or_pow (n := n) (S := S) (j := j) (by omega) (by omega)
              have tail : ∀ (o6 : Option Value), WM (d + 1) 184 (fun vs N' => vs = [.long (lz (det B n))] ∧ Fr aM N N') 133 [some (.ref 768), some (.int (iz col)), some (.int (nI n)), some (.int (nI S)), some (.int (nI (pc S))), some (.int (nI j)), o6, none] [.long (lz (B (pc S) j))] N3 := by
                intro o6
                refine go_in (e184_133 ?_)
                rw [b1, b2, nI_c (a := S ||| 1 <<< j) (by omega), hd3 _ hT]
                refine ⟨nI_in2 (by omega) (by decide), useC (c225 (sh_256 (by omega))) fun vs N4 h => ?_⟩
                obtain ⟨rfl, rfl⟩ := h
                have p9 := pc_9 (S >>> j)
                have fin : ∀ (o6 : Option Value) z, z = lz (sg (pc (S >>> j)) * B (pc S) j) → WM (d + 1) 184 (fun vs N' => vs = [.long (lz (det B n))] ∧ Fr aM N N') 167 [some (.ref 768), some (.int (iz col)), some (.int (nI n)), some (.int (nI S)), some (.int (nI (pc S))), some (.int (nI j)), o6, none] [.long z, .long (lz (PS B S j (S ||| 1 <<< j))), .int (nI (S ||| 1 <<< j)), .ref 50201] N4 := by
                  intro o6 z hz
                  have eS2 : PS B S j S = mu B S := by
                    rw [← eS]
                    unfold PS
                    split
                    · rfl
                    · refine sm_congr fun c hc => ?_
                      by_cases hb : S.testBit c = true
                      · have := (cl_wo S (by omega) c hc hb).2.2.2.1
                        rw [if_pos ⟨hb, Or.inl this⟩, if_pos ⟨hb, Or.inl this⟩]
                      · rw [if_neg (fun q => hb q.1), if_neg (fun q => hb q.1)]
                  refine go_in (e184_167 ⟨nI_in2 (by omega) (by decide), nI_in2 (by omega) (by decide), go_in (e184_176 ?_)⟩)
                  rw [nI_c (by omega), nI_c (by omega), hd3 S (by omega), eS2, hz, lz_mul, lz_add, nI_s, Int.mul_assoc, ← PS_yes B (by omega) (by omega) hbit]
                  refine ih2 _ (j + 1) _ (by omega) (hF3.sJ rfl) fun T hT2 => ?_
                  rw [sJ_v]
                  by_cases e : T = S ||| 1 <<< j
                  · subst e; rw [if_pos ⟨rfl, rfl⟩]
                  · rw [if_neg (by omega), hd3 T hT2, PS_no]
                    intro q
                    have := (cl_wo T (by omega) j (by omega) q.1).2.2.2.2.2
                    rw [q.2] at this
                    exact e this.symm
                refine e184_154 ⟨by decide, fun e2 => ?_, fun e2 => ?_⟩
                · rw [in_odd _ p9] at e2
                  refine go_in (e184_164 (fin _ _ ?_))
                  rw [sg_lz, if_neg (fun q => e2 (by rw [q]; rfl))]
                · rw [in_odd _ p9] at e2
                  refine fin _ _ ?_
                  rw [sg_lz, if_pos]
                  have hm : pc (S >>> j) % 2 < 2 := by omega
                  rcases (show pc (S >>> j) % 2 = 0 ∨ pc (S >>> j) % 2 = 1 by omega) with q | q
                  · exact q
                  · rw [q] at e2; exact absurd e2 (by decide)
              have hN3 := hw2 N3 hF3
              refine go_in (e184_88 ⟨fun e2 => go_in (e184_120 ?_), fun e2 => ⟨nI_in2 (by omega) (by decide), nI_in2 (by decide) (by decide), useC (upC (c136 (d := d) hN3) (by omega)) fun vs N4 h => ?_⟩⟩)
              · rw [nI_mul, nI_add, nI_c (by omega), (hF3 50200 _ rfl).2.1, hA _ _ hp (by omega)]
                have hne : ¬ (j : Int) = col := fun q => e2 (by rw [← q, iz_nn])
                have : B (pc S) j = A (pc S) j := by rw [hBd]; unfold colA; rw [if_neg hne]
                rw [← this]
                exact ⟨nI_in2 (by omega) (by decide), tail _⟩
              · obtain ⟨rfl, rfl⟩ := h
                have hq : (j : Int) = col := by
                  rw [iz_n, iz_eq ⟨by omega, by omega⟩ ⟨by omega, by omega⟩] at e2
                  exact e2
                have : B (pc S) j = b (pc S) * ((w 7 : Int) * ((w 2 + w 3 + w 4 + w 5 : Nat) : Int)) := by rw [hBd]; unfold colA; rw [if_pos hq]
                obtain ⟨g1, g2⟩ := hB (pc S) hp
                refine e184_115 ?_
                rw [nI_c (by omega), nI_c (by decide), (hF3 50203 _ rfl).1, g1, hN3.n (by decide) rfl, iz_n (w 7), iz_n (w 2 + w 3 + w 4 + w 5), iz_l g2, iz_l ⟨by omega, by omega⟩, iz_l ⟨by omega, by omega⟩, lz_mul, lz_mul, Int.mul_assoc, ← this]
                exact tail _
            · have hbit : S.testBit j = true := b3.mp e
              refine go_in (e184_176 ?_)
              rw [nI_s]
              refine ih2 _ (j + 1) _ (by omega) hF3 fun T hT2 => ?_
              rw [hd3 T hT2, PS_no]
              intro q
              have := (cl_wo T (by omega) j (by omega) q.1).2.2.2.2.1
              rw [q.2, hbit] at this
              cases this
        exact P1 n _ 0 _ (by omega) hF hd
      · rw [nI_s]
        refine ih _ _ _ (S + 1) _ (by omega) hF fun T hT => ?_
        rw [hd T hT, PS_s B (n := n) (by omega) hT]
        have skip : ∀ j, j ≤ n → lz (PS B S j T) = lz (PS B S 0 T) := by
          intro j
          induction j with
          | zero => intro _; rfl
          | succ j ihj =>
            intro hj
            by_cases q : T.testBit j = true ∧ wo T j = S
            · obtain ⟨-, -, -, -, p5, p6⟩ := cl_wo T (by omega) j (by omega) q.1
              rw [q.2] at p5 p6
              have := PS_yes B (S := S) (j := j) (by omega) (by omega) p5
              rw [p6] at this
              rw [this, ← lz_add, ← lz_mul, ← lz_mul, e, lz_mul, lz_mul, Int.mul_zero, Int.mul_zero, lz_add, Int.add_zero, ihj (by omega)]
            · rw [PS_no B q, ihj (by omega)]
        exact (skip n (Nat.le_refl n)).symm
  -- the start
  have P0 : ∀ k (o4 o5 o6 : Option Value) S N', S + k = 2 ^ n → Fr aM N N' → (∀ T, T < S → N'.2.1 50201 T = lz (if T = 0 then 1 else 0)) → WM (d + 1) 184 (fun vs N' => vs = [.long (lz (det B n))] ∧ Fr aM N N') 9 [some (.ref 768), some (.int (iz col)), some (.int (nI n)), some (.int (nI S)), o4, o5, o6, none] [] N' := by
    intro k
    induction k with
    | zero =>
      intro o4 o5 o6 S N' hS hF hd
      have hS : S = 2 ^ n := by omega
      subst hS
      refine go_in (e184_9 (br_t (by rw [ip]; exact nI_le (Nat.le_refl _) (by omega)) (go_in (e184_37 ?_))))
      refine P2 (2 ^ n) _ _ _ 0 _ (by omega) hF fun T hT => ?_
      rw [hd T hT]
      unfold PS
      by_cases h0 : T = 0
      · rw [if_pos h0, if_pos h0]
      · rw [if_neg h0, if_neg h0]
        have : sm (fun c => if T.testBit c = true ∧ (wo T c < 0 ∨ wo T c = 0 ∧ c < 0) then trm B T c else 0) 8 = sm (fun c => 0 * 1) 8 := sm_congr fun c _ => if_neg (fun q => by have := q.2; omega)
        rw [this, sm_mul, Int.zero_mul]
    | succ k ih =>
      intro o4 o5 o6 S N' hS hF hd
      have fin : ∀ (z : Int), z = (if S = 0 then 1 else 0) → WM (d + 1) 184 (fun vs N' => vs = [.long (lz (det B n))] ∧ Fr aM N N') 30 [some (.ref 768), some (.int (iz col)), some (.int (nI n)), some (.int (nI S)), none, none, none, none] [.long (lz z), .int (nI S), .ref 50201] N' := by
        intro z hz
        refine go_in (e184_30 ?_)
        rw [nI_s, nI_c (by omega)]
        refine ⟨nI_in2 (by omega) (by decide), ih _ _ _ (S + 1) _ (by omega) (hF.sJ rfl) fun T hT => ?_⟩
        rw [sJ_v]
        by_cases e : T = S
        · subst e; rw [if_pos ⟨rfl, rfl⟩, hz]
        · rw [if_neg (by omega), hd T (by omega)]
      refine go_in (e184_9 (br_f (by rw [ip]; exact nI_ge (by omega) (by omega)) ⟨fun e => go_in (e184_29 (fin 0 ?_)), fun e => fin 1 ?_⟩))
      · rw [if_neg]
        intro q
        subst q
        exact e rfl
      · rw [if_pos]
        rw [iz_n, iz_eq0 ⟨by omega, by omega⟩] at e
        omega
  exact P0 (2 ^ n) _ _ _ 0 _ (by omega) Fr.rf (fun T hT => absurd hT (Nat.not_lt_zero T))
end HS
