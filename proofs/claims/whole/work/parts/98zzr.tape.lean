/-! The tape, on both sides. -/
def byt (x : Int32) (k : Nat) : Int := (x >>> (nI (24 - 8 * k) &&& 31)).toInt8.toInt
theorem byt_e (x : Int32) (k : Nat) : ((x >>> (nI (24 - 8 * k) &&& 31)).toInt8.toInt32).toInt8.toInt32 = iz (byt x k) := by
  rw [Int8.toInt8_toInt32]
  unfold byt
  rw [← Int8.toInt_toInt32]
  exact (Int32.ofInt_toInt _).symm
theorem byt_r (x : Int32) (k : Nat) : -128 ≤ byt x k ∧ byt x k ≤ 127 := by
  have h1 := Int8.le_toInt (x >>> (nI (24 - 8 * k) &&& 31)).toInt8
  have h2 := Int8.toInt_lt (x >>> (nI (24 - 8 * k) &&& 31)).toInt8
  unfold byt
  omega
def CTp (tl : Nat) (tp : Nat → Int) (M : Mm) : Prop := M.1 384 1 = nI tl ∧ tl ≤ 400 ∧ (∀ j, -128 ≤ tp j ∧ tp j ≤ 127) ∧ ∀ j, j < tl → M.1 25600 j = iz (tp j)
def RTp (tl : Nat) (tp : Nat → Int) (M : Mm) : Prop := M.1 768 5 = nI tl ∧ tl ≤ 400 ∧ (∀ j, -128 ≤ tp j ∧ tp j ≤ 127) ∧ ∀ j, j < tl → M.1 50180 j = iz (tp j)
def aTape (k _ : Nat) : Bool := Nat.beq k 384 || Nat.beq k 25600
def aTapR (k j : Nat) : Bool := (Nat.beq k 768 && (Nat.beq j 0 || Nat.beq j 5)) || (Nat.beq k 50180 || Nat.beq k 50187)
def fdT (tp : Nat → Int) (tl : Nat) (X : Nat → Int32) (j : Nat) : Int := if tl ≤ j then byt (X ((j - tl) / 4)) ((j - tl) % 4) else tp j
def ptT (tp : Nat → Int) (tl : Nat) (x : Int32) (j : Nat) : Int := if tl ≤ j then byt x (j - tl) else tp j
def xs5 (x1 x2 x3 x4 x5 : Int32) (i : Nat) : Int32 := if i = 0 then x1 else if i = 1 then x2 else if i = 2 then x3 else if i = 3 then x4 else x5
theorem fdT_r {tp : Nat → Int} {tl : Nat} {X : Nat → Int32} (h : ∀ j, -128 ≤ tp j ∧ tp j ≤ 127) (j : Nat) : -128 ≤ fdT tp tl X j ∧ fdT tp tl X j ≤ 127 := by
  unfold fdT
  split
  · exact byt_r _ _
  · exact h j
theorem ptT_r {tp : Nat → Int} {tl : Nat} {x : Int32} (h : ∀ j, -128 ≤ tp j ∧ tp j ≤ 127) (j : Nat) : -128 ≤ ptT tp tl x j ∧ ptT tp tl x j ≤ 127 := by
  unfold ptT
  split
  · exact byt_r _ _
  · exact h j
section TP
variable {d : Nat} {M : Mm} {w : Nat → Nat} {ta : Nat → Nat → Nat → Nat} {tl : Nat} {tp : Nat → Int}
theorem CTp.cg {tp' : Nat → Int} (h : CTp tl tp M) (hr : ∀ j, -128 ≤ tp' j ∧ tp' j ≤ 127) (he : ∀ j, j < tl → tp j = tp' j) : CTp tl tp' M := ⟨h.1, h.2.1, hr, fun j hj => by rw [← he j hj]; exact h.2.2.2 j hj⟩
theorem c43 (h : CTp tl tp M) (ht : tl ≤ 396) {x : Int32} : SC (d + 1) 43 [.ref 384, .int x] M (fun vs N => vs = [] ∧ CTp (tl + 4) (ptT tp tl x) N ∧ Fr aTape M N) := by
  refine sC (by decide) rfl (go_in (e43_0 ?_))
  have loop : ∀ m k N, k + m = 4 → CTp (tl + k) (ptT tp tl x) N → Fr aTape M N → WM d 43 (fun vs N => vs = [] ∧ CTp (tl + 4) (ptT tp tl x) N ∧ Fr aTape M N) 3 [some (.ref 384), some (.int x), some (.int (iz (24 - 8 * (k : Int))))] [] N := by
    intro m
    induction m with
    | zero =>
      intro k N hk hC hF
      have hk : k = 4 := by omega
      subst hk
      exact go_in (e43_3 (br_t ((iz_lt0 ⟨by decide, by decide⟩).mpr (by decide)) (go_in (e43_46 ⟨rfl, rfl, hC, hF⟩))))
    | succ m ih =>
      intro k N hk hC hF
      refine go_in (e43_3 (br_f (fun q => absurd ((iz_lt0 ⟨by omega, by omega⟩).mp q) (by omega)) ?_))
      rw [hC.1]
      refine br_f (nI_ge (by omega) (by decide)) ⟨nI_in2 (by omega) (by decide), ?_⟩
      have e1 : iz (24 - 8 * (k : Int)) = nI (24 - 8 * k) := by
        rw [iz_n]
        congr 1
        omega
      rw [nI_c (by omega), sI_k _ _ (by decide), hC.1, nI_add, show Int32.ofInt (-8) = iz (-8) from rfl, iz_add, e1, byt_e, show (24 : Int) - 8 * (k : Int) + -8 = 24 - 8 * ((k + 1 : Nat) : Int) by omega]
      refine ih (k + 1) _ (by omega) ⟨sI_e _ _ _ _, by omega, hC.2.2.1, fun j hj => ?_⟩ ((hF.sI rfl).sI rfl)
      rw [sI_k _ _ (by decide)]
      by_cases e : j = tl + k
      · subst e
        rw [sI_e]
        unfold ptT
        rw [if_pos (by omega), show tl + k - tl = k by omega]
      · rw [sI_j _ _ e]
        exact hC.2.2.2 j (by omega)
  exact loop 4 0 M rfl ((h.cg (ptT_r h.2.2.1) fun j hj => by unfold ptT; rw [if_neg (by omega)])) Fr.rf
theorem k43 (h : CTp tl tp M) (ht : tl ≤ 396) {x : Int32} {M0 : Mm} (hF : Fr aTape M0 M) {Q : List Value → Mm → Prop} (k : ∀ N, CTp (tl + 4) (ptT tp tl x) N → Fr aTape M0 N → Q [] N) : SC (d + 1) 43 [.ref 384, .int x] M Q :=
  useC (c43 h ht) fun vs N q => by
    obtain ⟨rfl, q1, q2⟩ := q
    exact k N q1 (hF.tr q2)
theorem c79 (h : CTp tl tp M) (ht : tl ≤ 380) {x1 x2 x3 x4 x5 : Int32} : SC (d + 2) 79 [.ref 704, .int x1, .int x2, .int x3, .int x4, .int x5] M (fun vs N => vs = [.int (nI (tl + 20))] ∧ CTp (tl + 20) (fdT tp tl (xs5 x1 x2 x3 x4 x5)) N ∧ Fr aTape M N) := by
  refine sC (by decide) rfl (go_in (e79_0 ?_))
  rw [h.1]
  refine br_t (nI_le ht (by decide)) (go_in (e79_15 (k43 h (by omega) Fr.rf fun N1 h1 f1 => e79_23 (k43 h1 (by omega) f1 fun N2 h2 f2 => e79_31 (k43 h2 (by omega) f2 fun N3 h3 f3 => e79_39 (k43 h3 (by omega) f3 fun N4 h4 f4 => e79_48 (k43 h4 (by omega) f4 fun N5 h5 f5 => e79_57 ?_)))))))
  refine ⟨rfl, by rw [h5.1], h5.cg (fdT_r h.2.2.1) fun j hj => ?_, f5⟩
  unfold fdT
  by_cases g5 : tl + 4 + 4 + 4 + 4 ≤ j
  · rw [if_pos (by omega), show (j - tl) / 4 = 4 by omega, show (j - tl) % 4 = j - (tl + 4 + 4 + 4 + 4) by omega]
    unfold ptT
    rw [if_pos g5]
    rfl
  · by_cases g4 : tl + 4 + 4 + 4 ≤ j
    · rw [if_pos (by omega), show (j - tl) / 4 = 3 by omega, show (j - tl) % 4 = j - (tl + 4 + 4 + 4) by omega]
      unfold ptT
      rw [if_neg g5, if_pos g4]
      rfl
    · by_cases g3 : tl + 4 + 4 ≤ j
      · rw [if_pos (by omega), show (j - tl) / 4 = 2 by omega, show (j - tl) % 4 = j - (tl + 4 + 4) by omega]
        unfold ptT
        rw [if_neg g5, if_neg g4, if_pos g3]
        rfl
      · by_cases g2 : tl + 4 ≤ j
        · rw [if_pos (by omega), show (j - tl) / 4 = 1 by omega, show (j - tl) % 4 = j - (tl + 4) by omega]
          unfold ptT
          rw [if_neg g5, if_neg g4, if_neg g3, if_pos g2]
          rfl
        · by_cases g1 : tl ≤ j
          · rw [if_pos g1, show (j - tl) / 4 = 0 by omega, show (j - tl) % 4 = j - tl by omega]
            unfold ptT
            rw [if_neg g5, if_neg g4, if_neg g3, if_neg g2, if_pos g1]
            rfl
          · rw [if_neg g1]
            unfold ptT
            rw [if_neg g5, if_neg g4, if_neg g3, if_neg g2, if_neg g1]
theorem v79 (h : CTp tl tp M) (ht : ¬ tl ≤ 380) {x1 x2 x3 x4 x5 : Int32} : SC (d + 2) 79 [.ref 704, .int x1, .int x2, .int x3, .int x4, .int x5] M (fun vs N => vs = [.int (iz (-1))] ∧ N = M) := by
  have := h.2.1
  refine sC (by decide) rfl (go_in (e79_0 ?_))
  rw [h.1]
  exact br_f (nI_ge (by omega) (by omega)) ⟨rfl, rfl, rfl⟩
theorem c146 (h : RTp tl tp M) (ht : tl ≤ 380) {x1 x2 x3 x4 x5 : Int32} : SC (d + 1) 146 [.ref 768, .int x1, .int x2, .int x3, .int x4, .int x5] M (fun vs N => vs = [.int (nI (tl + 20))] ∧ RTp (tl + 20) (fdT tp tl (xs5 x1 x2 x3 x4 x5)) N ∧ Fr aTapR M N ∧ N.1 768 0 = nI 0) := by
  refine sC (by decide) rfl (go_in (e146_0 ?_))
  rw [sI_j _ _ (by decide), h.1, nI_add]
  refine br_t (nI_le (by omega) (by decide)) (go_in (e146_20 ?_))
  have hM : ∃ M1, M1 = sI (sI (sI (sI (sI (sI M 768 0 (nI 0)) 50187 0 x1) 50187 1 x2) 50187 2 x3) 50187 3 x4) 50187 4 x5 := ⟨_, rfl⟩
  obtain ⟨M1, hM1⟩ := hM
  have hF1 : Fr aTapR M M1 := by rw [hM1]; exact (((((Fr.rf.sI rfl).sI rfl).sI rfl).sI rfl).sI rfl).sI rfl
  have hX : ∀ i, i < 5 → M1.1 50187 i = xs5 x1 x2 x3 x4 x5 i := fun i hi => by
    rw [hM1]
    obtain rfl | rfl | rfl | rfl | rfl : i = 0 ∨ i = 1 ∨ i = 2 ∨ i = 3 ∨ i = 4 := by omega
    all_goals rfl
  have h5 : M1.1 768 5 = nI tl := by
    rw [hM1]
    simp (disch := decide) only [sI_k, sI_j]
    exact h.1
  have h0 : M1.1 768 0 = nI 0 := by rw [hM1]; rfl
  have hb : ∀ j, j < tl → M1.1 50180 j = iz (tp j) := fun j hj => by
    rw [hM1]
    simp (disch := decide) only [sI_k, sI_j]
    exact h.2.2.2 j hj
  refine ⟨nI_in2 (by decide) (by decide), nI_in2 (by decide) (by decide), nI_in2 (by decide) (by decide), nI_in2 (by decide) (by decide), nI_in2 (by decide) (by decide), ?_⟩
  simp only [nI_c (show 0 < 2147483648 by decide), nI_c (show 1 < 2147483648 by decide), nI_c (show 2 < 2147483648 by decide), nI_c (show 3 < 2147483648 by decide), nI_c (show 4 < 2147483648 by decide)]
  rw [← hM1]
  have loop : ∀ m i N (o1 o2 o3 o4 o5 : Option Value), i + m = 20 → Fr aTapR M N → N.1 768 0 = nI 0 → N.1 768 5 = nI tl → (∀ i, i < 5 → N.1 50187 i = xs5 x1 x2 x3 x4 x5 i) → (∀ j, j < tl + i → N.1 50180 j = iz (fdT tp tl (xs5 x1 x2 x3 x4 x5) j)) → WM d 146 (fun vs N => vs = [.int (nI (tl + 20))] ∧ RTp (tl + 20) (fdT tp tl (xs5 x1 x2 x3 x4 x5)) N ∧ Fr aTapR M N ∧ N.1 768 0 = nI 0) 60 [some (.ref 768), o1, o2, o3, o4, o5, some (.int (nI i))] [] N := by
    intro m
    induction m with
    | zero =>
      intro i N o1 o2 o3 o4 o5 hi hF h0 h5 hX hT
      have hi : i = 20 := by omega
      subst hi
      refine go_in (e146_60 (br_t (nI_le (by decide) (by decide)) (go_in (e146_106 ?_))))
      rw [sI_e, h5, nI_add]
      exact ⟨rfl, rfl, ⟨sI_e _ _ _ _, by omega, fdT_r h.2.2.1, fun j hj => by rw [sI_k _ _ (by decide)]; exact hT j hj⟩, hF.sI rfl, by rw [sI_j _ _ (by decide)]; exact h0⟩
    | succ m ih =>
      intro i N o1 o2 o3 o4 o5 hi hF h0 h5 hX hT
      refine go_in (e146_60 (br_f (nI_ge (by omega) (by decide)) ?_))
      rw [pk_rem (by omega) (by decide) (by decide), pk_div (by omega) (by decide) (by decide), h5, nI_add, nI_c (by omega), nI_c (by omega), nI_mul, nI_sub (by omega), hX _ (by omega), byt_e, nI_s]
      refine ⟨by decide, nI_in2 (by omega) (by decide), by decide, nI_in2 (by omega) (by decide), ih (i + 1) _ _ _ _ _ _ (by omega) (hF.sI rfl) (by rw [sI_k _ _ (by decide)]; exact h0) (by rw [sI_k _ _ (by decide)]; exact h5) (fun k hk => by rw [sI_k _ _ (by decide)]; exact hX k hk) fun j hj => ?_⟩
      by_cases e : j = tl + i
      · subst e
        rw [sI_e]
        unfold fdT
        rw [if_pos (by omega), show tl + i - tl = i by omega]
      · rw [sI_j _ _ e]
        exact hT j (by omega)
  exact loop 20 0 M1 _ _ _ _ _ rfl hF1 h0 h5 hX fun j hj => by
    unfold fdT
    rw [if_neg (by omega)]
    exact hb j (by omega)
theorem v146 (h : RTp tl tp M) (ht : ¬ tl ≤ 380) {x1 x2 x3 x4 x5 : Int32} : SC (d + 1) 146 [.ref 768, .int x1, .int x2, .int x3, .int x4, .int x5] M (fun vs N => vs = [.int (iz (-1))] ∧ Fr a7 M N ∧ N.1 768 0 = nI 0) := by
  have := h.2.1
  refine sC (by decide) rfl (go_in (e146_0 ?_))
  rw [sI_j _ _ (by decide), h.1, nI_add]
  exact br_f (nI_ge (by omega) (by omega)) ⟨rfl, rfl, Fr.rf.sI rfl, rfl⟩
theorem CTp.cut (h : CTp tl tp M) {n : Nat} (hn : n ≤ tl) : CTp n tp (sI M 384 1 (nI n)) := ⟨sI_e _ _ _ _, by have := h.2.1; omega, h.2.2.1, fun j hj => by rw [sI_k _ _ (by decide)]; exact h.2.2.2 j (by omega)⟩
theorem RTp.cut (h : RTp tl tp M) {n : Nat} (hn : n ≤ tl) : RTp n tp (sI M 768 5 (nI n)) := ⟨sI_e _ _ _ _, by have := h.2.1; omega, h.2.2.1, fun j hj => by rw [sI_k _ _ (by decide)]; exact h.2.2.2 j (by omega)⟩
theorem c80 (h : CTp tl tp M) {n : Nat} (hn : n ≤ tl) : SC (d + 1) 80 [.ref 704, .int (iz n)] M (fun vs N => vs = [.int (nI 1)] ∧ CTp n tp N ∧ Fr aTape M N) := by
  have := h.2.1
  refine sC (by decide) rfl (go_in (e80_0 ⟨fun q => absurd ((iz_lt0 (i32_n (by omega))).mp q) (by omega), fun _ => ?_⟩))
  rw [h.1, iz_nn]
  exact br_t (nI_le hn (by omega)) (go_in (e80_17 ⟨Or.inr rfl, rfl, rfl, h.cut hn, Fr.rf.sI rfl⟩))
theorem v80 (h : CTp tl tp M) {n : Int} (h1 : i32 n) (hn : ¬ (0 ≤ n ∧ n ≤ tl)) : SC (d + 1) 80 [.ref 704, .int (iz n)] M (fun vs N => vs = [.int (nI 0)] ∧ N = M) := by
  have := h.2.1
  refine sC (by decide) rfl (go_in (e80_0 ⟨fun q => go_in (e80_15 ⟨Or.inl rfl, rfl, rfl, rfl⟩), fun q => ?_⟩))
  rw [iz_lt0 h1] at q
  rw [h.1, iz_n, iz_le h1 (i32_n (by omega))]
  exact br_f (by omega) (go_in (e80_15 ⟨Or.inl rfl, rfl, rfl, rfl⟩))
theorem c147 (h : RTp tl tp M) {n : Nat} (hn : n ≤ tl) : SC (d + 1) 147 [.ref 768, .int (iz n)] M (fun vs N => vs = [.int (nI 1)] ∧ RTp n tp N ∧ Fr aTapR M N ∧ N.1 768 0 = nI 0) := by
  have := h.2.1
  refine sC (by decide) rfl (go_in (e147_0 ⟨fun q => absurd ((iz_lt0 (i32_n (by omega))).mp q) (by omega), fun _ => ?_⟩))
  rw [sI_j _ _ (by decide), h.1, iz_nn]
  refine br_t (nI_le hn (by omega)) (go_in (e147_19 ⟨Or.inr rfl, rfl, rfl, ⟨sI_e _ _ _ _, by omega, h.2.2.1, fun j hj => ?_⟩, (Fr.rf.sI rfl).sI rfl, rfl⟩))
  rw [sI_k _ _ (by decide), sI_k _ _ (by decide)]
  exact h.2.2.2 j (by omega)
theorem v147 (h : RTp tl tp M) {n : Int} (h1 : i32 n) (hn : ¬ (0 ≤ n ∧ n ≤ tl)) : SC (d + 1) 147 [.ref 768, .int (iz n)] M (fun vs N => vs = [.int (nI 0)] ∧ Fr a7 M N ∧ N.1 768 0 = nI 0) := by
  have := h.2.1
  refine sC (by decide) rfl (go_in (e147_0 ⟨fun q => go_in (e147_17 ⟨Or.inl rfl, rfl, rfl, Fr.rf.sI rfl, rfl⟩), fun q => ?_⟩))
  rw [iz_lt0 h1] at q
  rw [sI_j _ _ (by decide), h.1, iz_n, iz_le h1 (i32_n (by omega))]
  exact br_f (by omega) (go_in (e147_17 ⟨Or.inl rfl, rfl, rfl, Fr.rf.sI rfl, rfl⟩))
theorem c88 : SC (d + 1) 88 [.ref 704] M (fun vs N => vs = [.int (M.1 704 11)] ∧ N = M) := sC (by decide) rfl (go_in (e88_0 ⟨rfl, rfl, rfl⟩))
theorem c156 : SC (d + 1) 156 [.ref 768] M (fun vs N => vs = [.int (M.1 768 10)] ∧ Fr a7 M N ∧ N.1 768 0 = nI 0) := sC (by decide) rfl (go_in (e156_0 ⟨rfl, rfl, Fr.rf.sI rfl, rfl⟩))
end TP
