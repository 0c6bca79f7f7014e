/-! What is told: where each number stands. -/
def up (w : Nat → Nat) (i v j : Nat) : Nat := if j = i then v else w j
theorem up_e (w : Nat → Nat) (i v : Nat) : up w i v i = v := if_pos rfl
theorem up_n {w : Nat → Nat} {i v j : Nat} (h : j ≠ i) : up w i v j = w j := if_neg h
def pl (i : Nat) : Nat × Nat := if i = 0 then (512, 0) else if i = 1 then (512, 1) else if i < 6 then (33794, i - 2) else if i = 6 then (512, 3) else if i = 7 then (512, 4) else if i = 8 then (512, 5) else if i = 9 then (512, 9) else if i = 10 then (512, 10) else if i = 11 then (512, 12) else if i = 12 then (512, 14) else if i = 13 then (512, 16) else if i < 17 then (33810, i - 14) else if i < 32 then (if (i - 17) % 5 < 3 then (33798, (i - 17) / 5 * 4 + (i - 17) % 5 + 1) else if (i - 17) % 5 = 3 then (33799, (i - 17) / 5) else (33800, (i - 17) / 5)) else if i < 57 then (33803, i - 32) else if i < 75 then (33807, i - 57) else (33809, i - 75)
def lp (k j : Nat) : Nat := if k = 512 then (if j = 0 then 0 else if j = 1 then 1 else if j = 3 then 6 else if j = 4 then 7 else if j = 5 then 8 else if j = 9 then 9 else if j = 10 then 10 else if j = 12 then 11 else if j = 14 then 12 else 13) else if k = 33794 then j + 2 else if k = 33810 then j + 14 else if k = 33798 then 17 + 5 * (j / 4) + (j % 4 - 1) else if k = 33799 then 20 + 5 * j else if k = 33800 then 21 + 5 * j else if k = 33803 then 32 + j else if k = 33807 then 57 + j else 75 + j
theorem lp_pl : ∀ i, i < 475 → lp (pl i).1 (pl i).2 = i := by decide +kernel
theorem pl_in {i j : Nat} (hi : i < 475) (hj : j < 475) (h : (pl i).1 = (pl j).1 ∧ (pl i).2 = (pl j).2) : i = j := by
  rw [← lp_pl i hi, ← lp_pl j hj, h.1, h.2]
theorem pl_512 : ∀ i, i < 475 → inO 512 (pl i).1 = true := by decide +kernel
theorem pl_z : ∀ i, i < 475 → ∀ f, f < 3 → ¬ ((pl i).1 = 33798 ∧ (pl i).2 = f * 4) := by decide +kernel
theorem pl_2 : ∀ j, j < 4 → pl (2 + j) = (33794, j) := by decide
theorem pl_17 : ∀ f, f < 3 → ∀ n, n < 4 → 1 ≤ n → pl (16 + 5 * f + n) = (33798, f * 4 + n) := by decide
theorem pl_20 : ∀ f, f < 3 → pl (20 + 5 * f) = (33799, f) ∧ pl (21 + 5 * f) = (33800, f) := by decide
theorem pl_32 : ∀ r, r < 5 → ∀ i, i < 5 → pl (32 + 5 * r + i) = (33803, r * 5 + i) := by decide
theorem pl_57 : ∀ b, b < 6 → ∀ i, i < 3 → pl (57 + 3 * b + i) = (33807, b * 3 + i) := by decide
theorem pl_75 : ∀ j, j < 400 → pl (75 + j) = (33809, j) := by decide +kernel
theorem pl_14 : ∀ i, i < 3 → pl (14 + i) = (33810, i) := by decide
def TSV (V : Nat → Prop) (w : Nat → Nat) (M : Mm) : Prop := ∀ i, i < 475 → V i → M.1 (pl i).1 (pl i).2 = iz (wv w i)
abbrev wz (i v : Nat) : Int := cond (shf i) ((v : Int) - 1) (v : Int)
theorem wv_up {w : Nat → Nat} {i v j : Nat} (h : j ≠ i) : wv (up w i v) j = wv w j := by
  unfold wv
  rw [up_n h]
theorem wv_ue {w : Nat → Nat} {i v : Nat} : wv (up w i v) i = wz i v := by
  unfold wv wz
  rw [up_e]
theorem TSV.up {V : Nat → Prop} {w : Nat → Nat} {M : Mm} (h : TSV V w M) {i : Nat} (hi : i < 475) (v : Nat) : TSV (fun j => V j ∨ j = i) (up w i v) (sI M (pl i).1 (pl i).2 (iz (wz i v))) := fun j hj hV => by
  rw [sI_v]
  by_cases e : j = i
  · subst e
    rw [if_pos ⟨rfl, rfl⟩, wv_ue]
  · rw [if_neg (fun q => e (pl_in hj hi q)), wv_up e]
    exact h j hj (by rcases hV with h | h; exact h; exact absurd h e)
theorem TSV.le {V V' : Nat → Prop} {w : Nat → Nat} {M : Mm} (h : TSV V w M) (hV : ∀ i, i < 475 → V' i → V i) : TSV V' w M := fun i hi hv => h i hi (hV i hi hv)
def vld (w : Nat → Nat) (i : Nat) : Prop := i < 17 ∨ ((17 ≤ i ∧ i < 17 + 5 * w 8) ∨ ((32 ≤ i ∧ i < 32 + 5 * w 9) ∨ ((57 ≤ i ∧ i < 57 + 3 * w 12) ∨ (75 ≤ i ∧ i < 75 + w 13))))
def TDR (w : Nat → Nat) (ta : Nat → Nat → Nat → Nat) (M : Mm) : Prop := ∀ q T i, q < w 11 → 1 ≤ T → T ≤ 7 → i < 2 → M.2.1 33805 ((q * 7 + T - 1) * 2 + i) = lN (ta q T i) ∧ ta q T i < 2 ^ 48
def TZE (M : Mm) : Prop := ∀ f, f < 3 → M.1 33798 (f * 4) = nI 0
def TI (w : Nat → Nat) (ta : Nat → Nat → Nat → Nat) (M : Mm) : Prop := TSV (vld w) w M ∧ TZE M ∧ TDR w ta M
theorem TI.tr {w : Nat → Nat} {ta : Nat → Nat → Nat → Nat} {M : Mm} (h : TI w ta M) (hb : WB w) : TR 512 w ta M := by
  obtain ⟨h1, h2, h3⟩ := h
  have w8 := (wb_w hb).2.1
  have w9 := (wb_w hb).2.2
  have w12 : w 12 ≤ 6 := hb.2.2.2.1.2.2.2.2.1
  have w13 : w 13 ≤ 400 := hb.2.2.2.1.2.2.2.2.2
  have n : ∀ i k j, i < 475 → shf i = false → pl i = (k, j) → vld w i → M.1 k j = nI (w i) := fun i k j hi hs hp hv => by
    have := h1 i hi hv
    rw [hp] at this
    have hwv : wv w i = (w i : Int) := by unfold wv; rw [hs]; rfl
    rw [hwv, ← iz_n] at this
    exact this
  have m : ∀ i k j, i < 475 → shf i = true → pl i = (k, j) → vld w i → M.1 k j = iz ((w i : Int) - 1) := fun i k j hi hs hp hv => by
    have := h1 i hi hv
    rw [hp] at this
    have hwv : wv w i = (w i : Int) - 1 := by unfold wv; rw [hs]; rfl
    rw [hwv] at this
    exact this
  have hf3 : ∀ f, f < 3 → shf (21 + 5 * f) = true := by decide
  refine ⟨⟨⟨n 0 _ _ (by decide) rfl rfl (Or.inl (by decide)), m 1 _ _ (by decide) rfl rfl (Or.inl (by decide)), n 6 _ _ (by decide) rfl rfl (Or.inl (by decide)), n 7 _ _ (by decide) rfl rfl (Or.inl (by decide))⟩, ⟨n 8 _ _ (by decide) rfl rfl (Or.inl (by decide)), n 9 _ _ (by decide) rfl rfl (Or.inl (by decide)), n 10 _ _ (by decide) rfl rfl (Or.inl (by decide))⟩, ⟨n 11 _ _ (by decide) rfl rfl (Or.inl (by decide)), n 12 _ _ (by decide) rfl rfl (Or.inl (by decide)), n 13 _ _ (by decide) rfl rfl (Or.inl (by decide))⟩⟩, fun j hj => n (2 + j) _ _ (by omega) (shf_no (by omega)) (pl_2 j hj) (Or.inl (by omega)), fun f n' hf hn => ?_, fun f hf => ⟨n (20 + 5 * f) _ _ (by omega) (shf_no (by omega)) (pl_20 f (by omega)).1 (Or.inr (Or.inl (by omega))), m (21 + 5 * f) _ _ (by omega) (hf3 f (by omega)) (pl_20 f (by omega)).2 (Or.inr (Or.inl (by omega)))⟩, fun r i hr hi => n (32 + 5 * r + i) _ _ (by omega) (shf_no (by omega)) (pl_32 r (by omega) i hi) (Or.inr (Or.inr (Or.inl (by omega)))), h3, fun b i hb' hi => n (57 + 3 * b + i) _ _ (by omega) (shf_no (by omega)) (pl_57 b (by omega) i hi) (Or.inr (Or.inr (Or.inr (Or.inl (by omega))))), fun j hj => n (75 + j) _ _ (by omega) (shf_no (by omega)) (pl_75 j (by omega)) (Or.inr (Or.inr (Or.inr (Or.inr (by omega))))), fun i hi => n (14 + i) _ _ (by omega) (shf_no (by omega)) (pl_14 i hi) (Or.inl (by omega))⟩
  by_cases e : n' = 0
  · subst e
    have := h2 f (by omega)
    exact this
  · have hbr : brg w f n' = w (16 + 5 * f + n') := if_neg e
    rw [hbr]
    exact n (16 + 5 * f + n') _ _ (by omega) (shf_no (by omega)) (pl_17 f (by omega) n' hn (by omega)) (Or.inr (Or.inl (by omega)))
theorem TI.of {w : Nat → Nat} {ta : Nat → Nat → Nat → Nat} {P : Nat → Nat → Bool} {M N : Mm} (h : TI w ta M) (hF : Fr P M N) (h0 : ∀ k j, inO 512 k = true → P k j = false) : TI w ta N := by
  obtain ⟨h1, h2, h3⟩ := h
  refine ⟨fun i hi hv => by rw [(hF _ _ (h0 _ _ (pl_512 i hi))).1]; exact h1 i hi hv, fun f hf => by rw [(hF _ _ (h0 33798 _ (by decide))).1]; exact h2 f hf, fun q T i hq hT hT7 hi => by rw [(hF _ _ (h0 33805 _ (by decide))).2.1]; exact h3 q T i hq hT hT7 hi⟩
theorem TZE.up {M : Mm} (h : TZE M) {i : Nat} (hi : i < 475) (x : Int32) : TZE (sI M (pl i).1 (pl i).2 x) := fun f hf => by
  rw [sI_v, if_neg (fun q => pl_z i hi f hf ⟨q.1.symm, q.2.symm⟩)]
  exact h f hf
/-- one number told otherwise that counts nothing -/
theorem TI.up {w : Nat → Nat} {ta : Nat → Nat → Nat → Nat} {M : Mm} (h : TI w ta M) {i : Nat} (hi : i < 475) (hc : i ≠ 8 ∧ i ≠ 9 ∧ i ≠ 11 ∧ i ≠ 12 ∧ i ≠ 13) (v : Nat) : TI (up w i v) ta (sI M (pl i).1 (pl i).2 (iz (wz i v))) := by
  obtain ⟨h1, h2, h3⟩ := h
  refine ⟨(h1.up hi v).le fun j hj hv => Or.inl ?_, h2.up hi _, fun q T i' hq hT hT7 hi' => ?_⟩
  · unfold vld at hv ⊢
    rw [up_n (by omega), up_n (by omega), up_n (by omega), up_n (by omega)] at hv
    exact hv
  · rw [up_n (by omega)] at hq
    exact h3 q T i' hq hT hT7 hi'
theorem MR.up {w : Nat → Nat} {M : Mm} (h : MR w M) {i : Nat} (hi : i < 475) (v : Nat) : MR (up w i v) (sI M 50177 i (iz (wz i v))) := fun j hj => by
  rw [sI_v]
  by_cases e : j = i
  · subst e
    rw [if_pos ⟨rfl, rfl⟩, wv_ue]
  · rw [if_neg (fun q => e q.2), wv_up e]
    exact h j hj
theorem DRel.up {w : Nat → Nat} {ta : Nat → Nat → Nat → Nat} {M : Mm} (h : DRel w ta M) {i : Nat} (hi : i < 475) (hc : i ≠ 11) (v : Nat) (x : Int32) : DRel (up w i v) ta (sI M 50177 i x) := by
  have hF : Fr (fun k j => Nat.beq k 50177 && Nat.blt j 475) M (sI M 50177 i x) := Fr.rf.sI (by rw [show Nat.blt i 475 = true from Nat.blt_eq.mpr hi]; rfl)
  have h2 := h.ge hF fun j hj => by
    cases hq : Nat.blt j 475 with
    | true => have := Nat.le_of_ble_eq_true hq; omega
    | false => exact Bool.and_false _
  intro q hq
  rw [up_n (Ne.symm hc)] at hq
  exact h2 q hq
/-- the reference's world -/
def RI (w : Nat → Nat) (ta : Nat → Nat → Nat → Nat) (M : Mm) : Prop := MR w M ∧ DRel w ta M ∧ NP M
theorem RI.up {w : Nat → Nat} {ta : Nat → Nat → Nat → Nat} {M : Mm} (h : RI w ta M) {i : Nat} (hi : i < 475) (hc : i ≠ 11) (v : Nat) : RI (up w i v) ta (sI M 50177 i (iz (wz i v))) := ⟨h.1.up hi v, h.2.1.up hi hc v _, h.2.2⟩
theorem RI.of {w : Nat → Nat} {ta : Nat → Nat → Nat → Nat} {P : Nat → Nat → Bool} {M N : Mm} (h : RI w ta M) (hF : Fr P M N) (h0 : ∀ j, P 50177 j = false) (h1 : P 768 14 = false) (h2 : P 768 15 = false) : RI w ta N := ⟨h.1.of hF (fun j _ => h0 j), h.2.1.of hF h0, h.2.2.of hF h1 h2⟩
def aTold (k _ : Nat) : Bool := inO 512 k
def aWld (k j : Nat) : Bool := Nat.beq k 50177 || (Nat.beq k 768 && Nat.beq j 0)
