/-! Whole parts of differences. -/
section LS
variable {d : Nat} {M : Mm}
theorem tmod_64 {a b : Int} (ha : i64 a) (hb : i64 b) (h0 : 0 < b) : i64 (a.tmod b) := by
  by_cases hs : 0 ≤ a
  · have h1 := Int.tmod_nonneg b hs
    have h2 := Int.tmod_lt_of_pos a h0
    exact ⟨by have := hb.1; omega, by have := hb.2; omega⟩
  · have h1 := Int.tmod_nonneg b (show 0 ≤ -a by omega)
    have h2 := Int.tmod_lt_of_pos (-a) h0
    rw [Int.neg_tmod] at h1 h2
    exact ⟨by have := hb.2; omega, by have := hb.2; omega⟩
theorem tmod_floor {a b : Int} (h0 : 0 < b) : (0 ≤ a ∨ a.tmod b = 0 → a % b = a.tmod b) ∧ (a < 0 → a.tmod b ≠ 0 → a % b = a.tmod b + b) := by
  obtain ⟨h1, h2⟩ := tdiv_floor (a := a) h0
  have e1 := Int.tmod_add_mul_tdiv a b
  have e2 := rm_eq a b
  rw [Int.mul_comm] at e1
  refine ⟨fun h => ?_, fun h h3 => ?_⟩
  · have h4 := h1 (by rcases h with h | h <;> omega)
    rw [h4] at e2
    omega
  · have h4 := h2 h (by omega)
    rw [h4, Int.sub_mul] at e2
    omega
theorem c227 {a b : Int} (ha : i64 a) (hb : i64 b) (h0 : 0 < b) : SC (d + 1) 227 [.long (lz a), .long (lz b)] M (fun vs N => vs = [.long (lz (a % b))] ∧ N = M) := by
  have hne : ¬ lz b = 0 := fun e => by
    rw [show (0 : Int64) = lz 0 from rfl, lz_eq hb i64_0] at e
    omega
  have ht := tmod_floor (a := a) h0
  have hx := xor_neg ha hb
  have h0c : (0 : Int32).toInt = 0 := by decide
  rw [Int32.lt_iff_toInt_lt] at hx
  refine sC (by decide) rfl (go_in (e227_0 ⟨hne, fun q => ?_, fun q => ⟨fun q2 => ?_, fun q2 => ?_⟩⟩))
  · rw [lz_rem ha hb h0]
    rw [Int32.le_iff_toInt_le] at q
    have h0a : 0 ≤ a := by
      by_cases h : a < 0
      · exact absurd (hx.mpr ⟨fun _ => by omega, fun _ => h⟩) (by omega)
      · omega
    exact go_in (e227_25 ⟨rfl, by rw [ht.1 (Or.inl h0a)], rfl⟩)
  · rw [cmp_eq, lz_rem ha hb h0, lz_0, lz_eq (tmod_64 ha hb h0) i64_0] at q2
    rw [lz_rem ha hb h0]
    exact go_in (e227_25 ⟨rfl, by rw [ht.1 (Or.inr q2)], rfl⟩)
  · rw [cmp_eq, lz_rem ha hb h0, lz_0, lz_eq (tmod_64 ha hb h0) i64_0] at q2
    rw [lz_rem ha hb h0, lz_add]
    rw [Int32.le_iff_toInt_le] at q
    refine ⟨rfl, ?_, rfl⟩
    rw [ht.2 ?_ q2]
    by_cases h : a < 0
    · exact h
    · exfalso
      have h3 : ¬ ((a < 0) ↔ ¬ (b < 0)) := fun e => h (e.mpr (by omega))
      have := mt hx.mp h3
      omega
/-- the whole part of a / b less c / e -/
def lsV (a b c e : Int) : Int := a / b - c / e - (if a % b * e < c % e * b then 1 else 0)
theorem c128 {a b c e : Int} (hb : 0 < b) (he : 0 < e) (ia : i64 a) (ib : i64 b) (ic : i64 c) (ie : i64 e) : SC (d + 3) 128 [.long (lz a), .long (lz b), .long (lz c), .long (lz e)] M (fun vs N => vs = [.long (lz (lsV a b c e))] ∧ N = M) := by
  refine sC (by decide) rfl (go_in (e128_0 ?_))
  rw [cmp_le, cmp_gt, lz_0, lz_le ib i64_0, lz_lt i64_0 ie]
  refine ⟨fun q => absurd q (by omega), fun _ => ⟨fun _ => go_in (e128_15 ?_), fun q => absurd he q⟩⟩
  refine useC (upC (c226 (d := d) ia ib hb) (by omega)) fun vs N h => ?_
  obtain ⟨rfl, rfl⟩ := h
  refine e128_20 (useC (upC (c226 (d := d) ic ie he) (by omega)) fun vs N2 h => ?_)
  obtain ⟨rfl, rfl⟩ := h
  refine e128_27 (useC (upC (c227 (d := d) ic ie he) (by omega)) fun vs N3 h => ?_)
  obtain ⟨rfl, rfl⟩ := h
  refine e128_37 (useC (upC (c227 (d := d) ia ib hb) (by omega)) fun vs N4 h => ?_)
  obtain ⟨rfl, rfl⟩ := h
  have hm1 := md_64 (a := c) he ie
  have hm2 := md_64 (a := a) hb ib
  refine e128_44 (useC (c127 (d := d) (t := decide (a % b * e < c % e * b)) he hb hm1 ie hm2 ib (by rw [decide_eq_true_iff])) fun vs N5 h => ?_)
  obtain ⟨rfl, rfl⟩ := h
  rw [lz_sub]
  refine e128_48 ⟨fun q => go_in (e128_58 (go_in (e128_60 ⟨rfl, ?_, rfl⟩))), fun q => go_in (e128_60 ⟨rfl, ?_, rfl⟩)⟩
  · have hf : ¬ a % b * e < c % e * b := fun h => by
      rw [decide_eq_true h] at q
      exact absurd q (by decide)
    unfold lsV
    rw [if_neg hf, Int.sub_zero]
  · have hf : a % b * e < c % e * b := by
      by_cases h : a % b * e < c % e * b
      · exact h
      · rw [decide_eq_false h] at q
        exact absurd rfl q
    unfold lsV
    rw [if_pos hf, show lN 1 = lz 1 from rfl, lz_sub]
end LS
theorem lsV_scale {g h a b c e : Int} (hg : 0 < g) (hh : 0 < h) (hb : 0 < b) (he : 0 < e) : lsV (g * a) (g * b) (h * c) (h * e) = lsV a b c e := by
  unfold lsV
  rw [Int.mul_ediv_mul_of_pos _ _ hg, Int.mul_ediv_mul_of_pos _ _ hh, Int.mul_emod_mul_of_pos _ _ hg, Int.mul_emod_mul_of_pos _ _ hh]
  have e1 : g * (a % b) * (h * e) = (g * h) * (a % b * e) := by grind
  have e2 : h * (c % e) * (g * b) = (g * h) * (c % e * b) := by grind
  rw [e1, e2]
  have hgh : 0 < g * h := Int.mul_pos hg hh
  by_cases q : a % b * e < c % e * b
  · rw [if_pos q, if_pos (Int.mul_lt_mul_of_pos_left q hgh)]
  · rw [if_neg q, if_neg (fun q2 => q (Int.lt_of_mul_lt_mul_left q2 (Int.le_of_lt hgh)))]
theorem frc_ok (a b : Int) : (Int.gcd a b : Int) * frc a b false = a ∧ (Int.gcd a b : Int) * frc a b true = b :=
  ⟨Int.mul_tdiv_cancel' (Int.gcd_dvd_left a b), Int.mul_tdiv_cancel' (Int.gcd_dvd_right a b)⟩
theorem frc_pos {a b : Int} (hb : 0 < b) : 0 < frc a b true ∧ frc a b true ≤ b := by
  have h1 := (frc_ok a b).2
  have h2 : (0 : Int) < (Int.gcd a b : Int) := by have := gcd_pos (a := a) hb; omega
  have h3 : 0 < frc a b true := pos_mul h2 (by omega)
  refine ⟨h3, ?_⟩
  have h4 := Int.mul_le_mul_of_nonneg_right (show (1 : Int) ≤ (Int.gcd a b : Int) by omega) (Int.le_of_lt h3)
  rw [Int.one_mul] at h4
  omega
theorem frc_le {a b X : Int} (hb : 0 < b) (ha : bd X a) : bd X (frc a b false) := by
  have h1 := (frc_ok a b).1
  have h2 : (1 : Int) ≤ (Int.gcd a b : Int) := by have := gcd_pos (a := a) hb; omega
  obtain ⟨a1, a2⟩ := ha
  by_cases hs : 0 ≤ frc a b false
  · have h4 := Int.mul_le_mul_of_nonneg_right h2 hs
    rw [Int.one_mul] at h4
    exact ⟨by omega, by omega⟩
  · have h4 := Int.mul_le_mul_of_nonneg_right h2 (show 0 ≤ -frc a b false by omega)
    rw [Int.one_mul, Int.mul_neg] at h4
    exact ⟨by omega, by omega⟩
theorem lsV_frc {a b c e : Int} (hb : 0 < b) (he : 0 < e) : lsV (frc a b false) (frc a b true) (frc c e false) (frc c e true) = lsV a b c e := by
  have h1 := frc_ok a b
  have h2 := frc_ok c e
  have g1 : (0 : Int) < (Int.gcd a b : Int) := by have := gcd_pos (a := a) hb; omega
  have g2 : (0 : Int) < (Int.gcd c e : Int) := by have := gcd_pos (a := c) he; omega
  have h := lsV_scale (a := frc a b false) (b := frc a b true) (c := frc c e false) (e := frc c e true) g1 g2 (frc_pos hb).1 (frc_pos he).1
  rw [h1.1, h1.2, h2.1, h2.2] at h
  exact h.symm
/-! determinants with sums -/
theorem crm_add {A : Nat → Nat → Int} {n : Nat} (hM : MM A n) (a b : Nat → Int) {j : Nat} (hj : j < n) : crm A n (fun i => a i + b i) j = crm A n a j + crm A n b j := by
  refine MM_uniq hM (u := crm A n (fun i => a i + b i)) (v := fun j => crm A n a j + crm A n b j) (fun i hi => ?_) j hj
  rw [cramer_n _ _ _ hi]
  have e : sm (fun j => A i j * (crm A n a j + crm A n b j)) n = sm (fun j => A i j * crm A n a j + A i j * crm A n b j) n := sm_congr fun j _ => Int.mul_add _ _ _
  rw [e, sm_add, cramer_n _ _ _ hi, cramer_n _ _ _ hi, Int.mul_add]
theorem crm_zero {A : Nat → Nat → Int} {n : Nat} (hM : MM A n) {j : Nat} (hj : j < n) : crm A n (fun _ => 0) j = 0 := by
  refine MM_zero hM (z := crm A n (fun _ => 0)) (fun i hi => ?_) j hj
  rw [cramer_n _ _ _ hi, Int.mul_zero]
/-- what all together have by the draws -/
def shR (w : Nat → Nat) (ta : Nat → Nat → Nat → Nat) (n l : Nat) : Int := crm (RSQ w (loV w (w 10) (waW w ta 0))) (w 0 + 1) (RB w (fun i => gaW w (w 10) (waW w ta 0 i) i n)) l
theorem shR_0 {w : Nat → Nat} (hb : WB w) {ta : Nat → Nat → Nat → Nat} {l : Nat} (hl : l ≤ w 0) : shR w ta 0 l = 0 := by
  have e : RB w (fun i => gaW w (w 10) (waW w ta 0 i) i 0) = fun _ => 0 := by
    funext i
    exact Int.zero_mul _
  unfold shR
  rw [e]
  exact crm_zero (RSQ_MM hb _).1 (by omega)
theorem shR_s {w : Nat → Nat} (hb : WB w) {ta : Nat → Nat → Nat → Nat} {n l : Nat} (hl : l ≤ w 0) : shR w ta (n + 1) l = shR w ta n l + uWo w (w 10) (waW w ta 0) n l := by
  have e : RB w (fun i => gaW w (w 10) (waW w ta 0 i) i (n + 1)) = fun i => RB w (fun i => gaW w (w 10) (waW w ta 0 i) i n) i + RB w (pyV w (w 10) (waW w ta 0) n) i := by
    funext i
    exact Int.add_mul _ _ _
  unfold shR
  rw [e]
  exact crm_add (RSQ_MM hb _).1 _ _ (by omega)
theorem shR_bd {w : Nat → Nat} (hb : WB w) {ta : Nat → Nat → Nat → Nat} {l : Nat} (hl : l ≤ w 0) : bd 3760128000000000 (shR w ta (w 8) l) := by
  have w8 := (wb_w hb).2.1
  have w0 := (wb_w hb).1
  exact crm_bd hb _ (X := 7344) (by decide) (fun i hi => bd_le (gaW_bd hb (hb.2.2.2.1.2.2.1) (by omega) (fun f => wbd_le) (w 8) (Nat.le_refl _)) (by omega)) (by omega)
def lsW (w : Nat → Nat) (ta : Nat → Nat → Nat → Nat) (l : Nat) : Int := lsV (UG w ta (-1) (FG w ta (-1)) l) (4 * DG w ta (-1) (FG w ta (-1))) (shR w ta (w 8) l) (4 * dtW w (w 10) (waW w ta 0))
