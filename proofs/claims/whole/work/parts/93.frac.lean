/-! Fractions without a common part. -/
theorem lz_nn (n : Nat) : lz (n : Int) = lN n := (lz_n n).symm
theorem lz_remN {a b : Nat} (ha : a < 9223372036854775808) (hb : b < 9223372036854775808) (h0 : 0 < b) : lz (a : Int) - lz (a : Int) / lz (b : Int) * lz (b : Int) = lz ((a % b : Nat) : Int) := by
  rw [lz_rem ⟨by omega, by omega⟩ ⟨by omega, by omega⟩ (by omega), Int.tmod_eq_emod_of_nonneg (by omega)]
  rfl
theorem half_mod {a b : Nat} (ha : 0 < a % b) (h0 : 0 < b) : b % (a % b) < (b + 1) / 2 := by
  have h1 : a % b < b := Nat.mod_lt _ h0
  have h2 : b % (a % b) < a % b := Nat.mod_lt _ ha
  by_cases h : a % b ≤ b / 2
  · omega
  · have : b % (a % b) = b - a % b := by
      rw [Nat.mod_eq_sub_mod (by omega), Nat.mod_eq_of_lt (by omega)]
    omega
/-- the upper or lower number without a common part -/
def frc (a b : Int) (lower : Bool) : Int := (cond lower b a).tdiv (Int.gcd a b)
section FR
variable {d : Nat} {M : Mm}
theorem c126 {a b : Nat} (ha : a < 9223372036854775808) (hb : b < 9223372036854775808) : SC (d + 1) 126 [.long (lz (a : Int)), .long (lz (b : Int))] M (fun vs N => vs = [.long (lz ((Nat.gcd a b : Nat) : Int))] ∧ N = M) := by
  refine sC (by decide) rfl (go_in (e126_0 ?_))
  have ends : ∀ (o0 o2 o8 o9 : Option Value) (x g : Nat), x = g → WM d 126 (fun vs N => vs = [.long (lz ((g : Nat) : Int))] ∧ N = M) 45 [o0, none, o2, none, some (.long (lz (x : Int))), none, some (.long (lz ((0 : Nat) : Int))), none, o8, o9, none] [] M := fun o0 o2 o8 o9 x g e => by
    subst e
    exact go_in (e126_45 ⟨rfl, rfl, rfl⟩)
  have one : ∀ (o0 o2 o9 : Option Value) (a b s g : Nat), a < 9223372036854775808 → b < 9223372036854775808 → s < 199 → g = Nat.gcd a b → (0 < b → WM d 126 (fun vs N => vs = [.long (lz ((g : Nat) : Int))] ∧ N = M) 9 [none, none, none, none, some (.long (lz (b : Int))), none, some (.long (lz ((a % b : Nat) : Int))), none, some (.int (nI (s + 1))), some (.long (lz ((a % b : Nat) : Int))), none] [] M) → WM d 126 (fun vs N => vs = [.long (lz ((g : Nat) : Int))] ∧ N = M) 9 [o0, none, o2, none, some (.long (lz (a : Int))), none, some (.long (lz (b : Int))), none, some (.int (nI s)), o9, none] [] M := by
    intro o0 o2 o9 a b s g ha hb hs hg hk
    by_cases h0 : b = 0
    · subst h0
      refine go_in (e126_9 (br_t (cmp_eq.mpr rfl) ?_))
      exact ends _ _ _ _ a g (by rw [hg, Nat.gcd_zero_right])
    · have hne : ¬ lz (b : Int) = lz 0 := fun e => by
        rw [lz_eq ⟨by omega, by omega⟩ i64_0] at e
        omega
      refine go_in (e126_9 (br_f (fun e => hne (cmp_eq.mp e)) (br_f (nI_ge (by omega) (by decide)) ⟨hne, ?_⟩)))
      rw [lz_remN ha hb (by omega), nI_s]
      exact hk (by omega)
  have loop : ∀ m (o0 o2 o9 : Option Value) (a b s g : Nat), a < 9223372036854775808 → b < 2 ^ m → m ≤ 63 → s + 2 * m ≤ 140 → g = Nat.gcd a b → WM d 126 (fun vs N => vs = [.long (lz ((g : Nat) : Int))] ∧ N = M) 9 [o0, none, o2, none, some (.long (lz (a : Int))), none, some (.long (lz (b : Int))), none, some (.int (nI s)), o9, none] [] M := by
    intro m
    induction m with
    | zero =>
      intro o0 o2 o9 a b s g ha hb hm hs hg
      exact one _ _ _ a b s g ha (by omega) (by omega) hg (fun h => by omega)
    | succ m ih =>
      intro o0 o2 o9 a b s g ha hb hm hs hg
      have hb63 : b < 9223372036854775808 := Nat.lt_of_lt_of_le hb (Nat.pow_le_pow_right (by decide) hm)
      refine one _ _ _ a b s g ha hb63 (by omega) hg fun h0 => ?_
      have h1 : a % b < b := Nat.mod_lt _ h0
      have hg2 : g = Nat.gcd b (a % b) := by rw [hg, Nat.gcd_comm a b, Nat.gcd_rec b a, Nat.gcd_comm]
      refine one _ _ _ b (a % b) (s + 1) g hb63 (by omega) (by omega) hg2 fun h2 => ?_
      have h3 := half_mod h2 h0
      have h4 : b % (a % b) < 2 ^ m := by rw [Nat.pow_succ] at hb; omega
      exact ih _ _ _ (a % b) (b % (a % b)) (s + 1 + 1) g (by omega) h4 (by omega) (by omega) (by rw [hg2, Nat.gcd_comm b (a % b), Nat.gcd_rec (a % b) b, Nat.gcd_comm])
  exact loop 63 _ _ _ a b 0 _ ha hb (by decide) (by decide) rfl
theorem max_abs (a : Int) : max a (-a) = (a.natAbs : Int) := by omega
theorem gcd_pos {a b : Int} (hb : 0 < b) : 0 < Int.gcd a b := Int.gcd_pos_of_ne_zero_right a (by omega)
theorem frc_bd {a b : Int} (hb : 0 < b) : (Int.gcd a b : Int) ≤ b := Int.le_of_dvd hb (Int.gcd_dvd_right a b)
theorem c125 {a b : Int} {g : Bool} (ha : bd 9223372036854775807 a) (hb : i64 b) (h0 : 0 < b) : SC (d + 2) 125 [.long (lz a), .long (lz b), .int (nI (cond g 1 0))] M (fun vs N => vs = [.long (lz (frc a b g))] ∧ N = M) := by
  have hg := gcd_pos (a := a) h0
  have hgb := frc_bd (a := a) h0
  refine sC (by decide) rfl (go_in (e125_0 (useC (upC (c229 (d := d) (a := a) ⟨by have := ha.1; omega, by have := ha.2; omega⟩) (by omega)) fun vs N h => ?_)))
  obtain ⟨rfl, rfl⟩ := h
  refine e125_4 ?_
  rw [max_abs, show lz b = lz ((b.toNat : Nat) : Int) by congr 1; omega]
  have e1 : Nat.gcd a.natAbs b.toNat = Int.gcd a b := by show _ = Nat.gcd a.natAbs b.natAbs; rw [show b.toNat = b.natAbs by omega]
  refine useC (c126 (a := a.natAbs) (b := b.toNat) (by have := ha.1; have := ha.2; omega) (by have := hb.2; omega)) fun vs N2 h => ?_
  obtain ⟨rfl, rfl⟩ := h
  rw [e1, show ((b.toNat : Nat) : Int) = b by omega]
  have hne : ¬ lz ((Int.gcd a b : Nat) : Int) = 0 := fun e => by
    rw [show (0 : Int64) = lz 0 from rfl, lz_eq ⟨by omega, by have := hb.2; omega⟩ i64_0] at e
    omega
  refine e125_8 ⟨fun _ => ?_, fun e => absurd (by rw [cmp_eq] at e; exact e) hne⟩
  have fin : ∀ (o0 o2 o4 : Option Value) (x : Int), i64 x → frc a b g = x.tdiv (Int.gcd a b) → WM (d + 1) 125 (fun vs N => vs = [.long (lz (frc a b g))] ∧ N = N2) 38 [o0, none, o2, none, o4, some (.long (lz ((Int.gcd a b : Nat) : Int))), none] [.long (lz x)] N2 := fun o0 o2 o4 x hx e => go_in (e125_38 ⟨hne, rfl, by rw [lz_div hx ⟨by omega, by have := hb.2; omega⟩ (by omega), e], rfl⟩)
  refine go_in (e125_28 ⟨fun e => ?_, fun e => ?_⟩)
  · have : g = false := by cases g <;> first | rfl | exact absurd e (by decide)
    subst this
    exact go_in (e125_37 (fin _ _ _ a ⟨by have := ha.1; omega, by have := ha.2; omega⟩ rfl))
  · have : g = true := by cases g <;> first | rfl | exact absurd rfl e
    subst this
    exact fin _ _ _ b hb rfl
theorem c181 {a b : Int} (ha : bd 9223372036854775807 a) (hb : i64 b) (h0 : 0 < b) : SC (d + 2) 181 [.long (lz a), .long (lz b)] M (fun vs N => vs = [.long (lz ((Int.gcd a b : Nat) : Int))] ∧ N = M) := by
  refine sC (by decide) rfl (go_in (e181_0 (useC (upC (c229 (d := d) (a := a) ⟨by have := ha.1; omega, by have := ha.2; omega⟩) (by omega)) fun vs N h => ?_)))
  obtain ⟨rfl, rfl⟩ := h
  refine e181_4 (useC (upC (c229 (d := d) hb) (by omega)) fun vs N2 h => ?_)
  obtain ⟨rfl, rfl⟩ := h
  refine e181_10 ?_
  have loop : ∀ m (o0 o2 o8 : Option Value) (x z : Nat), z ≤ m → x < 9223372036854775808 → z < 9223372036854775808 → Nat.gcd x z = Int.gcd a b → WM (d + 1) 181 (fun vs N => vs = [.long (lz ((Int.gcd a b : Nat) : Int))] ∧ N = N2) 12 [o0, none, o2, none, some (.long (lz (x : Int))), none, some (.long (lz (z : Int))), none, o8, none] [] N2 := by
    intro m
    induction m with
    | zero =>
      intro o0 o2 o8 x z hz hx hz2 hg
      have : z = 0 := by omega
      subst this
      rw [Nat.gcd_zero_right] at hg
      exact go_in (e181_12 (br_t (cmp_le.mpr (by rw [Int64.le_iff_toInt_le]; exact Int.le_refl _)) (go_in (e181_37 ⟨rfl, by rw [hg], rfl⟩))))
    | succ m ih =>
      intro o0 o2 o8 x z hz hx hz2 hg
      by_cases h0 : z = 0
      · subst h0
        rw [Nat.gcd_zero_right] at hg
        exact go_in (e181_12 (br_t (cmp_le.mpr (by rw [Int64.le_iff_toInt_le]; exact Int.le_refl _)) (go_in (e181_37 ⟨rfl, by rw [hg], rfl⟩))))
      · have hne : ¬ lz (z : Int) = 0 := fun e => by
          rw [show (0 : Int64) = lz 0 from rfl, lz_eq ⟨by omega, by omega⟩ i64_0] at e
          omega
        refine go_in (e181_12 (br_f (fun e => ?_) ⟨hne, ?_⟩))
        · rw [cmp_le, lz_0, lz_le ⟨by omega, by omega⟩ i64_0] at e
          omega
        · rw [lz_remN hx hz2 (by omega)]
          have h1 : x % z < z := Nat.mod_lt _ (by omega)
          exact ih _ _ _ z (x % z) (by omega) hz2 (by omega) (by rw [← hg, Nat.gcd_comm x z, Nat.gcd_rec z x, Nat.gcd_comm])
  rw [max_abs, max_abs]
  exact loop b.natAbs _ _ _ a.natAbs b.natAbs (Nat.le_refl _) (by have := ha.1; have := ha.2; omega) (by have := hb.2; omega) rfl
theorem c183 {a b : Int} (ha : bd 9223372036854775807 a) (hb : i64 b) (h0 : 0 < b) : SC (d + 3) 183 [.ref 768, .long (lz a), .long (lz b)] M (fun vs N => vs = [] ∧ N = sJ (sJ M 768 22 (lz (frc a b false))) 768 23 (lz (frc a b true))) := by
  have hg := gcd_pos (a := a) h0
  have hgb := frc_bd (a := a) h0
  refine sC (by decide) rfl (go_in (e183_0 (useC (c181 ha hb h0) fun vs N h => ?_)))
  obtain ⟨rfl, rfl⟩ := h
  have hne : ¬ lz ((Int.gcd a b : Nat) : Int) = 0 := fun e => by
    rw [show (0 : Int64) = lz 0 from rfl, lz_eq ⟨by omega, by have := hb.2; omega⟩ i64_0] at e
    omega
  refine e183_5 ?_
  rw [lz_div (a := a) ⟨by have := ha.1; omega, by have := ha.2; omega⟩ ⟨by omega, by have := hb.2; omega⟩ (by omega), lz_div hb ⟨by omega, by have := hb.2; omega⟩ (by omega)]
  exact ⟨hne, hne, rfl, rfl, rfl⟩
end FR
