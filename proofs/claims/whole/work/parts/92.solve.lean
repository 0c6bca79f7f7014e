/-! The class's chains: settled and solved. -/
def hbz (C : Nat → Int) (p d : Int) : Nat → Int
  | 0 => 0
  | k + 1 => hb C p d k
theorem hbz_s (C : Nat → Int) (p d : Int) : ∀ k, hbz C p d k * d + C k * p ^ k = hbz C p d (k + 1)
  | 0 => by simp [hbz, hb]
  | k + 1 => rfl
abbrev hbv (C : Nat → Int) (p d : Int) (n : Nat) : Int := hb C p d n
/-- settled for these -/
def SET (o : Nat) (y : Nat → Nat) (C : Nat → Int) (p q : Nat) (M : Mm) : Prop := M.2.1 o 10 = lz p ∧ M.2.1 o 11 = lz ((q : Int) * (y 6 : Int)) ∧ M.2.1 o 9 = lz (hb C p ((q : Int) * (y 6 : Int)) (y 0 + 1))
def SOL (o f : Nat) (y : Nat → Nat) (u : Nat → Int) (M : Mm) : Prop := ∀ l, l < y 0 + 1 → M.2.1 (1032 + 64 * o) (f * 8 + l) = lz (u l)
def wth (y lo : Nat → Nat) (C pay : Nat → Int) (p q : Nat) (l : Nat) : Int := hs (tT y lo C pay) p ((q : Int) * (y 6 : Int)) (y 0 + 1) l * ((q : Int) * (y 6 : Int))
def aFo (o k j : Nat) : Bool := aPumpBy k j || (Nat.ble (1024 + 64 * o) k && Nat.blt k (1024 + 64 * o + 64))
def aSof (o f k j : Nat) : Bool := Nat.beq k (1030 + 64 * o) || (Nat.beq k (1031 + 64 * o) || (Nat.beq k (1032 + 64 * o) && (Nat.ble (f * 8) j && Nat.blt j (f * 8 + 8))))
theorem in_row {f l : Nat} (h : l < 8) : (Nat.ble (f * 8) (f * 8 + l) && Nat.blt (f * 8 + l) (f * 8 + 8)) = true := by
  rw [show Nat.ble (f * 8) (f * 8 + l) = true from Nat.ble_eq.mpr (by omega), show Nat.blt (f * 8 + l) (f * 8 + 8) = true from Nat.blt_eq.mpr (by omega)]
  rfl
theorem off_row {f g l : Nat} (h : l < 8) (e : g ≠ f) : (Nat.ble (f * 8) (g * 8 + l) && Nat.blt (g * 8 + l) (f * 8 + 8)) = false := by
  cases h1 : (Nat.ble (f * 8) (g * 8 + l) && Nat.blt (g * 8 + l) (f * 8 + 8)) with
  | false => rfl
  | true =>
    have q := and2 h1
    have q1 := Nat.le_of_ble_eq_true q.1
    have q2 : g * 8 + l < f * 8 + 8 := Nat.blt_eq.mp q.2
    omega
section CJ0
variable {d : Nat} {M : Mm} {y lo : Nat → Nat} {k : Int}
theorem c3_0 (hy : YR y k M) (hb : YB y k) {C : Nat → Int} (hC : COE 0 y C M) {p q : Nat} (hp : p ≤ 5) (hq : q ≤ 5) : SC (d + 1) 3 [.ref 0, .int (nI p), .int (nI q)] M (fun vs N => vs = [] ∧ Fr (aSe 0) M N ∧ SET 0 y C p q N) := by
  have h0 := hb.1.2.1
  have h6 := hb.2.2.2.2.1
  refine sC (by decide) rfl (go_in (e3_0 ?_))
  have e6 : (sJ M 0 10 (nI p).toInt64).1 640 6 = nI (y 6) := hy.2.1.2.2
  rw [e6, iz_n p, iz_n q, iz_n (y 6), iz_l ⟨by omega, by omega⟩, iz_l ⟨by omega, by omega⟩, iz_l ⟨by omega, by omega⟩, lz_mul]
  obtain ⟨N0, hN0⟩ : ∃ N, N = sJ (sJ M 0 10 (lz p)) 0 11 (lz ((q : Int) * (y 6 : Int))) := ⟨_, rfl⟩
  rw [← hN0]
  have hF0 : Fr (aSe 0) M N0 := by rw [hN0]; exact (Fr.rf.sJ rfl).sJ rfl
  have g0 : N0.1 640 0 = nI (y 0) := by rw [hN0]; exact hy.1.1
  have g10 : N0.2.1 0 10 = lz p := by rw [hN0]; rfl
  have g11 : N0.2.1 0 11 = lz ((q : Int) * (y 6 : Int)) := by rw [hN0]; rfl
  have gC : ∀ m, m < y 0 + 2 → N0.2.1 1027 m = lz (C m) := fun m hm => by rw [(hF0 1027 m rfl).2.1]; exact hC m hm
  have loop : ∀ k' (o1 o2 : Option Value) m, m + k' = y 0 + 2 → WM d 3 (fun vs N => vs = [] ∧ Fr (aSe 0) M N ∧ SET 0 y C p q N) 29 [some (.ref 0), o1, o2, some (.long (lz (hbz C p ((q : Int) * (y 6 : Int)) m))), none, some (.long (lz ((p : Int) ^ m))), none, some (.int (nI m))] [] N0 := by
    intro k'
    induction k' with
    | zero =>
      intro o1 o2 m hm
      have hm : m = y 0 + 2 := by omega
      subst hm
      refine go_in (e3_29 (br_t (by rw [g0, nI_add]; exact nI_lt (by omega) (by omega)) (go_in (e3_76 ⟨rfl, rfl, hF0.sJ rfl, ?_, ?_, ?_⟩))))
      · rw [sJ_v, if_neg (by omega)]; exact g10
      · rw [sJ_v, if_neg (by omega)]; exact g11
      · rw [sJ_v, if_pos ⟨rfl, rfl⟩]; rfl
    | succ k' ih =>
      intro o1 o2 m hm
      refine go_in (e3_29 (br_f (by rw [g0, nI_add]; exact nI_nlt (by omega) (by omega)) ?_))
      rw [g10, g11, nI_c (by omega), gC m (by omega), nI_s, lz_mul, lz_mul, lz_mul, lz_add, hbz_s, ← Int.pow_succ]
      exact ⟨nI_in2 (by omega) (by decide), ih _ _ (m + 1) (by omega)⟩
  exact loop (y 0 + 2) _ _ 0 (by omega)
set_option maxHeartbeats 2000000 in
theorem c4_0 (hy : YR y k M) (hb : YB y k) (hlo : LOC 0 y lo M) (hlo7 : ∀ l, lo l ≤ 7) {C : Nat → Int} (hC : COE 0 y C M) {p q : Nat} (hS : SET 0 y C p q M) {f : Nat} (hf : f < 3) {pay : Nat → Int} (hpay : PAY 0 f y pay M) (hpb : ∀ l, l < y 0 + 1 → i32 (pay l)) : SC (d + 4) 4 [.ref 0, .int (nI f)] M (fun vs N => vs = [] ∧ Fr (aSof 0 f) M N ∧ SOL 0 f y (wth y lo C pay p q) N) := by
  have h0 := hb.1.2.1
  obtain ⟨s10, s11, -⟩ := hS
  have ok : ∀ N, Fr (aSof 0 f) M N → YR y k N ∧ (∀ l, l < y 0 + 1 → N.1 1025 l = nI (lo l)) ∧ (∀ m, m < y 0 + 2 → N.2.1 1027 m = lz (C m)) ∧ (∀ l, l < y 0 + 1 → N.1 1026 (f * 8 + l) = iz (pay l)) ∧ N.2.1 0 10 = lz p ∧ N.2.1 0 11 = lz ((q : Int) * (y 6 : Int)) := fun N hF =>
    ⟨hy.of hF (fun j _ => rfl) (fun j => rfl), fun l hl => by rw [(hF 1025 l rfl).1]; exact hlo l hl, fun m hm => by rw [(hF 1027 m rfl).2.1]; exact hC m hm, fun l hl => by rw [(hF 1026 _ rfl).1]; exact hpay l hl, by rw [(hF 0 10 rfl).2.1]; exact s10, by rw [(hF 0 11 rfl).2.1]; exact s11⟩
  have ina : ∀ l, l < 8 → aSof 0 f 1032 (f * 8 + l) = true := fun l hl => by
    show (false || (false || (true && (Nat.ble (f * 8) (f * 8 + l) && Nat.blt (f * 8 + l) (f * 8 + 8))))) = true
    rw [in_row hl]; rfl
  refine sC (by decide) rfl (go_in (e4_0 ?_))
  rw [hy.1.1, nI_add, nI_mul]
  -- last: times d
  have P3 : ∀ k' (o4 o5 o7 : Option Value) l N, l + k' = y 0 + 1 → Fr (aSof 0 f) M N → (∀ i, i < y 0 + 1 → N.2.1 1032 (f * 8 + i) = lz (hs (tT y lo C pay) p ((q : Int) * (y 6 : Int)) (y 0 + 1) i * (if i < l then ((q : Int) * (y 6 : Int)) else 1))) →
      WM (d + 3) 4 (fun vs N => vs = [] ∧ Fr (aSof 0 f) M N ∧ SOL 0 f y (wth y lo C pay p q) N) 196 [some (.ref 0), none, some (.int (nI (y 0 + 1))), some (.int (nI (f * 8))), o4, o5, some (.int (nI l)), o7] [] N := by
    intro k'
    induction k' with
    | zero =>
      intro o4 o5 o7 l N hl hF hd
      refine go_in (e4_196 (br_t (nI_le (by omega) (by omega)) (go_in (e4_224 ⟨rfl, rfl, hF, fun i hi => ?_⟩))))
      rw [show 1032 + 64 * 0 = 1032 from rfl, hd i hi, if_pos (by omega)]
      rfl
    | succ k' ih =>
      intro o4 o5 o7 l N hl hF hd
      obtain ⟨-, -, -, -, -, g11⟩ := ok N hF
      refine go_in (e4_196 (br_f (nI_ge (by omega) (by omega)) ?_))
      rw [nI_add, nI_s, nI_c (by omega), hd l (by omega), if_neg (by omega), Int.mul_one, g11, lz_mul]
      refine ⟨nI_in2 (by omega) (by decide), nI_in2 (by omega) (by decide), ih _ _ _ (l + 1) _ (by omega) (hF.sJ (ina l (by omega))) fun i hi => ?_⟩
      rw [sJ_v]
      by_cases e : i = l
      · subst e; rw [if_pos ⟨rfl, rfl⟩, if_pos (by omega)]
      · rw [if_neg (by omega), hd i hi]
        by_cases e2 : i < l
        · rw [if_pos e2, if_pos (by omega)]
        · rw [if_neg e2, if_neg (by omega)]
  have P2 : ∀ k' (o7 : Option Value) m N, m + k' = y 0 + 1 → Fr (aSof 0 f) M N → (∀ i, i < y 0 + 1 → N.2.1 1030 i = lz (tT y lo C pay m i)) → (∀ i, i < y 0 + 1 → N.2.1 1032 (f * 8 + i) = lz (hs (tT y lo C pay) p ((q : Int) * (y 6 : Int)) m i)) →
      WM (d + 3) 4 (fun vs N => vs = [] ∧ Fr (aSof 0 f) M N ∧ SOL 0 f y (wth y lo C pay p q) N) 63 [some (.ref 0), none, some (.int (nI (y 0 + 1))), some (.int (nI (f * 8))), some (.long (lz ((p : Int) ^ m))), none, some (.int (nI (m + 1))), o7] [] N := by
    intro k'
    induction k' with
    | zero =>
      intro o7 m N hm hF hT hA
      have hm : m = y 0 + 1 := by omega
      subst hm
      refine go_in (e4_63 (br_t (nI_lt (by omega) (by omega)) (go_in (e4_193 ?_))))
      exact P3 (y 0 + 1) _ _ _ 0 N (by omega) hF (fun i hi => by rw [hA i hi, if_neg (by omega), Int.mul_one])
    | succ k' ih =>
      intro o7 m N hm hF hT hA
      refine go_in (e4_63 (br_f (nI_nlt (by omega) (by omega)) ?_))
      have L : ∀ k2 l N2, l + k2 = y 0 + 1 → Fr (aSof 0 f) M N2 → (∀ i, i < y 0 + 1 → N2.2.1 1030 i = lz (tT y lo C pay m i)) → (∀ i, i < y 0 + 1 → N2.2.1 1032 (f * 8 + i) = lz (hs (tT y lo C pay) p ((q : Int) * (y 6 : Int)) (if i < l then m + 1 else m) i)) → (∀ i, i < l → N2.2.1 1031 i = lz (tT y lo C pay (m + 1) i)) →
          WM (d + 3) 4 (fun vs N => vs = [] ∧ Fr (aSof 0 f) M N ∧ SOL 0 f y (wth y lo C pay p q) N) 72 [some (.ref 0), none, some (.int (nI (y 0 + 1))), some (.int (nI (f * 8))), some (.long (lz ((p : Int) ^ m))), none, some (.int (nI (m + 1))), some (.int (nI l))] [] N2 := by
        intro k2
        induction k2 with
        | zero =>
          intro l N2 hl hF2 hT2 hA2 hV2
          have hl : l = y 0 + 1 := by omega
          subst hl
          refine go_in (e4_72 (br_t (nI_le (Nat.le_refl _) (by omega)) (go_in (e4_163 ⟨⟨by decide, by decide, by decide, by decide, by decide⟩, ?_⟩))))
          rw [nI_c (a := 0) (by decide), nI_c (a := 8) (by decide)]
          have hF3 : Fr (aSof 0 f) M (cpJ N2 1031 1030 0 0 8) := hF2.cpJ (fun b _ _ => rfl)
          obtain ⟨-, -, -, -, g10, -⟩ := ok _ hF3
          rw [g10, nI_s, lz_mul, ← Int.pow_succ]
          refine ih _ (m + 1) _ (by omega) hF3 (fun i hi => ?_) fun i hi => ?_
          · rw [cpJ_v, if_pos (by omega), Nat.zero_add, Nat.sub_zero]
            exact hV2 i hi
          · rw [cpJ_v, if_neg (by omega), hA2 i hi, if_pos hi]
        | succ k2 ih2 =>
          intro l N2 hl hF2 hT2 hA2 hV2
          obtain ⟨hy2, gl, -, -, -, g11⟩ := ok N2 hF2
          have hl7 := hlo7 l
          refine go_in (e4_72 (br_f (nI_ge (by omega) (by omega)) ?_))
          have ea : (lz (hs (tT y lo C pay) p ((q : Int) * (y 6 : Int)) m l) * lz ((q : Int) * (y 6 : Int))) + (lz ((p : Int) ^ m) * lz (tT y lo C pay m l)) = lz (hs (tT y lo C pay) p ((q : Int) * (y 6 : Int)) (m + 1) l) := by
            rw [lz_mul, lz_mul, lz_add]; rfl
          rw [nI_add, nI_c (a := f * 8 + l) (by omega), nI_c (a := l) (by omega), hA2 l (by omega), if_neg (by omega), hT2 l (by omega), g11, ea]
          obtain ⟨N3, hN3⟩ : ∃ N3, N3 = sJ N2 1032 (f * 8 + l) (lz (hs (tT y lo C pay) p ((q : Int) * (y 6 : Int)) (m + 1) l)) := ⟨_, rfl⟩
          rw [← hN3]
          have hF3 : Fr (aSof 0 f) M N3 := by rw [hN3]; exact hF2.sJ (ina l (by omega))
          have hA3 : ∀ i, i < y 0 + 1 → N3.2.1 1032 (f * 8 + i) = lz (hs (tT y lo C pay) p ((q : Int) * (y 6 : Int)) (if i < l + 1 then m + 1 else m) i) := fun i hi => by
            rw [hN3, sJ_v]
            by_cases e : i = l
            · subst e; rw [if_pos ⟨rfl, rfl⟩, if_pos (by omega)]
            · rw [if_neg (by omega), hA2 i hi]
              by_cases e2 : i < l
              · rw [if_pos e2, if_pos (by omega)]
              · rw [if_neg e2, if_neg (by omega)]
          have hT3 : ∀ i, i < y 0 + 1 → N3.2.1 1030 i = lz (tT y lo C pay m i) := fun i hi => by rw [hN3, sJ_v, if_neg (by omega)]; exact hT2 i hi
          have hV3 : ∀ i, i < l → N3.2.1 1031 i = lz (tT y lo C pay (m + 1) i) := fun i hi => by rw [hN3, sJ_v, if_neg (by omega)]; exact hV2 i hi
          obtain ⟨hy3, gl3, gC3, gp3, -, -⟩ := ok N3 hF3
          rw [gl3 l (by omega)]
          refine ⟨nI_in2 (by omega) (by decide), nI_in2 (by omega) (by decide), nI_in2 (by omega) (by decide), nI_in2 (by omega) (by decide), useC (c74 (off := 0) (R := tT y lo C pay m) hy3 hb (by decide +kernel) (by decide +kernel) (by rw [show len 1030 = 8 by decide +kernel]; omega) (by decide +kernel) (fun j hj => by rw [Nat.zero_add]; exact hT3 j (by omega)) hl7) fun vs N4 h => ?_⟩
          obtain ⟨rfl, rfl⟩ := h
          refine e4_137 ?_
          rw [nI_add, nI_c (a := m + 1) (by omega), nI_c (a := f * 8 + l) (by omega), nI_c (a := l) (by omega), gC3 (m + 1) (by omega), gp3 l (by omega), iz_l (hpb l (by omega)), lz_mul, lz_add, nI_s]
          refine ⟨nI_in2 (by omega) (by decide), nI_in2 (by omega) (by decide), nI_in2 (by omega) (by decide), ih2 (l + 1) _ (by omega) (hF3.sJ rfl) (fun i hi => ?_) (fun i hi => ?_) fun i hi => ?_⟩
          · rw [sJ_v, if_neg (by omega)]; exact hT3 i hi
          · rw [sJ_v, if_neg (by omega)]; exact hA3 i hi
          · rw [sJ_v]
            by_cases e : i = l
            · subst e; rw [if_pos ⟨rfl, rfl⟩]; rfl
            · rw [if_neg (by omega)]; exact hV3 i (by omega)
      exact L (y 0 + 1) 0 N (by omega) hF hT (fun i hi => by rw [hA i hi, if_neg (by omega)]) (fun i h => absurd h (Nat.not_lt_zero _))
  have P1 : ∀ k' (o1 o5 o6 o7 : Option Value) l N, l + k' = y 0 + 1 → Fr (aSof 0 f) M N → (∀ i, i < l → N.2.1 1030 i = lz (pay i) ∧ N.2.1 1032 (f * 8 + i) = lz 0) →
      WM (d + 3) 4 (fun vs N => vs = [] ∧ Fr (aSof 0 f) M N ∧ SOL 0 f y (wth y lo C pay p q) N) 18 [some (.ref 0), o1, some (.int (nI (y 0 + 1))), some (.int (nI (f * 8))), some (.int (nI l)), o5, o6, o7] [] N := by
    intro k'
    induction k' with
    | zero =>
      intro o1 o5 o6 o7 l N hl hF hd
      refine go_in (e4_18 (br_t (nI_le (by omega) (by omega)) (go_in (e4_57 ?_))))
      exact P2 (y 0 + 1) _ 0 N (by omega) hF (fun i hi => (hd i (by omega)).1) (fun i hi => (hd i (by omega)).2)
    | succ k' ih =>
      intro o1 o5 o6 o7 l N hl hF hd
      obtain ⟨-, -, -, gp, -, -⟩ := ok N hF
      refine go_in (e4_18 (br_f (nI_ge (by omega) (by omega)) ?_))
      rw [nI_add, nI_s, nI_c (by omega), nI_c (by omega), gp l (by omega), iz_l (hpb l (by omega))]
      refine ⟨nI_in2 (by omega) (by decide), nI_in2 (by omega) (by decide), nI_in2 (by omega) (by decide), ih _ _ _ _ (l + 1) _ (by omega) ((hF.sJ rfl).sJ (ina l (by omega))) fun i hi => ?_⟩
      by_cases e : i = l
      · subst e
        exact ⟨by rw [sJ_v, if_neg (by omega), sJ_v, if_pos ⟨rfl, rfl⟩], by rw [sJ_v, if_pos ⟨rfl, rfl⟩]; rfl⟩
      · obtain ⟨h1, h2⟩ := hd i (by omega)
        exact ⟨by rw [sJ_v, if_neg (by omega), sJ_v, if_neg (by omega)]; exact h1, by rw [sJ_v, if_neg (by omega), sJ_v, if_neg (by omega)]; exact h2⟩
  exact P1 (y 0 + 1) _ _ _ _ 0 M (by omega) Fr.rf (fun i h => absurd h (Nat.not_lt_zero _))
theorem c5_0 (hy : YR y k M) (hb : YB y k) {C : Nat → Int} {p q : Nat} (hS : SET 0 y C p q M) {f : Nat} (hf : f < 3) {u : Nat → Int} (hu : SOL 0 f y u M) {a : Int} (ha : i32 a) {low : Nat} (hl : low ≤ 7) : SC (d + 4) 5 [.ref 0, .int (nI f), .int (iz a), .int (nI low)] M (fun vs N => vs = [.long (lz (a * hbv C p ((q : Int) * (y 6 : Int)) (y 0 + 1) * ((q : Int) * (y 6 : Int)) + (p : Int) * aws y u low 4))] ∧ N = M) := by
  have h0 := hb.1.2.1
  obtain ⟨s10, s11, s9⟩ := hS
  refine sC (by decide) rfl (go_in (e5_0 ?_))
  rw [nI_mul, s10, s11, s9, iz_l ha, lz_mul, lz_mul]
  refine useC (c74 (off := f * 8) (R := u) hy hb (by decide +kernel) (by decide +kernel) (by rw [show len 1032 = 24 by decide +kernel]; omega) (by decide +kernel) (fun j hj => hu j (by omega)) hl) fun vs N h => ?_
  obtain ⟨rfl, rfl⟩ := h
  exact e5_32 ⟨rfl, by rw [lz_mul, lz_add], rfl⟩
end CJ0
section CJ1
variable {d : Nat} {M : Mm} {y lo : Nat → Nat} {k : Int}
theorem c3_1 (hy : YR y k M) (hb : YB y k) {C : Nat → Int} (hC : COE 1 y C M) {p q : Nat} (hp : p ≤ 5) (hq : q ≤ 5) : SC (d + 1) 3 [.ref 1, .int (nI p), .int (nI q)] M (fun vs N => vs = [] ∧ Fr (aSe 1) M N ∧ SET 1 y C p q N) := by
  have h0 := hb.1.2.1
  have h6 := hb.2.2.2.2.1
  refine sC (by decide) rfl (go_in (e3_0_1 ?_))
  have e6 : (sJ M 1 10 (nI p).toInt64).1 640 6 = nI (y 6) := hy.2.1.2.2
  rw [e6, iz_n p, iz_n q, iz_n (y 6), iz_l ⟨by omega, by omega⟩, iz_l ⟨by omega, by omega⟩, iz_l ⟨by omega, by omega⟩, lz_mul]
  obtain ⟨N0, hN0⟩ : ∃ N, N = sJ (sJ M 1 10 (lz p)) 1 11 (lz ((q : Int) * (y 6 : Int))) := ⟨_, rfl⟩
  rw [← hN0]
  have hF0 : Fr (aSe 1) M N0 := by rw [hN0]; exact (Fr.rf.sJ rfl).sJ rfl
  have g0 : N0.1 640 0 = nI (y 0) := by rw [hN0]; exact hy.1.1
  have g10 : N0.2.1 1 10 = lz p := by rw [hN0]; rfl
  have g11 : N0.2.1 1 11 = lz ((q : Int) * (y 6 : Int)) := by rw [hN0]; rfl
  have gC : ∀ m, m < y 0 + 2 → N0.2.1 1091 m = lz (C m) := fun m hm => by rw [(hF0 1091 m rfl).2.1]; exact hC m hm
  have loop : ∀ k' (o1 o2 : Option Value) m, m + k' = y 0 + 2 → WM d 3 (fun vs N => vs = [] ∧ Fr (aSe 1) M N ∧ SET 1 y C p q N) 29 [some (.ref 1), o1, o2, some (.long (lz (hbz C p ((q : Int) * (y 6 : Int)) m))), none, some (.long (lz ((p : Int) ^ m))), none, some (.int (nI m))] [] N0 := by
    intro k'
    induction k' with
    | zero =>
      intro o1 o2 m hm
      have hm : m = y 0 + 2 := by omega
      subst hm
      refine go_in (e3_29_1 (br_t (by rw [g0, nI_add]; exact nI_lt (by omega) (by omega)) (go_in (e3_76_1 ⟨rfl, rfl, hF0.sJ rfl, ?_, ?_, ?_⟩))))
      · rw [sJ_v, if_neg (by omega)]; exact g10
      · rw [sJ_v, if_neg (by omega)]; exact g11
      · rw [sJ_v, if_pos ⟨rfl, rfl⟩]; rfl
    | succ k' ih =>
      intro o1 o2 m hm
      refine go_in (e3_29_1 (br_f (by rw [g0, nI_add]; exact nI_nlt (by omega) (by omega)) ?_))
      rw [g10, g11, nI_c (by omega), gC m (by omega), nI_s, lz_mul, lz_mul, lz_mul, lz_add, hbz_s, ← Int.pow_succ]
      exact ⟨nI_in2 (by omega) (by decide), ih _ _ (m + 1) (by omega)⟩
  exact loop (y 0 + 2) _ _ 0 (by omega)
set_option maxHeartbeats 2000000 in
theorem c4_1 (hy : YR y k M) (hb : YB y k) (hlo : LOC 1 y lo M) (hlo7 : ∀ l, lo l ≤ 7) {C : Nat → Int} (hC : COE 1 y C M) {p q : Nat} (hS : SET 1 y C p q M) {f : Nat} (hf : f < 3) {pay : Nat → Int} (hpay : PAY 1 f y pay M) (hpb : ∀ l, l < y 0 + 1 → i32 (pay l)) : SC (d + 4) 4 [.ref 1, .int (nI f)] M (fun vs N => vs = [] ∧ Fr (aSof 1 f) M N ∧ SOL 1 f y (wth y lo C pay p q) N) := by
  have h0 := hb.1.2.1
  obtain ⟨s10, s11, -⟩ := hS
  have ok : ∀ N, Fr (aSof 1 f) M N → YR y k N ∧ (∀ l, l < y 0 + 1 → N.1 1089 l = nI (lo l)) ∧ (∀ m, m < y 0 + 2 → N.2.1 1091 m = lz (C m)) ∧ (∀ l, l < y 0 + 1 → N.1 1090 (f * 8 + l) = iz (pay l)) ∧ N.2.1 1 10 = lz p ∧ N.2.1 1 11 = lz ((q : Int) * (y 6 : Int)) := fun N hF =>
    ⟨hy.of hF (fun j _ => rfl) (fun j => rfl), fun l hl => by rw [(hF 1089 l rfl).1]; exact hlo l hl, fun m hm => by rw [(hF 1091 m rfl).2.1]; exact hC m hm, fun l hl => by rw [(hF 1090 _ rfl).1]; exact hpay l hl, by rw [(hF 1 10 rfl).2.1]; exact s10, by rw [(hF 1 11 rfl).2.1]; exact s11⟩
  have ina : ∀ l, l < 8 → aSof 1 f 1096 (f * 8 + l) = true := fun l hl => by
    show (false || (false || (true && (Nat.ble (f * 8) (f * 8 + l) && Nat.blt (f * 8 + l) (f * 8 + 8))))) = true
    rw [in_row hl]; rfl
  refine sC (by decide) rfl (go_in (e4_0_1 ?_))
  rw [hy.1.1, nI_add, nI_mul]
  -- last: times d
  have P3 : ∀ k' (o4 o5 o7 : Option Value) l N, l + k' = y 0 + 1 → Fr (aSof 1 f) M N → (∀ i, i < y 0 + 1 → N.2.1 1096 (f * 8 + i) = lz (hs (tT y lo C pay) p ((q : Int) * (y 6 : Int)) (y 0 + 1) i * (if i < l then ((q : Int) * (y 6 : Int)) else 1))) →
      WM (d + 3) 4 (fun vs N => vs = [] ∧ Fr (aSof 1 f) M N ∧ SOL 1 f y (wth y lo C pay p q) N) 196 [some (.ref 1), none, some (.int (nI (y 0 + 1))), some (.int (nI (f * 8))), o4, o5, some (.int (nI l)), o7] [] N := by
    intro k'
    induction k' with
    | zero =>
      intro o4 o5 o7 l N hl hF hd
      refine go_in (e4_196_1 (br_t (nI_le (by omega) (by omega)) (go_in (e4_224 ⟨rfl, rfl, hF, fun i hi => ?_⟩))))
      rw [show 1032 + 64 * 1 = 1096 from rfl, hd i hi, if_pos (by omega)]
      rfl
    | succ k' ih =>
      intro o4 o5 o7 l N hl hF hd
      obtain ⟨-, -, -, -, -, g11⟩ := ok N hF
      refine go_in (e4_196_1 (br_f (nI_ge (by omega) (by omega)) ?_))
      rw [nI_add, nI_s, nI_c (by omega), hd l (by omega), if_neg (by omega), Int.mul_one, g11, lz_mul]
      refine ⟨nI_in2 (by omega) (by decide), nI_in2 (by omega) (by decide), ih _ _ _ (l + 1) _ (by omega) (hF.sJ (ina l (by omega))) fun i hi => ?_⟩
      rw [sJ_v]
      by_cases e : i = l
      · subst e; rw [if_pos ⟨rfl, rfl⟩, if_pos (by omega)]
      · rw [if_neg (by omega), hd i hi]
        by_cases e2 : i < l
        · rw [if_pos e2, if_pos (by omega)]
        · rw [if_neg e2, if_neg (by omega)]
  have P2 : ∀ k' (o7 : Option Value) m N, m + k' = y 0 + 1 → Fr (aSof 1 f) M N → (∀ i, i < y 0 + 1 → N.2.1 1094 i = lz (tT y lo C pay m i)) → (∀ i, i < y 0 + 1 → N.2.1 1096 (f * 8 + i) = lz (hs (tT y lo C pay) p ((q : Int) * (y 6 : Int)) m i)) →
      WM (d + 3) 4 (fun vs N => vs = [] ∧ Fr (aSof 1 f) M N ∧ SOL 1 f y (wth y lo C pay p q) N) 63 [some (.ref 1), none, some (.int (nI (y 0 + 1))), some (.int (nI (f * 8))), some (.long (lz ((p : Int) ^ m))), none, some (.int (nI (m + 1))), o7] [] N := by
    intro k'
    induction k' with
    | zero =>
      intro o7 m N hm hF hT hA
      have hm : m = y 0 + 1 := by omega
      subst hm
      refine go_in (e4_63_1 (br_t (nI_lt (by omega) (by omega)) (go_in (e4_193_1 ?_))))
      exact P3 (y 0 + 1) _ _ _ 0 N (by omega) hF (fun i hi => by rw [hA i hi, if_neg (by omega), Int.mul_one])
    | succ k' ih =>
      intro o7 m N hm hF hT hA
      refine go_in (e4_63_1 (br_f (nI_nlt (by omega) (by omega)) ?_))
      have L : ∀ k2 l N2, l + k2 = y 0 + 1 → Fr (aSof 1 f) M N2 → (∀ i, i < y 0 + 1 → N2.2.1 1094 i = lz (tT y lo C pay m i)) → (∀ i, i < y 0 + 1 → N2.2.1 1096 (f * 8 + i) = lz (hs (tT y lo C pay) p ((q : Int) * (y 6 : Int)) (if i < l then m + 1 else m) i)) → (∀ i, i < l → N2.2.1 1095 i = lz (tT y lo C pay (m + 1) i)) →
          WM (d + 3) 4 (fun vs N => vs = [] ∧ Fr (aSof 1 f) M N ∧ SOL 1 f y (wth y lo C pay p q) N) 72 [some (.ref 1), none, some (.int (nI (y 0 + 1))), some (.int (nI (f * 8))), some (.long (lz ((p : Int) ^ m))), none, some (.int (nI (m + 1))), some (.int (nI l))] [] N2 := by
        intro k2
        induction k2 with
        | zero =>
          intro l N2 hl hF2 hT2 hA2 hV2
          have hl : l = y 0 + 1 := by omega
          subst hl
          refine go_in (e4_72_1 (br_t (nI_le (Nat.le_refl _) (by omega)) (go_in (e4_163_1 ⟨⟨by decide, by decide, by decide, by decide, by decide⟩, ?_⟩))))
          rw [nI_c (a := 0) (by decide), nI_c (a := 8) (by decide)]
          have hF3 : Fr (aSof 1 f) M (cpJ N2 1095 1094 0 0 8) := hF2.cpJ (fun b _ _ => rfl)
          obtain ⟨-, -, -, -, g10, -⟩ := ok _ hF3
          rw [g10, nI_s, lz_mul, ← Int.pow_succ]
          refine ih _ (m + 1) _ (by omega) hF3 (fun i hi => ?_) fun i hi => ?_
          · rw [cpJ_v, if_pos (by omega), Nat.zero_add, Nat.sub_zero]
            exact hV2 i hi
          · rw [cpJ_v, if_neg (by omega), hA2 i hi, if_pos hi]
        | succ k2 ih2 =>
          intro l N2 hl hF2 hT2 hA2 hV2
          obtain ⟨hy2, gl, -, -, -, g11⟩ := ok N2 hF2
          have hl7 := hlo7 l
          refine go_in (e4_72_1 (br_f (nI_ge (by omega) (by omega)) ?_))
          have ea : (lz (hs (tT y lo C pay) p ((q : Int) * (y 6 : Int)) m l) * lz ((q : Int) * (y 6 : Int))) + (lz ((p : Int) ^ m) * lz (tT y lo C pay m l)) = lz (hs (tT y lo C pay) p ((q : Int) * (y 6 : Int)) (m + 1) l) := by
            rw [lz_mul, lz_mul, lz_add]; rfl
          rw [nI_add, nI_c (a := f * 8 + l) (by omega), nI_c (a := l) (by omega), hA2 l (by omega), if_neg (by omega), hT2 l (by omega), g11, ea]
          obtain ⟨N3, hN3⟩ : ∃ N3, N3 = sJ N2 1096 (f * 8 + l) (lz (hs (tT y lo C pay) p ((q : Int) * (y 6 : Int)) (m + 1) l)) := ⟨_, rfl⟩
          rw [← hN3]
          have hF3 : Fr (aSof 1 f) M N3 := by rw [hN3]; exact hF2.sJ (ina l (by omega))
          have hA3 : ∀ i, i < y 0 + 1 → N3.2.1 1096 (f * 8 + i) = lz (hs (tT y lo C pay) p ((q : Int) * (y 6 : Int)) (if i < l + 1 then m + 1 else m) i) := fun i hi => by
            rw [hN3, sJ_v]
            by_cases e : i = l
            · subst e; rw [if_pos ⟨rfl, rfl⟩, if_pos (by omega)]
            · rw [if_neg (by omega), hA2 i hi]
              by_cases e2 : i < l
              · rw [if_pos e2, if_pos (by omega)]
              · rw [if_neg e2, if_neg (by omega)]
          have hT3 : ∀ i, i < y 0 + 1 → N3.2.1 1094 i = lz (tT y lo C pay m i) := fun i hi => by rw [hN3, sJ_v, if_neg (by omega)]; exact hT2 i hi
          have hV3 : ∀ i, i < l → N3.2.1 1095 i = lz (tT y lo C pay (m + 1) i) := fun i hi => by rw [hN3, sJ_v, if_neg (by omega)]; exact hV2 i hi
          obtain ⟨hy3, gl3, gC3, gp3, -, -⟩ := ok N3 hF3
          rw [gl3 l (by omega)]
          refine ⟨nI_in2 (by omega) (by decide), nI_in2 (by omega) (by decide), nI_in2 (by omega) (by decide), nI_in2 (by omega) (by decide), useC (c74 (off := 0) (R := tT y lo C pay m) hy3 hb (by decide +kernel) (by decide +kernel) (by rw [show len 1094 = 8 by decide +kernel]; omega) (by decide +kernel) (fun j hj => by rw [Nat.zero_add]; exact hT3 j (by omega)) hl7) fun vs N4 h => ?_⟩
          obtain ⟨rfl, rfl⟩ := h
          refine e4_137_1 ?_
          rw [nI_add, nI_c (a := m + 1) (by omega), nI_c (a := f * 8 + l) (by omega), nI_c (a := l) (by omega), gC3 (m + 1) (by omega), gp3 l (by omega), iz_l (hpb l (by omega)), lz_mul, lz_add, nI_s]
          refine ⟨nI_in2 (by omega) (by decide), nI_in2 (by omega) (by decide), nI_in2 (by omega) (by decide), ih2 (l + 1) _ (by omega) (hF3.sJ rfl) (fun i hi => ?_) (fun i hi => ?_) fun i hi => ?_⟩
          · rw [sJ_v, if_neg (by omega)]; exact hT3 i hi
          · rw [sJ_v, if_neg (by omega)]; exact hA3 i hi
          · rw [sJ_v]
            by_cases e : i = l
            · subst e; rw [if_pos ⟨rfl, rfl⟩]; rfl
            · rw [if_neg (by omega)]; exact hV3 i (by omega)
      exact L (y 0 + 1) 0 N (by omega) hF hT (fun i hi => by rw [hA i hi, if_neg (by omega)]) (fun i h => absurd h (Nat.not_lt_zero _))
  have P1 : ∀ k' (o1 o5 o6 o7 : Option Value) l N, l + k' = y 0 + 1 → Fr (aSof 1 f) M N → (∀ i, i < l → N.2.1 1094 i = lz (pay i) ∧ N.2.1 1096 (f * 8 + i) = lz 0) →
      WM (d + 3) 4 (fun vs N => vs = [] ∧ Fr (aSof 1 f) M N ∧ SOL 1 f y (wth y lo C pay p q) N) 18 [some (.ref 1), o1, some (.int (nI (y 0 + 1))), some (.int (nI (f * 8))), some (.int (nI l)), o5, o6, o7] [] N := by
    intro k'
    induction k' with
    | zero =>
      intro o1 o5 o6 o7 l N hl hF hd
      refine go_in (e4_18_1 (br_t (nI_le (by omega) (by omega)) (go_in (e4_57_1 ?_))))
      exact P2 (y 0 + 1) _ 0 N (by omega) hF (fun i hi => (hd i (by omega)).1) (fun i hi => (hd i (by omega)).2)
    | succ k' ih =>
      intro o1 o5 o6 o7 l N hl hF hd
      obtain ⟨-, -, -, gp, -, -⟩ := ok N hF
      refine go_in (e4_18_1 (br_f (nI_ge (by omega) (by omega)) ?_))
      rw [nI_add, nI_s, nI_c (by omega), nI_c (by omega), gp l (by omega), iz_l (hpb l (by omega))]
      refine ⟨nI_in2 (by omega) (by decide), nI_in2 (by omega) (by decide), nI_in2 (by omega) (by decide), ih _ _ _ _ (l + 1) _ (by omega) ((hF.sJ rfl).sJ (ina l (by omega))) fun i hi => ?_⟩
      by_cases e : i = l
      · subst e
        exact ⟨by rw [sJ_v, if_neg (by omega), sJ_v, if_pos ⟨rfl, rfl⟩], by rw [sJ_v, if_pos ⟨rfl, rfl⟩]; rfl⟩
      · obtain ⟨h1, h2⟩ := hd i (by omega)
        exact ⟨by rw [sJ_v, if_neg (by omega), sJ_v, if_neg (by omega)]; exact h1, by rw [sJ_v, if_neg (by omega), sJ_v, if_neg (by omega)]; exact h2⟩
  exact P1 (y 0 + 1) _ _ _ _ 0 M (by omega) Fr.rf (fun i h => absurd h (Nat.not_lt_zero _))
theorem c5_1 (hy : YR y k M) (hb : YB y k) {C : Nat → Int} {p q : Nat} (hS : SET 1 y C p q M) {f : Nat} (hf : f < 3) {u : Nat → Int} (hu : SOL 1 f y u M) {a : Int} (ha : i32 a) {low : Nat} (hl : low ≤ 7) : SC (d + 4) 5 [.ref 1, .int (nI f), .int (iz a), .int (nI low)] M (fun vs N => vs = [.long (lz (a * hbv C p ((q : Int) * (y 6 : Int)) (y 0 + 1) * ((q : Int) * (y 6 : Int)) + (p : Int) * aws y u low 4))] ∧ N = M) := by
  have h0 := hb.1.2.1
  obtain ⟨s10, s11, s9⟩ := hS
  refine sC (by decide) rfl (go_in (e5_0_1 ?_))
  rw [nI_mul, s10, s11, s9, iz_l ha, lz_mul, lz_mul]
  refine useC (c74 (off := f * 8) (R := u) hy hb (by decide +kernel) (by decide +kernel) (by rw [show len 1096 = 24 by decide +kernel]; omega) (by decide +kernel) (fun j hj => hu j (by omega)) hl) fun vs N h => ?_
  obtain ⟨rfl, rfl⟩ := h
  exact e5_32_1 ⟨rfl, by rw [lz_mul, lz_add], rfl⟩
end CJ1
section CJ2
variable {d : Nat} {M : Mm} {y lo : Nat → Nat} {k : Int}
theorem c3_2 (hy : YR y k M) (hb : YB y k) {C : Nat → Int} (hC : COE 2 y C M) {p q : Nat} (hp : p ≤ 5) (hq : q ≤ 5) : SC (d + 1) 3 [.ref 2, .int (nI p), .int (nI q)] M (fun vs N => vs = [] ∧ Fr (aSe 2) M N ∧ SET 2 y C p q N) := by
  have h0 := hb.1.2.1
  have h6 := hb.2.2.2.2.1
  refine sC (by decide) rfl (go_in (e3_0_2 ?_))
  have e6 : (sJ M 2 10 (nI p).toInt64).1 640 6 = nI (y 6) := hy.2.1.2.2
  rw [e6, iz_n p, iz_n q, iz_n (y 6), iz_l ⟨by omega, by omega⟩, iz_l ⟨by omega, by omega⟩, iz_l ⟨by omega, by omega⟩, lz_mul]
  obtain ⟨N0, hN0⟩ : ∃ N, N = sJ (sJ M 2 10 (lz p)) 2 11 (lz ((q : Int) * (y 6 : Int))) := ⟨_, rfl⟩
  rw [← hN0]
  have hF0 : Fr (aSe 2) M N0 := by rw [hN0]; exact (Fr.rf.sJ rfl).sJ rfl
  have g0 : N0.1 640 0 = nI (y 0) := by rw [hN0]; exact hy.1.1
  have g10 : N0.2.1 2 10 = lz p := by rw [hN0]; rfl
  have g11 : N0.2.1 2 11 = lz ((q : Int) * (y 6 : Int)) := by rw [hN0]; rfl
  have gC : ∀ m, m < y 0 + 2 → N0.2.1 1155 m = lz (C m) := fun m hm => by rw [(hF0 1155 m rfl).2.1]; exact hC m hm
  have loop : ∀ k' (o1 o2 : Option Value) m, m + k' = y 0 + 2 → WM d 3 (fun vs N => vs = [] ∧ Fr (aSe 2) M N ∧ SET 2 y C p q N) 29 [some (.ref 2), o1, o2, some (.long (lz (hbz C p ((q : Int) * (y 6 : Int)) m))), none, some (.long (lz ((p : Int) ^ m))), none, some (.int (nI m))] [] N0 := by
    intro k'
    induction k' with
    | zero =>
      intro o1 o2 m hm
      have hm : m = y 0 + 2 := by omega
      subst hm
      refine go_in (e3_29_2 (br_t (by rw [g0, nI_add]; exact nI_lt (by omega) (by omega)) (go_in (e3_76_2 ⟨rfl, rfl, hF0.sJ rfl, ?_, ?_, ?_⟩))))
      · rw [sJ_v, if_neg (by omega)]; exact g10
      · rw [sJ_v, if_neg (by omega)]; exact g11
      · rw [sJ_v, if_pos ⟨rfl, rfl⟩]; rfl
    | succ k' ih =>
      intro o1 o2 m hm
      refine go_in (e3_29_2 (br_f (by rw [g0, nI_add]; exact nI_nlt (by omega) (by omega)) ?_))
      rw [g10, g11, nI_c (by omega), gC m (by omega), nI_s, lz_mul, lz_mul, lz_mul, lz_add, hbz_s, ← Int.pow_succ]
      exact ⟨nI_in2 (by omega) (by decide), ih _ _ (m + 1) (by omega)⟩
  exact loop (y 0 + 2) _ _ 0 (by omega)
set_option maxHeartbeats 2000000 in
theorem c4_2 (hy : YR y k M) (hb : YB y k) (hlo : LOC 2 y lo M) (hlo7 : ∀ l, lo l ≤ 7) {C : Nat → Int} (hC : COE 2 y C M) {p q : Nat} (hS : SET 2 y C p q M) {f : Nat} (hf : f < 3) {pay : Nat → Int} (hpay : PAY 2 f y pay M) (hpb : ∀ l, l < y 0 + 1 → i32 (pay l)) : SC (d + 4) 4 [.ref 2, .int (nI f)] M (fun vs N => vs = [] ∧ Fr (aSof 2 f) M N ∧ SOL 2 f y (wth y lo C pay p q) N) := by
  have h0 := hb.1.2.1
  obtain ⟨s10, s11, -⟩ := hS
  have ok : ∀ N, Fr (aSof 2 f) M N → YR y k N ∧ (∀ l, l < y 0 + 1 → N.1 1153 l = nI (lo l)) ∧ (∀ m, m < y 0 + 2 → N.2.1 1155 m = lz (C m)) ∧ (∀ l, l < y 0 + 1 → N.1 1154 (f * 8 + l) = iz (pay l)) ∧ N.2.1 2 10 = lz p ∧ N.2.1 2 11 = lz ((q : Int) * (y 6 : Int)) := fun N hF =>
    ⟨hy.of hF (fun j _ => rfl) (fun j => rfl), fun l hl => by rw [(hF 1153 l rfl).1]; exact hlo l hl, fun m hm => by rw [(hF 1155 m rfl).2.1]; exact hC m hm, fun l hl => by rw [(hF 1154 _ rfl).1]; exact hpay l hl, by rw [(hF 2 10 rfl).2.1]; exact s10, by rw [(hF 2 11 rfl).2.1]; exact s11⟩
  have ina : ∀ l, l < 8 → aSof 2 f 1160 (f * 8 + l) = true := fun l hl => by
    show (false || (false || (true && (Nat.ble (f * 8) (f * 8 + l) && Nat.blt (f * 8 + l) (f * 8 + 8))))) = true
    rw [in_row hl]; rfl
  refine sC (by decide) rfl (go_in (e4_0_2 ?_))
  rw [hy.1.1, nI_add, nI_mul]
  -- last: times d
  have P3 : ∀ k' (o4 o5 o7 : Option Value) l N, l + k' = y 0 + 1 → Fr (aSof 2 f) M N → (∀ i, i < y 0 + 1 → N.2.1 1160 (f * 8 + i) = lz (hs (tT y lo C pay) p ((q : Int) * (y 6 : Int)) (y 0 + 1) i * (if i < l then ((q : Int) * (y 6 : Int)) else 1))) →
      WM (d + 3) 4 (fun vs N => vs = [] ∧ Fr (aSof 2 f) M N ∧ SOL 2 f y (wth y lo C pay p q) N) 196 [some (.ref 2), none, some (.int (nI (y 0 + 1))), some (.int (nI (f * 8))), o4, o5, some (.int (nI l)), o7] [] N := by
    intro k'
    induction k' with
    | zero =>
      intro o4 o5 o7 l N hl hF hd
      refine go_in (e4_196_2 (br_t (nI_le (by omega) (by omega)) (go_in (e4_224 ⟨rfl, rfl, hF, fun i hi => ?_⟩))))
      rw [show 1032 + 64 * 2 = 1160 from rfl, hd i hi, if_pos (by omega)]
      rfl
    | succ k' ih =>
      intro o4 o5 o7 l N hl hF hd
      obtain ⟨-, -, -, -, -, g11⟩ := ok N hF
      refine go_in (e4_196_2 (br_f (nI_ge (by omega) (by omega)) ?_))
      rw [nI_add, nI_s, nI_c (by omega), hd l (by omega), if_neg (by omega), Int.mul_one, g11, lz_mul]
      refine ⟨nI_in2 (by omega) (by decide), nI_in2 (by omega) (by decide), ih _ _ _ (l + 1) _ (by omega) (hF.sJ (ina l (by omega))) fun i hi => ?_⟩
      rw [sJ_v]
      by_cases e : i = l
      · subst e; rw [if_pos ⟨rfl, rfl⟩, if_pos (by omega)]
      · rw [if_neg (by omega), hd i hi]
        by_cases e2 : i < l
        · rw [if_pos e2, if_pos (by omega)]
        · rw [if_neg e2, if_neg (by omega)]
  have P2 : ∀ k' (o7 : Option Value) m N, m + k' = y 0 + 1 → Fr (aSof 2 f) M N → (∀ i, i < y 0 + 1 → N.2.1 1158 i = lz (tT y lo C pay m i)) → (∀ i, i < y 0 + 1 → N.2.1 1160 (f * 8 + i) = lz (hs (tT y lo C pay) p ((q : Int) * (y 6 : Int)) m i)) →
      WM (d + 3) 4 (fun vs N => vs = [] ∧ Fr (aSof 2 f) M N ∧ SOL 2 f y (wth y lo C pay p q) N) 63 [some (.ref 2), none, some (.int (nI (y 0 + 1))), some (.int (nI (f * 8))), some (.long (lz ((p : Int) ^ m))), none, some (.int (nI (m + 1))), o7] [] N := by
    intro k'
    induction k' with
    | zero =>
      intro o7 m N hm hF hT hA
      have hm : m = y 0 + 1 := by omega
      subst hm
      refine go_in (e4_63_2 (br_t (nI_lt (by omega) (by omega)) (go_in (e4_193_2 ?_))))
      exact P3 (y 0 + 1) _ _ _ 0 N (by omega) hF (fun i hi => by rw [hA i hi, if_neg (by omega), Int.mul_one])
    | succ k' ih =>
      intro o7 m N hm hF hT hA
      refine go_in (e4_63_2 (br_f (nI_nlt (by omega) (by omega)) ?_))
      have L : ∀ k2 l N2, l + k2 = y 0 + 1 → Fr (aSof 2 f) M N2 → (∀ i, i < y 0 + 1 → N2.2.1 1158 i = lz (tT y lo C pay m i)) → (∀ i, i < y 0 + 1 → N2.2.1 1160 (f * 8 + i) = lz (hs (tT y lo C pay) p ((q : Int) * (y 6 : Int)) (if i < l then m + 1 else m) i)) → (∀ i, i < l → N2.2.1 1159 i = lz (tT y lo C pay (m + 1) i)) →
          WM (d + 3) 4 (fun vs N => vs = [] ∧ Fr (aSof 2 f) M N ∧ SOL 2 f y (wth y lo C pay p q) N) 72 [some (.ref 2), none, some (.int (nI (y 0 + 1))), some (.int (nI (f * 8))), some (.long (lz ((p : Int) ^ m))), none, some (.int (nI (m + 1))), some (.int (nI l))] [] N2 := by
        intro k2
        induction k2 with
        | zero =>
          intro l N2 hl hF2 hT2 hA2 hV2
          have hl : l = y 0 + 1 := by omega
          subst hl
          refine go_in (e4_72_2 (br_t (nI_le (Nat.le_refl _) (by omega)) (go_in (e4_163_2 ⟨⟨by decide, by decide, by decide, by decide, by decide⟩, ?_⟩))))
          rw [nI_c (a := 0) (by decide), nI_c (a := 8) (by decide)]
          have hF3 : Fr (aSof 2 f) M (cpJ N2 1159 1158 0 0 8) := hF2.cpJ (fun b _ _ => rfl)
          obtain ⟨-, -, -, -, g10, -⟩ := ok _ hF3
          rw [g10, nI_s, lz_mul, ← Int.pow_succ]
          refine ih _ (m + 1) _ (by omega) hF3 (fun i hi => ?_) fun i hi => ?_
          · rw [cpJ_v, if_pos (by omega), Nat.zero_add, Nat.sub_zero]
            exact hV2 i hi
          · rw [cpJ_v, if_neg (by omega), hA2 i hi, if_pos hi]
        | succ k2 ih2 =>
          intro l N2 hl hF2 hT2 hA2 hV2
          obtain ⟨hy2, gl, -, -, -, g11⟩ := ok N2 hF2
          have hl7 := hlo7 l
          refine go_in (e4_72_2 (br_f (nI_ge (by omega) (by omega)) ?_))
          have ea : (lz (hs (tT y lo C pay) p ((q : Int) * (y 6 : Int)) m l) * lz ((q : Int) * (y 6 : Int))) + (lz ((p : Int) ^ m) * lz (tT y lo C pay m l)) = lz (hs (tT y lo C pay) p ((q : Int) * (y 6 : Int)) (m + 1) l) := by
            rw [lz_mul, lz_mul, lz_add]; rfl
          rw [nI_add, nI_c (a := f * 8 + l) (by omega), nI_c (a := l) (by omega), hA2 l (by omega), if_neg (by omega), hT2 l (by omega), g11, ea]
          obtain ⟨N3, hN3⟩ : ∃ N3, N3 = sJ N2 1160 (f * 8 + l) (lz (hs (tT y lo C pay) p ((q : Int) * (y 6 : Int)) (m + 1) l)) := ⟨_, rfl⟩
          rw [← hN3]
          have hF3 : Fr (aSof 2 f) M N3 := by rw [hN3]; exact hF2.sJ (ina l (by omega))
          have hA3 : ∀ i, i < y 0 + 1 → N3.2.1 1160 (f * 8 + i) = lz (hs (tT y lo C pay) p ((q : Int) * (y 6 : Int)) (if i < l + 1 then m + 1 else m) i) := fun i hi => by
            rw [hN3, sJ_v]
            by_cases e : i = l
            · subst e; rw [if_pos ⟨rfl, rfl⟩, if_pos (by omega)]
            · rw [if_neg (by omega), hA2 i hi]
              by_cases e2 : i < l
              · rw [if_pos e2, if_pos (by omega)]
              · rw [if_neg e2, if_neg (by omega)]
          have hT3 : ∀ i, i < y 0 + 1 → N3.2.1 1158 i = lz (tT y lo C pay m i) := fun i hi => by rw [hN3, sJ_v, if_neg (by omega)]; exact hT2 i hi
          have hV3 : ∀ i, i < l → N3.2.1 1159 i = lz (tT y lo C pay (m + 1) i) := fun i hi => by rw [hN3, sJ_v, if_neg (by omega)]; exact hV2 i hi
          obtain ⟨hy3, gl3, gC3, gp3, -, -⟩ := ok N3 hF3
          rw [gl3 l (by omega)]
          refine ⟨nI_in2 (by omega) (by decide), nI_in2 (by omega) (by decide), nI_in2 (by omega) (by decide), nI_in2 (by omega) (by decide), useC (c74 (off := 0) (R := tT y lo C pay m) hy3 hb (by decide +kernel) (by decide +kernel) (by rw [show len 1158 = 8 by decide +kernel]; omega) (by decide +kernel) (fun j hj => by rw [Nat.zero_add]; exact hT3 j (by omega)) hl7) fun vs N4 h => ?_⟩
          obtain ⟨rfl, rfl⟩ := h
          refine e4_137_2 ?_
          rw [nI_add, nI_c (a := m + 1) (by omega), nI_c (a := f * 8 + l) (by omega), nI_c (a := l) (by omega), gC3 (m + 1) (by omega), gp3 l (by omega), iz_l (hpb l (by omega)), lz_mul, lz_add, nI_s]
          refine ⟨nI_in2 (by omega) (by decide), nI_in2 (by omega) (by decide), nI_in2 (by omega) (by decide), ih2 (l + 1) _ (by omega) (hF3.sJ rfl) (fun i hi => ?_) (fun i hi => ?_) fun i hi => ?_⟩
          · rw [sJ_v, if_neg (by omega)]; exact hT3 i hi
          · rw [sJ_v, if_neg (by omega)]; exact hA3 i hi
          · rw [sJ_v]
            by_cases e : i = l
            · subst e; rw [if_pos ⟨rfl, rfl⟩]; rfl
            · rw [if_neg (by omega)]; exact hV3 i (by omega)
      exact L (y 0 + 1) 0 N (by omega) hF hT (fun i hi => by rw [hA i hi, if_neg (by omega)]) (fun i h => absurd h (Nat.not_lt_zero _))
  have P1 : ∀ k' (o1 o5 o6 o7 : Option Value) l N, l + k' = y 0 + 1 → Fr (aSof 2 f) M N → (∀ i, i < l → N.2.1 1158 i = lz (pay i) ∧ N.2.1 1160 (f * 8 + i) = lz 0) →
      WM (d + 3) 4 (fun vs N => vs = [] ∧ Fr (aSof 2 f) M N ∧ SOL 2 f y (wth y lo C pay p q) N) 18 [some (.ref 2), o1, some (.int (nI (y 0 + 1))), some (.int (nI (f * 8))), some (.int (nI l)), o5, o6, o7] [] N := by
    intro k'
    induction k' with
    | zero =>
      intro o1 o5 o6 o7 l N hl hF hd
      refine go_in (e4_18_2 (br_t (nI_le (by omega) (by omega)) (go_in (e4_57_2 ?_))))
      exact P2 (y 0 + 1) _ 0 N (by omega) hF (fun i hi => (hd i (by omega)).1) (fun i hi => (hd i (by omega)).2)
    | succ k' ih =>
      intro o1 o5 o6 o7 l N hl hF hd
      obtain ⟨-, -, -, gp, -, -⟩ := ok N hF
      refine go_in (e4_18_2 (br_f (nI_ge (by omega) (by omega)) ?_))
      rw [nI_add, nI_s, nI_c (by omega), nI_c (by omega), gp l (by omega), iz_l (hpb l (by omega))]
      refine ⟨nI_in2 (by omega) (by decide), nI_in2 (by omega) (by decide), nI_in2 (by omega) (by decide), ih _ _ _ _ (l + 1) _ (by omega) ((hF.sJ rfl).sJ (ina l (by omega))) fun i hi => ?_⟩
      by_cases e : i = l
      · subst e
        exact ⟨by rw [sJ_v, if_neg (by omega), sJ_v, if_pos ⟨rfl, rfl⟩], by rw [sJ_v, if_pos ⟨rfl, rfl⟩]; rfl⟩
      · obtain ⟨h1, h2⟩ := hd i (by omega)
        exact ⟨by rw [sJ_v, if_neg (by omega), sJ_v, if_neg (by omega)]; exact h1, by rw [sJ_v, if_neg (by omega), sJ_v, if_neg (by omega)]; exact h2⟩
  exact P1 (y 0 + 1) _ _ _ _ 0 M (by omega) Fr.rf (fun i h => absurd h (Nat.not_lt_zero _))
theorem c5_2 (hy : YR y k M) (hb : YB y k) {C : Nat → Int} {p q : Nat} (hS : SET 2 y C p q M) {f : Nat} (hf : f < 3) {u : Nat → Int} (hu : SOL 2 f y u M) {a : Int} (ha : i32 a) {low : Nat} (hl : low ≤ 7) : SC (d + 4) 5 [.ref 2, .int (nI f), .int (iz a), .int (nI low)] M (fun vs N => vs = [.long (lz (a * hbv C p ((q : Int) * (y 6 : Int)) (y 0 + 1) * ((q : Int) * (y 6 : Int)) + (p : Int) * aws y u low 4))] ∧ N = M) := by
  have h0 := hb.1.2.1
  obtain ⟨s10, s11, s9⟩ := hS
  refine sC (by decide) rfl (go_in (e5_0_2 ?_))
  rw [nI_mul, s10, s11, s9, iz_l ha, lz_mul, lz_mul]
  refine useC (c74 (off := f * 8) (R := u) hy hb (by decide +kernel) (by decide +kernel) (by rw [show len 1160 = 24 by decide +kernel]; omega) (by decide +kernel) (fun j hj => hu j (by omega)) hl) fun vs N h => ?_
  obtain ⟨rfl, rfl⟩ := h
  exact e5_32_2 ⟨rfl, by rw [lz_mul, lz_add], rfl⟩
end CJ2
