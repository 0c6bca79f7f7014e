/-! Greater of two fractions: the steps. -/
section GR
variable {d : Nat} {M : Mm}
abbrev L127 (o0 o1 o2 o3 o4 o5 o6 o7 : Option Value) (a b c e : Int) (k : Nat) (p0 p1 p2 p3 p4 p5 p6 p7 : Option Value) : Lo := [o0, o1, o2, o3, o4, o5, o6, o7, some (.long (lz a)), none, some (.long (lz b)), none, some (.long (lz c)), none, some (.long (lz e)), none, some (.int (nI k)), p0, p1, p2, p3, p4, p5, p6, p7]
set_option maxHeartbeats 1000000 in
theorem step127 {t : Bool} {a b c e : Int} {k : Nat} (hb : 0 < b) (he : 0 < e) (ia : i64 a) (ib : i64 b) (ic : i64 c) (ie : i64 e) (hk : k < 200) (ht : t = true ↔ c * b < a * e)
    (cont : a / b = c / e → 0 < a % b → 0 < c % e → ∀ (o0 o1 o2 o3 o4 o5 o6 o7 p0 p1 p2 p3 p4 p5 p6 p7 : Option Value), WM (d + 1) 127 (fun vs N => vs = [.int (nI (cond t 1 0))] ∧ N = M) 17 (L127 o0 o1 o2 o3 o4 o5 o6 o7 e (c % e) b (a % b) (k + 1) p0 p1 p2 p3 p4 p5 p6 p7) [] M)
    (o0 o1 o2 o3 o4 o5 o6 o7 p0 p1 p2 p3 p4 p5 p6 p7 : Option Value) : WM (d + 1) 127 (fun vs N => vs = [.int (nI (cond t 1 0))] ∧ N = M) 17 (L127 o0 o1 o2 o3 o4 o5 o6 o7 a b c e k p0 p1 p2 p3 p4 p5 p6 p7) [] M := by
  have fin : ∀ (x : Int) , x = (cond t 1 0 : Nat) → nI (cond t 1 0) = iz x := fun x hx => by rw [hx, iz_nn]
  refine go_in (e127_17 ⟨fun q => ?_, fun _ => ⟨fun q => ?_, fun _ => ⟨fun q => ?_, fun _ => ?_⟩⟩⟩)
  · rw [cmp_le, lz_0, lz_le ib i64_0] at q; omega
  · rw [cmp_le, lz_0, lz_le ie i64_0] at q; omega
  · exact absurd q (nI_ge (by omega) (by omega))
  · refine useC (c226 ia ib hb) fun vs N h => ?_
    obtain ⟨rfl, rfl⟩ := h
    refine e127_46 (useC (c226 ic ie he) fun vs N h => ?_)
    obtain ⟨rfl, rfl⟩ := h
    refine e127_55 ?_
    rw [lz_mul, lz_mul, lz_sub, lz_sub, rm_eq, rm_eq]
    have iq1 := dv_64 ia hb
    have iq2 := dv_64 ic he
    have m1 := md_in (a := a) hb
    have m2 := md_in (a := c) he
    have i1 := md_64 (a := a) hb ib
    have i2 := md_64 (a := c) he ie
    refine ⟨fun q => ?_, fun q => ⟨fun q2 => ?_, fun q2 => ?_⟩⟩
    · rw [cmp_eq, lz_eq iq1 iq2] at q
      have h6 := fl_eq q
      have last : (a % b = 0 ∨ c % e = 0) → ∀ (o0 o1 o2 o3 o4 o5 o6 o7 o8 o9 o10 o11 o12 o13 o14 o15 o16 p0 p1 p2 p3 : Option Value), WM (d + 1) 127 (fun vs N' => vs = [.int (nI (cond t 1 0))] ∧ N' = N) 113 [o0, o1, o2, o3, o4, o5, o6, o7, o8, o9, o10, o11, o12, o13, o14, o15, o16, p0, p1, p2, p3, some (.long (lz (a % b))), none, some (.long (lz (c % e))), none] [] N := by
        intro hz o0 o1 o2 o3 o4 o5 o6 o7 o8 o9 o10 o11 o12 o13 o14 o15 o16 p0 p1 p2 p3
        refine go_in (e127_113 ⟨fun q2 => go_in (e127_125 (go_in (e127_126 ?_))), fun q2 => go_in (e127_126 ?_)⟩)
        · rw [cmp_le, lz_le i1 i2] at q2
          have ht0 : t = false := by
            cases t with
            | false => rfl
            | true =>
              have := ht.mp rfl
              rcases hz with z | z
              · rw [z] at h6 m1
                have : 0 ≤ c % e * b := Int.mul_nonneg m2.1 (by omega)
                omega
              · have : a % b = 0 := by omega
                rw [this, z] at h6
                omega
          rw [ht0]
          exact ⟨Or.inl rfl, rfl, rfl, rfl⟩
        · rw [cmp_le, lz_le i1 i2] at q2
          have ht1 : t = true := ht.mpr (by
            have z : c % e = 0 := by omega
            have h7 : 0 < a % b * e := Int.mul_pos (by omega) he
            rw [z] at h6
            omega)
          rw [ht1]
          exact ⟨Or.inr rfl, rfl, rfl, rfl⟩
      refine go_in (e127_99 ⟨fun q2 => ?_, fun q2 => ⟨fun q3 => ?_, fun q3 => ?_⟩⟩)
      · rw [cmp_eq, lz_0, lz_eq i1 i64_0] at q2
        exact last (Or.inl q2) _ _ _ _ _ _ _ _ _ _ _ _ _ _ _ _ _ _ _ _ _
      · rw [cmp_eq, lz_0, lz_eq i1 i64_0] at q2
        rw [cmp_eq, lz_0, lz_eq i2 i64_0] at q3
        refine go_in (e127_127 ?_)
        rw [nI_s]
        exact cont q (by omega) (by omega) _ _ _ _ _ _ _ _ _ _ _ _ _ _ _ _
      · rw [cmp_eq, lz_0, lz_eq i2 i64_0] at q3
        exact last (Or.inr q3) _ _ _ _ _ _ _ _ _ _ _ _ _ _ _ _ _ _ _ _ _
    · rw [cmp_eq, lz_eq iq1 iq2] at q
      rw [cmp_le, lz_le iq1 iq2] at q2
      have h7 := fl_lt hb he (show a / b < c / e by omega)
      have ht0 : t = false := by
        cases t with
        | false => rfl
        | true => have := ht.mp rfl; omega
      rw [ht0]
      exact go_in (e127_97 (go_in (e127_98 ⟨Or.inl rfl, rfl, rfl, rfl⟩)))
    · rw [cmp_le, lz_le iq1 iq2] at q2
      have h7 := fl_lt he hb (show c / e < a / b by omega)
      have ht1 : t = true := ht.mpr h7
      rw [ht1]
      exact go_in (e127_98 ⟨Or.inr rfl, rfl, rfl, rfl⟩)
theorem loop127 : ∀ (m : Nat) {t : Bool} {a b c e : Int} {k : Nat}, b < 2 ^ m → k + 2 * m < 200 → 0 < b → 0 < e → i64 a → i64 b → i64 c → i64 e → (t = true ↔ c * b < a * e) → ∀ (o0 o1 o2 o3 o4 o5 o6 o7 p0 p1 p2 p3 p4 p5 p6 p7 : Option Value), WM (d + 1) 127 (fun vs N => vs = [.int (nI (cond t 1 0))] ∧ N = M) 17 (L127 o0 o1 o2 o3 o4 o5 o6 o7 a b c e k p0 p1 p2 p3 p4 p5 p6 p7) [] M
  | 0, t, a, b, c, e, k, hm, _, hb, _, _, _, _, _, _ => by
    rw [Int.pow_zero] at hm; omega
  | m + 1, t, a, b, c, e, k, hm, hk, hb, he, ia, ib, ic, ie, ht => by
    refine step127 hb he ia ib ic ie (by omega) ht fun q r1 r2 => ?_
    have m1 := md_in (a := a) hb
    have m2 := md_in (a := c) he
    have h6 := fl_eq q
    have i1 := md_64 (a := a) hb ib
    have i2 := md_64 (a := c) he ie
    have c1 : c % e * b = b * (c % e) := Int.mul_comm _ _
    have c2 : a % b * e = e * (a % b) := Int.mul_comm _ _
    have ht2 : t = true ↔ b * (c % e) < e * (a % b) := ht.trans ⟨fun z => by omega, fun z => by omega⟩
    refine step127 r2 r1 ie i2 ib i1 (by omega) ht2 fun q' r1' r2' => ?_
    have h6' := fl_eq q'
    have i3 := md_64 (a := e) r2 i2
    have i4 := md_64 (a := b) r1 i1
    have c3 : b % (a % b) * (c % e) = c % e * (b % (a % b)) := Int.mul_comm _ _
    have c4 : e % (c % e) * (a % b) = a % b * (e % (c % e)) := Int.mul_comm _ _
    have hh := half_int hb r1 m1.2
    rw [Int.pow_succ] at hm
    exact loop127 m (by omega) (by omega) r2' r1' i1 i4 i2 i3 (ht2.trans ⟨fun z => by omega, fun z => by omega⟩)
theorem c127 {a b c e : Int} {t : Bool} (hb : 0 < b) (he : 0 < e) (ia : i64 a) (ib : i64 b) (ic : i64 c) (ie : i64 e) (ht : t = true ↔ c * b < a * e) : SC (d + 2) 127 [.long (lz a), .long (lz b), .long (lz c), .long (lz e)] M (fun vs N => vs = [.int (nI (cond t 1 0))] ∧ N = M) := by
  refine sC (by decide) rfl (go_in (e127_0 ?_))
  exact loop127 63 (by have := ib.2; omega) (by decide) hb he ia ib ic ie ht _ _ _ _ _ _ _ _ _ _ _ _ _ _ _ _
end GR
