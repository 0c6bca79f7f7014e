/-! Greater of two fractions: the reference's. -/
/-- s where a/b is above c/e, -s below, 0 alike -/
def cmr (s a b c e : Int) : Int := if c * b < a * e then s else if a * e < c * b then -s else 0
section GS
variable {d : Nat} {M : Mm}
abbrev L182 (o0 o1 o2 o3 o4 o5 o6 o7 : Option Value) (a b c e s : Int) (p0 p1 p2 p3 p4 p5 p6 p7 : Option Value) : Lo := [o0, o1, o2, o3, o4, o5, o6, o7, some (.long (lz a)), none, some (.long (lz b)), none, some (.long (lz c)), none, some (.long (lz e)), none, some (.int (iz s)), p0, p1, p2, p3, p4, p5, p6, p7]
set_option maxHeartbeats 1000000 in
theorem loop182 : ∀ (n : Nat) {M : Mm} {s a b c e : Int}, b < (n : Int) → 0 < b → 0 < e → i64 a → i64 b → i64 c → i64 e → ∀ (o0 o1 o2 o3 o4 o5 o6 o7 p0 p1 p2 p3 p4 p5 p6 p7 : Option Value), WM (d + 1) 182 (fun vs N => vs = [.int (iz (cmr s a b c e))] ∧ N = M) 17 (L182 o0 o1 o2 o3 o4 o5 o6 o7 a b c e s p0 p1 p2 p3 p4 p5 p6 p7) [] M
  | 0, M, s, a, b, c, e, hn, hb, _, _, _, _, _ => by omega
  | n + 1, M, s, a, b, c, e, hn, hb, he, ia, ib, ic, ie => by
    intro o0 o1 o2 o3 o4 o5 o6 o7 p0 p1 p2 p3 p4 p5 p6 p7
    refine go_in (e182_17 (useC (c226 ia ib hb) fun vs N h => ?_))
    obtain ⟨rfl, rfl⟩ := h
    refine e182_24 (useC (c226 ic ie he) fun vs N h => ?_)
    obtain ⟨rfl, rfl⟩ := h
    have iq1 := dv_64 ia hb
    have iq2 := dv_64 ic he
    have m1 := md_in (a := a) hb
    have m2 := md_in (a := c) he
    have i1 := md_64 (a := a) hb ib
    have i2 := md_64 (a := c) he ie
    refine e182_33 ⟨fun q => ?_, fun q => ⟨fun q2 => ?_, fun q2 => ?_⟩⟩
    · rw [cmp_eq, lz_eq iq1 iq2] at q
      have h6 := fl_eq q
      have last : (a % b = 0 ∨ c % e = 0) → ∀ (o0 o1 o2 o3 o4 o5 o6 o7 o8 o9 o10 o11 o12 o13 o14 o15 p0 p1 p2 p3 : Option Value), WM (d + 1) 182 (fun vs N' => vs = [.int (iz (cmr s a b c e))] ∧ N' = N) 94 [o0, o1, o2, o3, o4, o5, o6, o7, o8, o9, o10, o11, o12, o13, o14, o15, some (.int (iz s)), p0, p1, p2, p3, some (.long (lz (a % b))), none, some (.long (lz (c % e))), none] [] N := by
        intro hz o0 o1 o2 o3 o4 o5 o6 o7 o8 o9 o10 o11 o12 o13 o14 o15 p0 p1 p2 p3
        refine go_in (e182_94 ⟨fun q2 => go_in (e182_106 ⟨fun q3 => go_in (e182_119 (go_in (e182_121 ?_))), fun q3 => go_in (e182_121 ?_)⟩), fun q2 => go_in (e182_121 ?_)⟩)
        · rw [cmp_eq, lz_0, lz_eq i1 i64_0] at q3
          have z : c % e = 0 := by omega
          have h7 : 0 < a % b * e := Int.mul_pos (by omega) he
          rw [z] at h6
          have : cmr s a b c e = s := by unfold cmr; rw [if_pos (by omega)]
          rw [this]
          exact ⟨rfl, rfl, rfl⟩
        · rw [cmp_eq, lz_eq i1 i2] at q2
          rw [cmp_eq, lz_0, lz_eq i1 i64_0] at q3
          have h7 : 0 < c % e * b := Int.mul_pos (by omega) hb
          rw [q3] at h6
          have : cmr s a b c e = -s := by unfold cmr; rw [if_neg (by omega), if_pos (by omega)]
          rw [this, iz_neg]
          exact ⟨rfl, rfl, rfl⟩
        · rw [cmp_eq, lz_eq i1 i2] at q2
          have z : c % e = 0 ∧ a % b = 0 := by omega
          rw [z.1, z.2] at h6
          have : cmr s a b c e = 0 := by unfold cmr; rw [if_neg (by omega), if_neg (by omega)]
          rw [this]
          exact ⟨rfl, rfl, rfl⟩
      refine go_in (e182_60 ?_)
      rw [lz_mul, lz_mul, lz_sub, lz_sub, rm_eq, rm_eq]
      refine ⟨fun q2 => ?_, fun q2 => ⟨fun q3 => ?_, fun q3 => ?_⟩⟩
      · rw [cmp_eq, lz_0, lz_eq i1 i64_0] at q2
        exact last (Or.inl q2) _ _ _ _ _ _ _ _ _ _ _ _ _ _ _ _ _ _ _ _
      · rw [cmp_eq, lz_0, lz_eq i1 i64_0] at q2
        rw [cmp_eq, lz_0, lz_eq i2 i64_0] at q3
        refine go_in (e182_122 ?_)
        rw [iz_neg]
        have c1 : c % e * b = b * (c % e) := Int.mul_comm _ _
        have c2 : a % b * e = e * (a % b) := Int.mul_comm _ _
        have : cmr s a b c e = cmr (-s) b (a % b) e (c % e) := by
          unfold cmr
          by_cases z1 : c * b < a * e
          · rw [if_pos z1, if_neg (by omega), if_pos (by omega), Int.neg_neg]
          · rw [if_neg z1]
            by_cases z2 : a * e < c * b
            · rw [if_pos z2, if_pos (by omega)]
            · rw [if_neg z2, if_neg (by omega), if_neg (by omega)]
        rw [this]
        exact loop182 n (by omega) (by omega) (by omega) ib i1 ie i2 _ _ _ _ _ _ _ _ _ _ _ _ _ _ _ _
      · rw [cmp_eq, lz_0, lz_eq i2 i64_0] at q3
        exact last (Or.inr q3) _ _ _ _ _ _ _ _ _ _ _ _ _ _ _ _ _ _ _ _
    · rw [cmp_eq, lz_eq iq1 iq2] at q
      rw [cmp_ge, lz_le iq2 iq1] at q2
      have h7 := fl_lt he hb (show c / e < a / b by omega)
      have : cmr s a b c e = s := by unfold cmr; rw [if_pos h7]
      rw [this]
      exact go_in (e182_57 (go_in (e182_59 ⟨rfl, rfl, rfl⟩)))
    · rw [cmp_ge, lz_le iq2 iq1] at q2
      have h7 := fl_lt hb he (show a / b < c / e by omega)
      have : cmr s a b c e = -s := by unfold cmr; rw [if_neg (by omega), if_pos h7]
      rw [this, iz_neg]
      exact go_in (e182_59 ⟨rfl, rfl, rfl⟩)
theorem c182 {a b c e : Int} (hb : 0 < b) (he : 0 < e) (ia : i64 a) (ib : i64 b) (ic : i64 c) (ie : i64 e) : SC (d + 2) 182 [.long (lz a), .long (lz b), .long (lz c), .long (lz e)] M (fun vs N => vs = [.int (iz (cmr 1 a b c e))] ∧ N = M) := by
  refine sC (by decide) rfl (go_in (e182_0 ?_))
  exact loop182 (b.toNat + 1) (by omega) hb he ia ib ic ie _ _ _ _ _ _ _ _ _ _ _ _ _ _ _ _
end GS
