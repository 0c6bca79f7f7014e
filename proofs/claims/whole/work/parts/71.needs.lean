/-! What is needed of numbers and places, or thrown. -/
theorem i32_0 : i32 0 := ⟨by decide, by decide⟩
theorem i64_0 : i64 0 := ⟨by decide, by decide⟩
theorem iz_0 : (0 : Int32) = iz 0 := rfl
theorem lz_0 : lN 0 = lz 0 := rfl
theorem iz_lt0 {a : Int} (ha : i32 a) : iz a < 0 ↔ a < 0 := iz_lt ha i32_0
theorem iz_0le {a : Int} (ha : i32 a) : 0 ≤ iz a ↔ 0 ≤ a := iz_le i32_0 ha
theorem iz_eq0 {a : Int} (ha : i32 a) : iz a = 0 ↔ a = 0 := iz_eq ha i32_0
section NB
variable {d : Nat} {M : Mm} {x y z : Int}
theorem c119 (hx : i32 x) (hy : i32 y) (h0 : 0 ≤ x) (h : x < y) : SC (d + 1) 119 [.int (iz x), .int (iz y)] M (fun vs N => vs = [] ∧ N = M) :=
  sC (by decide) rfl (go_in (e119_0 ⟨fun q => absurd ((iz_lt0 hx).mp q) (by omega), fun _ => ⟨fun _ => go_in (e119_20 ⟨rfl, rfl, rfl⟩), fun q => absurd ((iz_lt hx hy).mpr h) q⟩⟩))
theorem t119 (hx : i32 x) (hy : i32 y) (h : x < 0 ∨ y ≤ x) : ST (d + 1) 119 [.int (iz x), .int (iz y)] M (fun E N => E = 1 ∧ N = M) :=
  sT (by decide) (by decide) (by decide +kernel) rfl (go_inE (e119_0 ⟨fun _ => go_inE (e119_9 ⟨by decide, by decide, rfl, rfl⟩), fun q => ⟨fun q2 => absurd ((iz_lt hx hy).mp q2) (fun z => by
    have : ¬ x < 0 := fun z => q ((iz_lt0 hx).mpr z)
    omega), fun _ => go_inE (e119_9 ⟨by decide, by decide, rfl, rfl⟩)⟩⟩))
theorem c120 (hx : i32 x) (hy : i32 y) (hz : i32 z) (h0 : y ≤ x) (h : x ≤ z) : SC (d + 1) 120 [.int (iz x), .int (iz y), .int (iz z)] M (fun vs N => vs = [] ∧ N = M) :=
  sC (by decide) rfl (go_in (e120_0 ⟨fun q => absurd ((iz_lt hx hy).mp q) (by omega), fun _ => ⟨fun _ => go_in (e120_21 ⟨rfl, rfl, rfl⟩), fun q => absurd ((iz_le hx hz).mpr h) q⟩⟩))
theorem t120 (hx : i32 x) (hy : i32 y) (hz : i32 z) (h : x < y ∨ z < x) : ST (d + 1) 120 [.int (iz x), .int (iz y), .int (iz z)] M (fun E N => E = 0 ∧ N = M) :=
  sT (by decide) (by decide) (by decide +kernel) rfl (go_inE (e120_0 ⟨fun _ => go_inE (e120_10 ⟨by decide, by decide, rfl, rfl⟩), fun q => ⟨fun q2 => absurd ((iz_le hx hz).mp q2) (fun z => by
    have : ¬ x < y := fun z => q ((iz_lt hx hy).mpr z)
    omega), fun _ => go_inE (e120_10 ⟨by decide, by decide, rfl, rfl⟩)⟩⟩))
end NB
