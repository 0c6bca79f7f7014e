/-! Greater of two fractions: the class's and the reference's. -/
theorem fl_lt {a b c e : Int} (hb : 0 < b) (he : 0 < e) (h : a / b < c / e) : a * e < c * b := by
  have h1 : a < (a / b + 1) * b := Int.lt_ediv_add_one_mul_self a hb
  have h2 : c / e * e ≤ c := Int.ediv_mul_le c (by omega)
  have h3 : (a / b + 1) * b ≤ (c / e) * b := Int.mul_le_mul_of_nonneg_right (by omega) (by omega)
  have h4 : a * e < (c / e) * b * e := Int.mul_lt_mul_of_pos_right (by omega) he
  have h5 : (c / e * e) * b ≤ c * b := Int.mul_le_mul_of_nonneg_right h2 (by omega)
  have h6 : (c / e) * b * e = (c / e * e) * b := by rw [Int.mul_assoc, Int.mul_assoc, Int.mul_comm b e]
  rw [h6] at h4
  exact Int.lt_of_lt_of_le h4 h5
theorem rm_eq (a b : Int) : a - a / b * b = a % b := by
  have := Int.emod_add_mul_ediv a b
  have h2 : b * (a / b) = a / b * b := Int.mul_comm _ _
  omega
theorem fl_aux (q b e r s : Int) : (q * b + r) * e - (q * e + s) * b = r * e - s * b := by grind
theorem fl_eq {a b c e : Int} (h : a / b = c / e) : a * e - c * b = a % b * e - c % e * b := by
  have h1 : a = c / e * b + a % b := by rw [← h, ← rm_eq a b]; omega
  have h2 : c = c / e * e + c % e := by rw [← rm_eq c e]; omega
  have h3 := fl_aux (c / e) b e (a % b) (c % e)
  rw [← h1, ← h2] at h3
  exact h3
theorem md_in {a b : Int} (hb : 0 < b) : 0 ≤ a % b ∧ a % b < b := ⟨Int.emod_nonneg a (by omega), Int.emod_lt_of_pos a hb⟩
theorem md_64 {a b : Int} (hb : 0 < b) (h : i64 b) : i64 (a % b) := by
  have := md_in (a := a) hb
  have := h.2
  exact ⟨by omega, by omega⟩
theorem dv_64 {a b : Int} (ia : i64 a) (hb : 0 < b) : i64 (a / b) := by
  have h1 := md_in (a := a) hb
  have h2 : a / b * b + a % b = a := by have := rm_eq a b; omega
  have := ia.1
  have := ia.2
  rcases Int.lt_or_le (a / b) 0 with q | q
  · have h3 : a / b * b ≤ a / b * 1 := Int.mul_le_mul_of_nonpos_left (by omega) (by omega)
    have h4 : (a / b + 1) * b ≤ (a / b + 1) * 1 := Int.mul_le_mul_of_nonpos_left (by omega) (by omega)
    have h5 : (a / b + 1) * b = a / b * b + b := by rw [Int.add_mul, Int.one_mul]
    exact ⟨by omega, by omega⟩
  · have h3 : a / b * 1 ≤ a / b * b := Int.mul_le_mul_of_nonneg_left (by omega) q
    exact ⟨by omega, by omega⟩
theorem half_int {b r : Int} (hb : 0 < b) (hr : 0 < r) (h : r < b) : 2 * (b % r) < b := by
  have h1 := md_in (a := b) hr
  have h2 : b / r * r + b % r = b := by have := rm_eq b r; omega
  have h3 : 1 ≤ b / r := by
    rcases Int.lt_or_le 0 (b / r) with q | q
    · omega
    · have : b / r * r ≤ 0 * r := Int.mul_le_mul_of_nonneg_right q (by omega)
      omega
  have h4 : 1 * r ≤ b / r * r := Int.mul_le_mul_of_nonneg_right h3 (by omega)
  omega
theorem nI_tf (t : Bool) : nI (cond t 1 0) = 0 ∨ nI (cond t 1 0) = 1 := by cases t <;> decide
