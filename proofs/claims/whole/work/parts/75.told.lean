/-! What is told. w: all numbers, by the places of the reference's row (the leak and the draw that a farm goes by are one more than told). ta: by draw, top and 0 or 1 the 48 bits. -/
/-- bounds -/
def WB (w : Nat → Nat) : Prop := (1 ≤ w 0 ∧ w 0 ≤ 7 ∧ w 1 ≤ 8) ∧ ((∀ j, j < 4 → w (2 + j) ≤ 4) ∧ 1 ≤ w 2 + w 3 + w 4 + w 5 ∧ w 2 + w 3 + w 4 + w 5 ≤ 4) ∧ (1 ≤ w 6 ∧ w 6 < w 7 ∧ w 7 ≤ 5) ∧ (w 8 ≤ 3 ∧ (1 ≤ w 9 ∧ w 9 ≤ 5) ∧ w 10 < w 9 ∧ w 11 ≤ 6 ∧ w 12 ≤ 6 ∧ w 13 ≤ 400) ∧ (w 14 ≤ 7 ∧ w 15 ≤ w 14 ∧ w 16 ≤ 3) ∧
  (∀ f, f < w 8 → ((w (17 + 5 * f) ≤ 99 ∧ w (18 + 5 * f) ≤ 99 ∧ w (19 + 5 * f) ≤ 99) ∧ w (20 + 5 * f) ≤ 9 ∧ w (21 + 5 * f) ≤ w 11)) ∧
  (∀ r, r < w 9 → ((w (32 + 5 * r + 0) ≤ 9 ∧ w (32 + 5 * r + 1) ≤ 7 ∧ w (32 + 5 * r + 2) ≤ 3) ∧ w (32 + 5 * r + 3) ≤ 99 ∧ w (32 + 5 * r + 4) ≤ 4)) ∧
  (∀ b, b < w 12 → (w (57 + 3 * b) ≤ 99 ∧ w (58 + 3 * b) < w 8 ∧ w (59 + 3 * b) ≤ 3)) ∧ (∀ j, j < w 13 → w (75 + j) ≤ 3)
/-- what a farm's n buckets bring -/
def brg (w : Nat → Nat) (f n : Nat) : Nat := if n = 0 then 0 else w (16 + 5 * f + n)
/-- the class's own, at the object o -/
def TR (o : Nat) (w : Nat → Nat) (ta : Nat → Nat → Nat → Nat) (M : Mm) : Prop :=
  ((M.1 o 0 = nI (w 0) ∧ M.1 o 1 = iz ((w 1 : Int) - 1) ∧ M.1 o 3 = nI (w 6) ∧ M.1 o 4 = nI (w 7)) ∧ (M.1 o 5 = nI (w 8) ∧ M.1 o 9 = nI (w 9) ∧ M.1 o 10 = nI (w 10)) ∧ (M.1 o 12 = nI (w 11) ∧ M.1 o 14 = nI (w 12) ∧ M.1 o 16 = nI (w 13))) ∧
  (∀ j, j < 4 → M.1 (1024 + 64 * o + 2) j = nI (w (2 + j))) ∧
  (∀ f n, f < w 8 → n < 4 → M.1 (1024 + 64 * o + 6) (f * 4 + n) = nI (brg w f n)) ∧
  (∀ f, f < w 8 → M.1 (1024 + 64 * o + 7) f = nI (w (20 + 5 * f)) ∧ M.1 (1024 + 64 * o + 8) f = iz ((w (21 + 5 * f) : Int) - 1)) ∧
  (∀ r i, r < w 9 → i < 5 → M.1 (1024 + 64 * o + 11) (r * 5 + i) = nI (w (32 + 5 * r + i))) ∧
  (∀ q T i, q < w 11 → 1 ≤ T → T ≤ 7 → i < 2 → M.2.1 (1024 + 64 * o + 13) ((q * 7 + T - 1) * 2 + i) = lN (ta q T i) ∧ ta q T i < 2 ^ 48) ∧
  (∀ b i, b < w 12 → i < 3 → M.1 (1024 + 64 * o + 15) (b * 3 + i) = nI (w (57 + 3 * b + i))) ∧
  (∀ j, j < w 13 → M.1 (1024 + 64 * o + 17) j = nI (w (75 + j))) ∧ (∀ i, i < 3 → M.1 (1024 + 64 * o + 18) i = nI (w (14 + i)))
/-- what a draw tells -/
def dmf (ta : Nat → Nat → Nat → Nat) (q T l f b : Nat) : Nat := ta q T 0 / 2 ^ ((f * 2 + b) * 8 + l) % 2 + 2 * (ta q T 1 / 2 ^ ((f * 2 + b) * 8 + l) % 2)
theorem dmf_le {ta : Nat → Nat → Nat → Nat} {q T l f b : Nat} : dmf ta q T l f b ≤ 3 := by
  unfold dmf
  omega
/-- the year's numbers, by a rule -/
def yW (w : Nat → Nat) (r i : Nat) : Nat := if i = 0 then w 0 else if i = 2 then w 8 else if i = 3 then w (32 + 5 * r + 1) else if i = 4 then w 6 else if i = 5 then w 7 else if i = 6 then w 2 + w 3 + w 4 + w 5 else if i = 7 then w 2 else if i = 8 then w 3 else if i = 9 then w 4 else w 5
def plW (w : Nat → Nat) (cst : Nat → Nat) (f l n : Nat) : Int := 4 * ((brg w f n : Int) - ((n : Int) * (cst f : Int)) * ((w 0 : Int) - (l : Int)))
def foW (w : Nat → Nat) (r : Nat) (cst : Nat → Nat) (f l n : Nat) : Int := plW w cst f l n - (4 * (n : Int)) * (w (32 + 5 * r + 0) : Int) - (max 0 ((n : Int) - (w (32 + 5 * r + 2) : Int))) * ((w (32 + 5 * r + 3) : Int) * (w (32 + 5 * r + 4) : Int))
/-- what is wanted by a draw (one more than its number; 0 none) -/
def wbd (w : Nat → Nat) (ta : Nat → Nat → Nat → Nat) (q b l f : Nat) : Nat := if q = 0 ∨ w 11 < q then 0 else dmf ta (q - 1) (w 0) l f b
def waW (w : Nat → Nat) (ta : Nat → Nat → Nat → Nat) (b l f : Nat) : Nat := wbd w ta (w (21 + 5 * f)) b l f
def cstW (w : Nat → Nat) (f : Nat) : Nat := w (20 + 5 * f)
theorem wbd_le {w : Nat → Nat} {ta : Nat → Nat → Nat → Nat} {q b l f : Nat} : wbd w ta q b l f ≤ 3 := by
  unfold wbd
  split
  · omega
  · exact dmf_le
def kW (w : Nat → Nat) : Int := (w 1 : Int) - 1
theorem yB_of {w : Nat → Nat} {r : Nat} (h : WB w) (hr : r < w 9) : YB (yW w r) (kW w) := by
  obtain ⟨⟨a1, a2, a3⟩, ⟨b1, b2, b3⟩, ⟨c1, c2, c3⟩, ⟨d1, -⟩, -, -, e1, -⟩ := h
  have e2 := (e1 r hr).1.2.1
  unfold kW
  refine ⟨⟨a1, a2, by omega, by omega⟩, ⟨d1, e2⟩, ⟨c1, c2, c3⟩, b2, b3, rfl⟩
theorem tr_bit : ∀ x, x < 2 → ∀ z, z < 2 → ((lN x) ||| ((lN z) <<< ((nI 1).toInt64 &&& 63))).toInt32 = nI (x + 2 * z) := by decide +kernel
section TO
variable {d : Nat} {M : Mm} {w : Nat → Nat} {ta : Nat → Nat → Nat → Nat}
theorem c52 (h : TR 512 w ta M) : SC (d + 1) 52 [.ref 512] M (fun vs N => vs = [.int (nI (w 2 + w 3 + w 4 + w 5))] ∧ N = M) := by
  have hp := h.2.1
  refine sC (by decide) rfl (go_in (e52_0 ⟨nI_in2 (by decide) (by decide), nI_in2 (by decide) (by decide), nI_in2 (by decide) (by decide), nI_in2 (by decide) (by decide), rfl, ?_, rfl⟩))
  have p0 : M.1 33794 0 = nI (w 2) := hp 0 (by decide)
  have p1 : M.1 33794 1 = nI (w 3) := hp 1 (by decide)
  have p2 : M.1 33794 2 = nI (w 4) := hp 2 (by decide)
  have p3 : M.1 33794 3 = nI (w 5) := hp 3 (by decide)
  rw [nI_c (a := 0) (by decide), nI_c (a := 1) (by decide), nI_c (a := 2) (by decide), nI_c (a := 3) (by decide), p0, p1, p2, p3, nI_add, nI_add, nI_add]
theorem c53 (h : TR 512 w ta M) (hb : WB w) {r i : Nat} (hr : r < w 9) (hi : i < 5) : SC (d + 1) 53 [.ref 512, .int (nI r), .int (nI i)] M (fun vs N => vs = [.int (nI (w (32 + 5 * r + i)))] ∧ N = M) := by
  have h9 := hb.2.2.2.1.2.1.2
  refine sC (by decide) rfl (go_in (e53_0 ⟨by rw [nI_mul, nI_add]; exact nI_in2 (by omega) (by decide), rfl, ?_, rfl⟩))
  rw [nI_mul, nI_add, nI_c (by omega)]
  have := h.2.2.2.2.1 r i hr hi
  rw [show M.1 33803 (r * 5 + i) = nI (w (32 + 5 * r + i)) from this]
theorem c19 {f l b : Nat} : SC (d + 1) 19 [.int (nI f), .int (nI l), .int (nI b)] M (fun vs N => vs = [.int (nI ((f * 2 + b) * 8 + l))] ∧ N = M) :=
  sC (by decide) rfl (go_in (e19_0 ⟨rfl, by rw [nI_mul, nI_add, nI_mul, nI_add], rfl⟩))
theorem c54 (h : TR 512 w ta M) (hb : WB w) {q f l b : Nat} (hq : q ≤ 6) (hf : f < 3) (hl : l < 8) (hbb : b < 2) : SC (d + 2) 54 [.ref 512, .int (iz ((q : Int) - 1)), .int (nI f), .int (nI l), .int (nI b)] M (fun vs N => vs = [.int (nI (wbd w ta q b l f))] ∧ N = M) := by
  obtain ⟨⟨a1, a2, a3⟩, -, -, ⟨-, -, -, d1, -⟩, -⟩ := id hb
  have h11 : M.1 512 12 = nI (w 11) := h.1.2.2.1
  have h0 : M.1 512 0 = nI (w 0) := h.1.1.1
  have fin : q = 0 ∨ w 11 < q → Wp (SC (d + 1)) (ST (d + 1)) (RP (fun vs N => vs = [.int (nI (wbd w ta q b l f))] ∧ N = M)) hdN (txOf 54) 0 12 [some (.ref 512), some (.int (iz ((q : Int) - 1))), some (.int (nI f)), some (.int (nI l)), some (.int (nI b)), none, none] [] M := fun e => go_in (e54_12 ⟨rfl, by unfold wbd; rw [if_pos e], rfl⟩)
  refine sC (by decide) rfl (go_in (e54_0 ⟨fun e => ?_, fun e => ⟨fun e2 => ?_, fun e2 => ?_⟩⟩))
  · rw [iz_lt0 ⟨by omega, by omega⟩] at e
    exact fin (Or.inl (by omega))
  · rw [iz_lt0 ⟨by omega, by omega⟩] at e
    rw [h11, iz_n, iz_lt ⟨by omega, by omega⟩ ⟨by omega, by omega⟩] at e2
    obtain ⟨q, rfl⟩ : ∃ p, q = p + 1 := ⟨q - 1, by omega⟩
    rw [show ((q + 1 : Nat) : Int) - 1 = (q : Int) by omega, iz_nn]
    refine go_in (e54_14 (useC c19 fun vs N h2 => ?_))
    obtain ⟨rfl, rfl⟩ := h2
    obtain ⟨x1, x2⟩ := h.2.2.2.2.2.1 q (w 0) 0 (by omega) a1 a2 (by decide)
    obtain ⟨z1, z2⟩ := h.2.2.2.2.2.1 q (w 0) 1 (by omega) a1 a2 (by decide)
    have x1 : N.2.1 33805 ((q * 7 + w 0 - 1) * 2) = lN (ta q (w 0) 0) := x1
    have z1 : N.2.1 33805 ((q * 7 + w 0 - 1) * 2 + 1) = lN (ta q (w 0) 1) := z1
    have hi : (((((nI q) * (nI 7)) + (N.1 512 0)) - (nI 1)) * (nI 2)) = nI ((q * 7 + w 0 - 1) * 2) := by rw [h0, nI_mul, nI_add, nI_sub (by omega), nI_mul]
    rw [hi]
    refine e54_36 ⟨nI_in2 (by omega) (by decide), by rw [nI_add]; exact nI_in2 (by omega) (by decide), rfl, ?_, rfl⟩
    rw [nI_add, nI_c (by omega), nI_c (by omega), x1, z1]
    have hp : (f * 2 + b) * 8 + l < 64 := by omega
    have hb1 : lN 1 = 1 := rfl
    rw [hb1, wb_bit (by omega) hp, wb_bit (by omega) hp, tr_bit _ (by omega) _ (by omega)]
    unfold wbd
    rw [if_neg (by omega)]
    rfl
  · rw [iz_lt0 ⟨by omega, by omega⟩] at e
    rw [h11, iz_n, iz_lt ⟨by omega, by omega⟩ ⟨by omega, by omega⟩] at e2
    exact fin (Or.inr (by omega))
end TO
