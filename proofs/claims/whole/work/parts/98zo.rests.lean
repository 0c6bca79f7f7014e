/-! Rests: what is counted. -/
theorem plW_bd {w : Nat → Nat} (hb : WB w) {f l n : Nat} (hf : f < w 8) (hl : l ≤ 7) (hn : n ≤ 3) : bd 1152 (plW w (cstW w) f l n) := by
  have h17 := hb.2.2.2.2.2.1 f hf
  have w0 := (wb_w hb).1
  have h1 : bd ((99 : Nat) : Int) ((brg w f n : Nat) : Int) := bd_n (by
    unfold brg
    have h4 : n = 0 ∨ n = 1 ∨ n = 2 ∨ n = 3 := by omega
    rcases h4 with h | h | h | h <;> subst h
    · exact Nat.zero_le _
    · rw [if_neg (by decide), show 16 + 5 * f + 1 = 17 + 5 * f by omega]; exact h17.1.1
    · rw [if_neg (by decide), show 16 + 5 * f + 2 = 18 + 5 * f by omega]; exact h17.1.2.1
    · rw [if_neg (by decide), show 16 + 5 * f + 3 = 19 + 5 * f by omega]; exact h17.1.2.2)
  have h2 : bd ((3 : Nat) * (9 : Nat) * 7) (((n : Int) * (cstW w f : Int)) * ((w 0 : Int) - (l : Int))) := bd_mul (bd_mul (bd_n hn) (bd_n h17.2.1)) ⟨by omega, by omega⟩
  have h3 := bd_mul (bd_n (n := 4) (m := 4) (Nat.le_refl 4)) (bd_sub h1 h2)
  unfold plW
  exact bd_le h3 (by decide)
theorem lw_cong {v v' : Nat → Nat} {a l : Nat} : ∀ n, (∀ g, g < n → v g = v' g) → rst v a n = rst v' a n ∧ lw v a l n = lw v' a l n
  | 0, _ => ⟨rfl, rfl⟩
  | n + 1, h => by
    obtain ⟨h1, h2⟩ := lw_cong (v := v) (v' := v') (a := a) (l := l) n fun g hg => h g (by omega)
    have e : gt v a n = gt v' a n := by unfold gt; rw [h1, h n (by omega)]
    have r1 : ∀ u : Nat → Nat, rst u a (n + 1) = rst u a n - gt u a n := fun u => rfl
    have r2 : ∀ u : Nat → Nat, lw u a l (n + 1) = lw u a l n - gt u a n := fun u => rfl
    rw [r1, r1, r2, r2, h1, h2, e]
    exact ⟨rfl, rfl⟩
theorem gt_cong {v v' : Nat → Nat} {a f : Nat} (h : ∀ g, g ≤ f → v g = v' g) : gt v a f = gt v' a f := by
  unfold gt
  rw [(lw_cong (v := v) (v' := v') (a := a) (l := 0) f fun g hg => h g (by omega)).1, h f (Nat.le_refl _)]
theorem lowS_cong {y : Nat → Nat} {k : Int} {v v' : Nat → Nat} {l : Nat} (h : ∀ g, g < y 2 → v g = v' g) : lowS y k v l = lowS y k v' l := by
  unfold lowS
  rw [(lw_cong (v := v) (v' := v') (a := l - y 3) (l := l) (y 2) h).2]
/-- what all bring, without price and fine -/
def plS (w : Nat → Nat) (v : Nat → Nat) (a l : Nat) : Nat → Int
  | 0 => 0
  | f + 1 => plS w v a l f + plW w (cstW w) f l (gt v a f)
def rsv (w : Nat → Nat) (rr : Nat) (R : Nat → Nat → Int) (n l row : Nat) (v : Nat → Nat) : Int := (if row < 3 then foW w rr (cstW w) row l (gt v (l - w (32 + 5 * rr + 1)) row) else plS w v (l - w (32 + 5 * rr + 1)) l (w 8)) * DW w ^ n + (w 6 : Int) * aws (yW w rr) (R row) (lowS (yW w rr) (kW w) v l) 4
def rsD (w : Nat → Nat) (rr : Nat) (R : Nat → Nat → Int) (n l k f m : Nat) : Bool := decide (rsv w rr R n l f (wnr (w 8) k) < rsv w rr R n l f (V1 (wnr (w 8) k) f m))
def rsP (w : Nat → Nat) (rr : Nat) (R : Nat → Nat → Int) (n l k : Nat) : Bool := !(anB (fun f => anB (rsD w rr R n l k f) 4) (w 8))
def rsK (w : Nat → Nat) (rr : Nat) (R : Nat → Nat → Int) (n l : Nat) : Nat := (frs (rsP w rr R n l) (4 ^ w 8)).getD 0
def rsV (w : Nat → Nat) (rr : Nat) : Nat → Nat → Nat → Int
  | 0 => fun _ _ => 0
  | n + 1 => fun row l => rsv w rr (rsV w rr n) n l row (wnr (w 8) (rsK w rr (rsV w rr n) n l))
/-- a row that counts -/
def rwI (w : Nat → Nat) (row : Nat) : Prop := row < w 8 ∨ row = 3
theorem rwI_4 {w : Nat → Nat} (hb : WB w) {row : Nat} (h : rwI w row) : row ≤ 3 := by
  have := (wb_w hb).2.1
  rcases h with h | h <;> omega
section RB
variable {w : Nat → Nat}
theorem plS_bd (hb : WB w) {v : Nat → Nat} {a l : Nat} (hl : l ≤ 7) (hv : ∀ f, v f ≤ 3) : ∀ n : Nat, n ≤ w 8 → bd ((n : Int) * 1152) (plS w v a l n)
  | 0, _ => ⟨by show -((0 : Int) * 1152) ≤ 0; decide, by show (0 : Int) ≤ 0 * 1152; decide⟩
  | n + 1, hn => by
    have h1 := plS_bd hb (a := a) hl hv n (by omega)
    have h2 := plW_bd hb (show n < w 8 by omega) hl (Nat.le_trans (gt_le (v := v) (a := a) (f := n)) (hv n))
    have e : (((n + 1 : Nat) : Int)) * 1152 = (n : Int) * 1152 + 1152 := by omega
    rw [e]
    exact bd_add h1 h2
theorem rsv_bd (hb : WB w) {rr : Nat} (hr : rr < w 9) {R : Nat → Nat → Int} {n l row : Nat} {v : Nat → Nat} (hv : ∀ f, v f ≤ 3) (hl : l ≤ w 0) (hrow : rwI w row) (hR : ∀ j, j ≤ w 0 → bd (7344 * 65 ^ n) (R row j)) : bd (7344 * 65 ^ (n + 1)) (rsv w rr R n l row v) := by
  have w0 := (wb_w hb).1
  have w8 := (wb_w hb).2.1
  have wq := hb.2.2.1
  refine bd_yr (y := yW w rr) (yB_of hb hr) wq.2.1 wq.2.2 (by decide) ?_ hR _
  rcases hrow with h | h
  · rw [if_pos (by omega)]
    exact bd_le (foW_bd hb hr h (by omega) (Nat.le_trans gt_le (hv row))) (by decide)
  · rw [if_neg (by omega)]
    exact bd_le (plS_bd hb (by omega) hv (w 8) (Nat.le_refl _)) (by omega)
theorem rsV_bd (hb : WB w) {rr : Nat} (hr : rr < w 9) : ∀ n row l, l ≤ w 0 → rwI w row → bd (7344 * 65 ^ n) (rsV w rr n row l)
  | 0, _, _, _, _ => ⟨by show -((7344 : Int) * 65 ^ 0) ≤ 0; decide, by show (0 : Int) ≤ 7344 * 65 ^ 0; decide⟩
  | n + 1, row, l, hl, hrow => rsv_bd hb hr (fun f => wnr_3) hl hrow fun j hj => rsV_bd hb hr n row j hj hrow
theorem rsv_64 (hb : WB w) {rr : Nat} (hr : rr < w 9) {n l row : Nat} {v : Nat → Nat} (hv : ∀ f, v f ≤ 3) (hl : l ≤ w 0) (hrow : rwI w row) (hn : n < 8) : i64 (rsv w rr (rsV w rr n) n l row v) :=
  i64_of (rsv_bd hb hr hv hl hrow fun j hj => rsV_bd hb hr n row j hj hrow) (pw65 (n + 1) (by omega))
theorem rsv_cong {rr : Nat} {R : Nat → Nat → Int} {n l f : Nat} {v v' : Nat → Nat} (hf : f < w 8) (h8 : w 8 ≤ 3) (h : ∀ g, g < w 8 → v g = v' g) : rsv w rr R n l f v = rsv w rr R n l f v' := by
  unfold rsv
  rw [if_pos (by omega), if_pos (by omega), gt_cong (fun g hg => h g (by omega)), lowS_cong (y := yW w rr) h]
end RB
/-! another number of one farm, in a way -/
def oth (F k f m : Nat) : Nat := k - k / 4 ^ (F - 1 - f) % 4 * 4 ^ (F - 1 - f) + m * 4 ^ (F - 1 - f)
theorem in_oth0 : ∀ s, s < 3 → ∀ k, k < 64 → ∀ m, m < 4 → ((nI k &&& ((nI 3 <<< (nI (2 * s) &&& 31)) ^^^ (-(nI 1)))) ||| (nI m <<< (nI (2 * s) &&& 31))) = nI (k - k / 4 ^ s % 4 * 4 ^ s + m * 4 ^ s) := by decide +kernel
theorem oth_dec : ∀ F, F < 4 → ∀ k, k < 4 ^ F → ∀ f, f < F → ∀ m, m < 4 → oth F k f m < 4 ^ F ∧ ∀ g, g < F → wnr F (oth F k f m) g = if g = f then m else wnr F k g := by decide +kernel
theorem frs_yes {p : Nat → Bool} : ∀ {n m}, frs p n = some m → p m = true ∧ m < n
  | 0, m, h => by cases h
  | n + 1, m, h => by
    unfold frs at h
    cases h2 : frs p n with
    | some j =>
      rw [h2] at h
      have e : j = m := Option.some.inj h
      have := frs_yes h2
      exact ⟨e ▸ this.1, by omega⟩
    | none =>
      rw [h2] at h
      have h : (if p n = true then some n else none) = some m := h
      split at h
      · have e := Option.some.inj h
        rename_i hp
        exact ⟨e ▸ hp, by omega⟩
      · cases h
theorem rsK_lt {w : Nat → Nat} {rr : Nat} {R : Nat → Nat → Int} {n l : Nat} : rsK w rr R n l < 4 ^ w 8 := by
  unfold rsK
  cases h : frs (rsP w rr R n l) (4 ^ w 8) with
  | none => exact Nat.pow_pos (show 0 < 4 by decide)
  | some m => exact (frs_yes h).2
