/-! The reference's bettering: what is scanned. -/
def scS (g : Nat → Int) (own : Int) (c0 : Nat) : Nat → Int × (Nat × Bool)
  | 0 => (own, (c0, false))
  | n + 1 => if (scS g own c0 n).1 < g n then (g n, (n, true)) else scS g own c0 n
theorem scS_ok (g : Nat → Int) (own : Int) (c0 : Nat) : ∀ n, scS g own c0 (n + 1) = if own < g (bst g (n + 1)) then (g (bst g (n + 1)), (bst g (n + 1), true)) else (own, (c0, false))
  | 0 => by
    have e : bst g (0 + 1) = 0 := by unfold bst; split <;> rfl
    rw [e]
    rfl
  | n + 1 => by
    have h := scS_ok g own c0 n
    have e1 : scS g own c0 (n + 1 + 1) = if (scS g own c0 (n + 1)).1 < g (n + 1) then (g (n + 1), (n + 1, true)) else scS g own c0 (n + 1) := rfl
    have e2 : bst g (n + 1 + 1) = if g (bst g (n + 1)) < g (n + 1) then n + 1 else bst g (n + 1) := rfl
    rw [e1, e2, h]
    by_cases h1 : own < g (bst g (n + 1))
    · rw [if_pos h1]
      by_cases h2 : g (bst g (n + 1)) < g (n + 1)
      · rw [if_pos h2, if_pos h2, if_pos (by omega)]
      · rw [if_neg h2, if_neg h2, if_pos h1]
    · rw [if_neg h1]
      by_cases h2 : g (bst g (n + 1)) < g (n + 1)
      · rw [if_pos h2]
      · rw [if_neg h2, if_neg h1, if_neg (show ¬ own < g (n + 1) by omega)]
def dnS (g : Nat → Int) (own : Int) (c0 K : Nat) : Nat → Nat
  | 0 => c0
  | j + 1 => if g (K - 1 - j) = own then K - 1 - j else dnS g own c0 K j
theorem dnS_ok {g : Nat → Int} {own : Int} {c0 K b : Nat} (hb : b < K) (ho : g b = own) (hf : ∀ k, k < b → g k < own) : ∀ j, K - b ≤ j → j ≤ K → dnS g own c0 K j = b
  | 0, h, _ => by omega
  | j + 1, h, h2 => by
    have e : dnS g own c0 K (j + 1) = if g (K - 1 - j) = own then K - 1 - j else dnS g own c0 K j := rfl
    rw [e]
    by_cases h3 : K - 1 - j = b
    · rw [h3, if_pos ho]
    · have := hf (K - 1 - j) (by omega)
      rw [if_neg (by omega)]
      exact dnS_ok hb ho hf j (by omega) (by omega)
theorem dec_iz (m : Nat) : nI m + Int32.ofInt (-1) = iz ((m : Int) - 1) := by
  rw [iz_n]
  exact iz_add m (-1)
/-! by a farm, or by all together (fm below 0) -/
def rG (w : Nat → Nat) (ta : Nat → Nat → Nat → Nat) (fm : Int) (l k : Nat) : Int := gBy w fm (vBy w ta fm l k) l
def lG (w : Nat → Nat) (ta : Nat → Nat → Nat → Nat) (fm : Int) (l k : Nat) : Nat := if l ≤ 7 then lowS (yW w (rBy w fm)) (kW w) (vBy w ta fm l k) l else 0
abbrev YG (w : Nat → Nat) (fm : Int) : Nat → Nat := yW w (rBy w fm)
abbrev UG (w : Nat → Nat) (ta : Nat → Nat → Nat → Nat) (fm : Int) (c : Nat → Nat) (l : Nat) : Int := uC (YG w fm) (w 6) (w 7) (rG w ta fm) (lG w ta fm) c l
abbrev DG (w : Nat → Nat) (ta : Nat → Nat → Nat → Nat) (fm : Int) (c : Nat → Nat) : Int := dC (YG w fm) (w 6) (w 7) (lG w ta fm) c
abbrev VG (w : Nat → Nat) (ta : Nat → Nat → Nat → Nat) (fm : Int) (c : Nat → Nat) (l k : Nat) : Int := vC (YG w fm) (w 6) (w 7) (rG w ta fm) (lG w ta fm) c l k
abbrev OG (w : Nat → Nat) (ta : Nat → Nat → Nat → Nat) (fm : Int) (c : Nat → Nat) (l : Nat) : Int := owC (YG w fm) (w 6) (w 7) (rG w ta fm) (lG w ta fm) c l
abbrev MG (w : Nat → Nat) (ta : Nat → Nat → Nat → Nat) (fm : Int) (c : Nat → Nat) (l : Nat) : Bool := mrC (YG w fm) (w 6) (w 7) (rG w ta fm) (lG w ta fm) (ncd w fm) c l
abbrev NG (w : Nat → Nat) (ta : Nat → Nat → Nat → Nat) (fm : Int) (c : Nat → Nat) (l : Nat) : Nat := nxC (YG w fm) (w 6) (w 7) (rG w ta fm) (lG w ta fm) (ncd w fm) c l
abbrev IG (w : Nat → Nat) (ta : Nat → Nat → Nat → Nat) (fm : Int) (c : Nat → Nat) : Bool := imC (YG w fm) (w 6) (w 7) (rG w ta fm) (lG w ta fm) (ncd w fm) c
abbrev TG (w : Nat → Nat) (ta : Nat → Nat → Nat → Nat) (fm : Int) (n : Nat) : Nat → Nat := itC (YG w fm) (w 6) (w 7) (rG w ta fm) (lG w ta fm) (ncd w fm) n
abbrev FG (w : Nat → Nat) (ta : Nat → Nat → Nat → Nat) (fm : Int) : Nat → Nat := fiC (YG w fm) (w 6) (w 7) (rG w ta fm) (lG w ta fm) (ncd w fm)
abbrev AG (w : Nat → Nat) (ta : Nat → Nat → Nat → Nat) (fm : Int) (l : Nat) : Nat := anC (YG w fm) (w 6) (w 7) (rG w ta fm) (lG w ta fm) (ncd w fm) l
section GB
variable {w : Nat → Nat} {ta : Nat → Nat → Nat → Nat} {fm : Int}
theorem ncd_bd (hb : WB w) : 0 < ncd w fm ∧ ncd w fm ≤ 64 ∧ (0 ≤ fm → ncd w fm = 4) := by
  have w8 := (wb_w hb).2.1
  unfold ncd
  have h4 : w 8 = 0 ∨ w 8 = 1 ∨ w 8 = 2 ∨ w 8 = 3 := by omega
  split
  · refine ⟨?_, ?_, fun q => by omega⟩
    · rcases h4 with h | h | h | h <;> rw [h] <;> decide
    rcases h4 with h | h | h | h <;> rw [h] <;> decide
  · exact ⟨by decide, by decide, fun _ => rfl⟩
theorem vBy_3 {l k : Nat} (hk : k < ncd w fm) (hb : WB w) (f : Nat) : vBy w ta fm l k f ≤ 3 := vBy_le fun h => by have := (ncd_bd hb (fm := fm)).2.2 h; omega
theorem gaW_bd (hb : WB w) {r l : Nat} {v : Nat → Nat} (hr : r < w 9) (hl : l ≤ 7) (hv : ∀ f, v f ≤ 3) : ∀ n : Nat, n ≤ w 8 → bd ((n : Int) * 2448) (gaW w r v l n)
  | 0, _ => ⟨by show -((0 : Int) * 2448) ≤ 0; decide, by show (0 : Int) ≤ 0 * 2448; decide⟩
  | n + 1, hn => by
    have h1 := gaW_bd hb hr hl hv n (by omega)
    have h2 := gnW_bd (v := v) hb hr (show n < w 8 by omega) hl hv
    have e : (((n + 1 : Nat) : Int)) * 2448 = (n : Int) * 2448 + 2448 := by omega
    rw [e]
    exact bd_add h1 h2
theorem rG_bd (hb : WB w) (h2 : fm < w 8) : ∀ l k, l ≤ YG w fm 0 → k < ncd w fm → bd 7344 (rG w ta fm l k) := fun l k hl hk => by
  have w0 := (wb_w hb).1
  have hl : l ≤ w 0 := hl
  have w8 := (wb_w hb).2.1
  have hr := rBy_lt hb (fm := fm)
  unfold rG gBy
  split
  · exact bd_le (gaW_bd hb hr (by omega) (fun f => vBy_3 hk hb f) (w 8) (Nat.le_refl _)) (by omega)
  · exact bd_le (gnW_bd hb hr (by omega) (by omega) (fun f => vBy_3 hk hb f)) (by decide)
theorem lG_7 : ∀ l k, lG w ta fm l k ≤ 7 := fun l k => by
  unfold lG
  split
  · exact Nat.le_trans lowS_le (by assumption)
  · omega
theorem lG_y (hb : WB w) : ∀ l k, l ≤ YG w fm 0 → lG w ta fm l k ≤ YG w fm 0 := fun l k hl => by
  unfold lG
  split
  · exact Nat.le_trans lowS_le hl
  · omega
theorem lG_at {l k : Nat} (h : l ≤ 7) : lG w ta fm l k = lowS (yW w (rBy w fm)) (kW w) (vBy w ta fm l k) l := if_pos h
theorem nxC_v {c : Nat → Nat} {l : Nat} : (scS (VG w ta fm c l) (OG w ta fm c l) (c l) (ncd w fm)).2.1 = NG w ta fm c l ∧ (scS (VG w ta fm c l) (OG w ta fm c l) (c l) (ncd w fm)).2.2 = MG w ta fm c l ∨ ncd w fm = 0 := by
  cases hn : ncd w fm with
  | zero => exact Or.inr rfl
  | succ n =>
    refine Or.inl ?_
    rw [scS_ok]
    unfold NG MG nxC mrC
    rw [hn]
    by_cases h : OG w ta fm c l < VG w ta fm c l (bst (VG w ta fm c l) (n + 1))
    · rw [if_pos h, decide_eq_true h]
      exact ⟨(if_pos rfl).symm, rfl⟩
    · rw [if_neg h, decide_eq_false h]
      exact ⟨(if_neg (by decide)).symm, rfl⟩
end GB
/-! what the reference's bettering may change -/
def aBt (k j : Nat) : Bool := aYB k j || (aSv k j || (Nat.beq k 50202 || (Nat.beq k 50203 || Nat.beq k 50208)))
theorem aYB_bt : ∀ k j, aYB k j = true → aBt k j = true := fun k j h => by unfold aBt; rw [h]; rfl
theorem aSv_bt : ∀ k j, aSv k j = true → aBt k j = true := fun k j h => by unfold aBt; rw [h]; cases aYB k j <;> rfl
def COD (w : Nat → Nat) (c : Nat → Nat) (M : Mm) : Prop := ∀ l, l ≤ w 0 → M.1 50208 l = nI (c l)
def BST (w : Nat → Nat) (ta : Nat → Nat → Nat → Nat) (fm : Int) (c : Nat → Nat) (M : Mm) : Prop := M.2.1 768 29 = lz (DG w ta fm c) ∧ ∀ l, l ≤ w 0 → M.2.1 50204 l = lz (UG w ta fm c l)
theorem BST.of {w : Nat → Nat} {ta : Nat → Nat → Nat → Nat} {fm : Int} {c : Nat → Nat} {P : Nat → Nat → Bool} {M N : Mm} (h : BST w ta fm c M) (hF : Fr P M N) (h0 : P 768 29 = false) (h1 : ∀ j, P 50204 j = false) : BST w ta fm c N :=
  ⟨by rw [(hF _ _ h0).2.1]; exact h.1, fun l hl => by rw [(hF _ _ (h1 _)).2.1]; exact h.2 l hl⟩
theorem COD.of {w : Nat → Nat} {c : Nat → Nat} {P : Nat → Nat → Bool} {M N : Mm} (h : COD w c M) (hF : Fr P M N) (h1 : ∀ j, P 50208 j = false) : COD w c N := fun l hl => by rw [(hF _ _ (h1 _)).1]; exact h l hl
