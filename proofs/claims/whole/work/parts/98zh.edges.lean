/-! From which cost on an answer differs. -/
def eC (P : Nat → Bool) (own : Nat) : Nat → Nat → Int
  | 0, _ => -1
  | k + 1, t => if (0 ≤ (if t % 2 = 0 then (own : Int) - (t / 2 : Nat) else (own : Int) + (t / 2 : Nat)) ∧ (if t % 2 = 0 then (own : Int) - (t / 2 : Nat) else (own : Int) + (t / 2 : Nat)) < 10) ∧ P (if t % 2 = 0 then (own : Int) - (t / 2 : Nat) else (own : Int) + (t / 2 : Nat)).toNat = true then (if t % 2 = 0 then (own : Int) - (t / 2 : Nat) else (own : Int) + (t / 2 : Nat)) else eC P own k (t + 1)
def eR (P : Nat → Bool) (own : Nat) : Nat → Nat → Int → Int
  | 0, _, fo => fo
  | k + 1, c, fo => if c = own ∨ (0 ≤ fo ∧ max (fo - own) (-(fo - own)) ≤ max ((c : Int) - own) (-((c : Int) - own))) then eR P own k (c + 1) fo else if P c = true then eR P own k (c + 1) c else eR P own k (c + 1) fo
theorem eC_cong {P P' : Nat → Bool} (h : ∀ c, c < 10 → P c = P' c) (own : Nat) : ∀ k t, eC P own k t = eC P' own k t
  | 0, _ => rfl
  | k + 1, t => by
    unfold eC
    rw [eC_cong h own k (t + 1)]
    generalize (if t % 2 = 0 then (own : Int) - (t / 2 : Nat) else (own : Int) + (t / 2 : Nat)) = c
    by_cases hc : 0 ≤ c ∧ c < 10
    · rw [h c.toNat (by omega)]
    · rw [if_neg (fun q => hc q.1), if_neg (fun q => hc q.1)]
theorem eR_cong {P P' : Nat → Bool} (h : ∀ c, c < 10 → P c = P' c) (own : Nat) : ∀ k c fo, c + k ≤ 10 → eR P own k c fo = eR P' own k c fo
  | 0, _, _, _ => rfl
  | k + 1, c, fo, hk => by
    unfold eR
    rw [eR_cong h own k (c + 1) fo (by omega), eR_cong h own k (c + 1) c (by omega), h c (by omega)]
def bl10 (a b c d e f g h i j : Bool) (n : Nat) : Bool := [a, b, c, d, e, f, g, h, i, j].getD n false
theorem ed_dec : ∀ own, own < 10 → ∀ a b c d e f g h i j : Bool, eC (bl10 a b c d e f g h i j) own 18 2 = eR (bl10 a b c d e f g h i j) own 10 0 (-1) := by decide +kernel
theorem ed_eq (P : Nat → Bool) {own : Nat} (ho : own < 10) : eR P own 10 0 (-1) = eC P own 18 2 := by
  have h : ∀ c, c < 10 → P c = bl10 (P 0) (P 1) (P 2) (P 3) (P 4) (P 5) (P 6) (P 7) (P 8) (P 9) c := fun c hc => by
    rcases c with _ | _ | _ | _ | _ | _ | _ | _ | _ | _ | c
    all_goals first | rfl | omega
  rw [eR_cong h own 10 0 (-1) (by omega), eC_cong h own 18 2]
  exact (ed_dec own ho _ _ _ _ _ _ _ _ _ _).symm
theorem half20 : ∀ t, t < 20 → nI t / nI 2 = nI (t / 2) ∧ (nI t - nI t / nI 2 * nI 2 = 0 ↔ t % 2 = 0) := by decide +kernel
/-- with another cost of a farm -/
def wC (w : Nat → Nat) (f c i : Nat) : Nat := if i = 20 + 5 * f then c else w i
theorem wC_v {w : Nat → Nat} {f c i : Nat} (h : i ≠ 20 + 5 * f) : wC w f c i = w i := if_neg h
theorem WB.co {w : Nat → Nat} (hb : WB w) {f c : Nat} (hf : f < w 8) (hc : c ≤ 9) : WB (wC w f c) := by
  have hf3 : f < 3 := by have := (wb_w hb).2.1; omega
  have e : ∀ i, i ≠ 20 + 5 * f → wC w f c i = w i := fun i h => wC_v h
  obtain ⟨a, ⟨b1, b2⟩, c1, c2, c3, g, h, i, j⟩ := hb
  unfold WB
  rw [e 0 (by omega), e 1 (by omega), e 2 (by omega), e 3 (by omega), e 4 (by omega), e 5 (by omega), e 6 (by omega), e 7 (by omega), e 8 (by omega), e 9 (by omega), e 10 (by omega), e 11 (by omega), e 12 (by omega), e 13 (by omega), e 14 (by omega), e 15 (by omega), e 16 (by omega)]
  refine ⟨a, ⟨fun j hj => ?_, b2⟩, c1, c2, c3, fun f' hf' => ?_, fun r hr => ?_, fun b hb => ?_, fun j' hj => ?_⟩
  · rw [e _ (by omega)]; exact b1 j hj
  · have hg := g f' hf'
    rw [e (17 + 5 * f') (by omega), e (18 + 5 * f') (by omega), e (19 + 5 * f') (by omega), e (21 + 5 * f') (by omega)]
    refine ⟨hg.1, ?_, hg.2.2⟩
    unfold wC
    split
    · exact hc
    · exact hg.2.1
  · rw [e _ (by omega), e _ (by omega), e _ (by omega), e _ (by omega), e _ (by omega)]; exact h r hr
  · rw [e _ (by omega), e _ (by omega), e _ (by omega)]; exact i b hb
  · rw [e _ (by omega)]; exact j j' hj
theorem wC_own (w : Nat → Nat) (f : Nat) : wC w f (cstW w f) = w := by
  funext i
  unfold wC cstW
  split
  · rename_i h; rw [h]
  · rfl
section WC
variable {w : Nat → Nat} {ta : Nat → Nat → Nat → Nat} {f c : Nat}
theorem yW_co (hf : f < 3) (r : Nat) : yW (wC w f c) r = yW w r := by
  funext i
  unfold yW
  rw [wC_v (i := 0) (by omega), wC_v (i := 8) (by omega), wC_v (i := 32 + 5 * r + 1) (by omega), wC_v (i := 6) (by omega), wC_v (i := 7) (by omega), wC_v (i := 2) (by omega), wC_v (i := 3) (by omega), wC_v (i := 4) (by omega), wC_v (i := 5) (by omega)]
theorem kW_co : kW (wC w f c) = kW w := by
  unfold kW
  rw [wC_v (i := 1) (by omega)]
theorem waW_co : waW (wC w f c) ta = waW w ta := by
  funext b l g
  unfold waW wbd
  rw [wC_v (i := 21 + 5 * g) (by omega), wC_v (i := 11) (by omega), wC_v (i := 0) (by omega)]
theorem foW_co {r g l n : Nat} (hf : f < 3) (hn : n < 4) : foW (wC w f c) r (cstW (wC w f c)) g l n = if g = f then foW w r (fun _ => c) g l n else foW w r (cstW w) g l n := by
  have e1 : brg (wC w f c) g n = brg w g n := by
    unfold brg
    split
    · rfl
    · exact wC_v (by omega)
  have e2 : cstW (wC w f c) g = if g = f then c else cstW w g := by
    unfold cstW wC
    by_cases h : g = f
    · rw [if_pos h, if_pos (by omega)]
    · rw [if_neg h, if_neg (by omega)]
  unfold foW plW
  rw [e1, e2, wC_v (i := 0) (by omega), wC_v (i := 32 + 5 * r + 0) (by omega), wC_v (i := 32 + 5 * r + 2) (by omega), wC_v (i := 32 + 5 * r + 3) (by omega), wC_v (i := 32 + 5 * r + 4) (by omega)]
  by_cases h : g = f
  · rw [if_pos h, if_pos h]
  · rw [if_neg h, if_neg h]
end WC
/-- whether the answer differs at a cost -/
def edP (w : Nat → Nat) (ta : Nat → Nat → Nat → Nat) (f l c : Nat) : Bool := decide (AG (wC w f c) ta (f : Int) l ≠ AG w ta (f : Int) l)
