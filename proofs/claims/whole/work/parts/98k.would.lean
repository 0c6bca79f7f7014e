/-! The judge: the class's, the first. -/
section WF0
variable {d : Nat} {M : Mm} {y : Nat → Nat} {k : Int} {p q : Nat} {fo : Nat → Nat → Nat → Int} {wa : Nat → Nat → Nat → Nat}
theorem c18_0 (hb : YB y k) (hp : p < q) (hq : q ≤ 5) (hwa3 : ∀ b l f, wa b l f ≤ 3) (hfo : ∀ f l n, f < y 2 → l ≤ y 0 → n < 4 → bd 2448 (fo f l n)) (hJ : JS y k p q fo wa M) {f l : Nat} (hf : f < y 2) (hl : l ≤ y 0) : SC (d + 6) 18 [.ref 128, .int (nI f), .int (nI l), .int (nI 0)] M (fun vs N => vs = [.int (nI (cond (anB (eBY y k p q fo wa 0 f l) 4) 1 0))] ∧ Fr aPumpBy M N) := by
  have h2 := hb.2.1.1
  have h0 := hb.1.2.1
  refine sC (by decide) rfl (go_in (e18_0 ⟨fun e => absurd rfl e, fun _ => go_in (e18_15 ?_)⟩))
  obtain ⟨C, hS, hhb, hu⟩ := hJ.2.1
  have hu1 : M.2.1 1032 (f * 8 + l) = lz (uY y p q (loY y k (wa 0)) (paY y fo (wa 0) f) l) := hu f hf l (show l < y 0 + 1 by omega)
  rw [nI_mul, nI_add, nI_c (by omega), hu1]
  refine ⟨nI_in2 (by omega) (by decide), useC (upC (c67 (d := d) (b := 0) hb hJ.1.2.2 hl (by omega)) (by omega)) fun vs N h => ?_⟩
  obtain ⟨rfl, hF, hv⟩ := h
  have hF0 : Fr aPumpBy M N := hF.up fun k j q => by unfold aPumpBy; rw [q]; rfl
  refine e18_40 ⟨nI_in2 (by omega) (by decide), ?_⟩
  rw [nI_c (by omega), hv f hf]
  have loop : ∀ k' (o3 o9 o10 o11 : Option Value) n N, n + k' = 4 → Fr aPumpBy M N → (∀ g, g < y 2 → g ≠ f → N.1 41995 g = nI (wa 0 l g)) → (∀ m, m < n → eBY y k p q fo wa 0 f l m = false) → WM (d + 5) 18 (fun vs N => vs = [.int (nI (cond (anB (eBY y k p q fo wa 0 f l) 4) 1 0))] ∧ Fr aPumpBy M N) 54 [some (.ref 128), some (.int (nI f)), some (.int (nI l)), o3, some (.ref 0), some (.long (lz (uY y p q (loY y k (wa 0)) (paY y fo (wa 0) f) l))), none, some (.int (nI (wa 0 l f))), some (.int (nI n)), o9, o10, o11] [] N := by
    intro k'
    induction k' with
    | zero =>
      intro o3 o9 o10 o11 n N hn hF hv hd
      have hn : n = 4 := by omega
      subst hn
      refine go_in (e18_54 (br_t (nI_le (Nat.le_refl _) (by decide)) (go_in (e18_162 ?_))))
      rw [anB_f hd]
      exact ⟨Or.inl rfl, rfl, rfl, hF⟩
    | succ k' ih =>
      intro o3 o9 o10 o11 n N hn hF hv hd
      have hw3 := hwa3 0 l f
      have next : ∀ (o3 o9 o10 o11 : Option Value) N', Fr aPumpBy M N' → (∀ g, g < y 2 → g ≠ f → N'.1 41995 g = nI (wa 0 l g)) → eBY y k p q fo wa 0 f l n = false → WM (d + 5) 18 (fun vs N => vs = [.int (nI (cond (anB (eBY y k p q fo wa 0 f l) 4) 1 0))] ∧ Fr aPumpBy M N) 156 [some (.ref 128), some (.int (nI f)), some (.int (nI l)), o3, some (.ref 0), some (.long (lz (uY y p q (loY y k (wa 0)) (paY y fo (wa 0) f) l))), none, some (.int (nI (wa 0 l f))), some (.int (nI n)), o9, o10, o11] [] N' := by
        intro o3 o9 o10 o11 N' hF' hv' he
        refine go_in (e18_156 ?_)
        rw [nI_s]
        refine ih _ _ _ _ (n + 1) N' (by omega) hF' hv' fun m hm => ?_
        by_cases e : m = n
        · subst e; exact he
        · exact hd m (by omega)
      have hit : eBY y k p q fo wa 0 f l n = true → anB (eBY y k p q fo wa 0 f l) 4 = true := fun h => anB_t h (by omega)
      have hJN := hJ.of hF
      refine go_in (e18_54 (br_f (nI_ge (by omega) (by decide)) ⟨fun e => go_in (e18_74 ?_), fun e => ?_⟩))
      · rw [iz_n, iz_n, iz_le ⟨by omega, by omega⟩ ⟨by omega, by omega⟩] at e
        refine we18_00 hb hp hq hwa3 hfo hf hl (by omega) hF hJN hv ?_ next hit _ _ _ _
        unfold s18
        rw [if_neg]
        rintro (z | z)
        · exact absurd z (by decide)
        · omega
      · rw [iz_n, iz_n, iz_le ⟨by omega, by omega⟩ ⟨by omega, by omega⟩] at e
        refine we18_01 hb hp hq hwa3 hfo hf hl (by omega) hF hJN hv ?_ next hit _ _ _ _
        unfold s18
        rw [if_pos (Or.inr (by omega))]
  exact loop 4 _ _ _ _ 0 N (by omega) hF0 (fun g hg _ => hv g hg) fun m hm => absurd hm (Nat.not_lt_zero m)
end WF0
section WF1
variable {d : Nat} {M : Mm} {y : Nat → Nat} {k : Int} {p q : Nat} {fo : Nat → Nat → Nat → Int} {wa : Nat → Nat → Nat → Nat}
theorem c18_1 (hb : YB y k) (hp : p < q) (hq : q ≤ 5) (hwa3 : ∀ b l f, wa b l f ≤ 3) (hfo : ∀ f l n, f < y 2 → l ≤ y 0 → n < 4 → bd 2448 (fo f l n)) (hJ : JS y k p q fo wa M) {f l : Nat} (hf : f < y 2) (hl : l ≤ y 0) : SC (d + 6) 18 [.ref 128, .int (nI f), .int (nI l), .int (nI 1)] M (fun vs N => vs = [.int (nI (cond (anB (eBY y k p q fo wa 1 f l) 4) 1 0))] ∧ Fr aPumpBy M N) := by
  have h2 := hb.2.1.1
  have h0 := hb.1.2.1
  refine sC (by decide) rfl (go_in (e18_0 ⟨fun _ => go_in (e18_11 (go_in (e18_15_1 ?_))), fun e => absurd e (by decide)⟩))
  obtain ⟨C, hS, hhb, hu⟩ := hJ.2.2
  have hu1 : M.2.1 1096 (f * 8 + l) = lz (uY y p q (loY y k (wa 1)) (paY y fo (wa 1) f) l) := hu f hf l (show l < y 0 + 1 by omega)
  rw [nI_mul, nI_add, nI_c (by omega), hu1]
  refine ⟨nI_in2 (by omega) (by decide), useC (upC (c67 (d := d) (b := 1) hb hJ.1.2.2 hl (by omega)) (by omega)) fun vs N h => ?_⟩
  obtain ⟨rfl, hF, hv⟩ := h
  have hF0 : Fr aPumpBy M N := hF.up fun k j q => by unfold aPumpBy; rw [q]; rfl
  refine e18_40_1 ⟨nI_in2 (by omega) (by decide), ?_⟩
  rw [nI_c (by omega), hv f hf]
  have loop : ∀ k' (o3 o9 o10 o11 : Option Value) n N, n + k' = 4 → Fr aPumpBy M N → (∀ g, g < y 2 → g ≠ f → N.1 41995 g = nI (wa 1 l g)) → (∀ m, m < n → eBY y k p q fo wa 1 f l m = false) → WM (d + 5) 18 (fun vs N => vs = [.int (nI (cond (anB (eBY y k p q fo wa 1 f l) 4) 1 0))] ∧ Fr aPumpBy M N) 54 [some (.ref 128), some (.int (nI f)), some (.int (nI l)), o3, some (.ref 1), some (.long (lz (uY y p q (loY y k (wa 1)) (paY y fo (wa 1) f) l))), none, some (.int (nI (wa 1 l f))), some (.int (nI n)), o9, o10, o11] [] N := by
    intro k'
    induction k' with
    | zero =>
      intro o3 o9 o10 o11 n N hn hF hv hd
      have hn : n = 4 := by omega
      subst hn
      refine go_in (e18_54_1 (br_t (nI_le (Nat.le_refl _) (by decide)) (go_in (e18_162 ?_))))
      rw [anB_f hd]
      exact ⟨Or.inl rfl, rfl, rfl, hF⟩
    | succ k' ih =>
      intro o3 o9 o10 o11 n N hn hF hv hd
      have hw3 := hwa3 1 l f
      have next : ∀ (o3 o9 o10 o11 : Option Value) N', Fr aPumpBy M N' → (∀ g, g < y 2 → g ≠ f → N'.1 41995 g = nI (wa 1 l g)) → eBY y k p q fo wa 1 f l n = false → WM (d + 5) 18 (fun vs N => vs = [.int (nI (cond (anB (eBY y k p q fo wa 1 f l) 4) 1 0))] ∧ Fr aPumpBy M N) 156 [some (.ref 128), some (.int (nI f)), some (.int (nI l)), o3, some (.ref 1), some (.long (lz (uY y p q (loY y k (wa 1)) (paY y fo (wa 1) f) l))), none, some (.int (nI (wa 1 l f))), some (.int (nI n)), o9, o10, o11] [] N' := by
        intro o3 o9 o10 o11 N' hF' hv' he
        refine go_in (e18_156_1 ?_)
        rw [nI_s]
        refine ih _ _ _ _ (n + 1) N' (by omega) hF' hv' fun m hm => ?_
        by_cases e : m = n
        · subst e; exact he
        · exact hd m (by omega)
      have hit : eBY y k p q fo wa 1 f l n = true → anB (eBY y k p q fo wa 1 f l) 4 = true := fun h => anB_t h (by omega)
      have hJN := hJ.of hF
      have hs : s18 wa 1 f l n = 1 := if_pos (Or.inl rfl)
      exact go_in (e18_54_1 (br_f (nI_ge (by omega) (by decide)) ⟨fun e => go_in (e18_74_1 (we18_11 hb hp hq hwa3 hfo hf hl (by omega) hF hJN hv hs next hit _ _ _ _)), fun e => we18_11 hb hp hq hwa3 hfo hf hl (by omega) hF hJN hv hs next hit _ _ _ _⟩))
  exact loop 4 _ _ _ _ 0 N (by omega) hF0 (fun g hg _ => hv g hg) fun m hm => absurd hm (Nat.not_lt_zero m)
end WF1
