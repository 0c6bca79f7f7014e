/-! The class's rows of things. -/
theorem rE_in {P : Nat → Bool} {tl : Nat} : ∀ n p, tl - p = n → ∀ q, p ≤ q → q < rE P tl p → P q = true := fun n => by
  induction n with
  | zero =>
    intro p h q a b
    rw [rE_n (by omega)] at b
    omega
  | succ n ih =>
    intro p h q a b
    by_cases e : p < tl ∧ P p = true
    · rw [rE_s e.1 e.2] at b
      by_cases g : q = p
      · rw [g]
        exact e.2
      · exact ih (p + 1) (by omega) q (by omega) b
    · rw [rE_n e] at b
      omega
theorem knd_2 {tp : Nat → Int} {tl p : Nat} (hp : p < tl) (h : knd tp tl p = 2) : enk tp tl p - p ≤ 2 ∧ ∀ k, k < enk tp tl p - p → idg tp (p + k) = true := by
  unfold knd at h
  rw [if_neg (by omega)] at h
  cases hd : idg tp p with
  | false =>
    rw [hd, if_neg (by decide)] at h
    rcases spk_or (tp := tp) p (enk tp tl p) 18 0 with a | a
    · omega
    · rw [h, isp_t] at a
      exact absurd rfl a.2.2.1.1
  | true =>
    rw [if_pos hd] at h
    by_cases g : enk tp tl p - p ≤ 2
    · refine ⟨g, fun k hk => ?_⟩
      by_cases e : k = 0
      · rw [e]
        exact hd
      · have hl : isl tp p = false := by
          cases hl : isl tp p with
          | false => rfl
          | true =>
            have a := of_decide_eq_true hl
            have b := of_decide_eq_true hd
            omega
        have he : enk tp tl p = rE (idg tp) tl (p + 1) := by
          unfold enk
          rw [if_neg (by rw [hl]; decide), if_pos hd]
        rw [he] at hk
        exact rE_in (tl := tl) _ (p + 1) rfl (p + k) (by omega) (by omega)
    · rw [if_neg g] at h
      omega
def aPt (k _ : Nat) : Bool := Nat.beq k 13313 || (Nat.beq k 13314 || Nat.beq k 13315)
def RDT (tp : Nat → Int) (tl N : Nat) (M : Mm) : Prop := (N ≤ tl ∧ bgk tp tl N = tl ∧ ∀ j, j < N → bgk tp tl j < tl) ∧ ∀ j, j ≤ N → M.2.2 13313 j = 70100 + tkk tp tl j ∧ M.1 13315 j = nI (nnk tp tl j) ∧ M.1 13314 j = nI (bgk tp tl j)
section CP2
variable {d : Nat} {M : Mm} {tp : Nat → Int} {tl : Nat}
theorem c21 (hT : CTp tl tp M) : SC (d + 5) 21 [.ref 192] M (fun vs N => vs = [] ∧ (∃ n, RDT tp tl n N) ∧ Fr aPt M N) := by
  have h4 := hT.2.1
  have hE : ∀ i, i < 18 → isE (70100 + i) = true := fun i hi => (isE_j i hi).1
  have last : ∀ b c t N (o : Option Value), b = tl → t ≤ b → c ≤ b → nbk tp tl b = bgk tp tl c → (∀ j, j < c → bgk tp tl j < tl ∧ N.2.2 13313 j = 70100 + tkk tp tl j ∧ N.1 13315 j = nI (nnk tp tl j) ∧ N.1 13314 j = nI (bgk tp tl j)) → Fr aPt M N → WM (d + 4) 21 (fun vs N => vs = [] ∧ (∃ n, RDT tp tl n N) ∧ Fr aPt M N) 6 [some (.ref 192), some (.int (nI c)), some (.int (nI b)), some (.int (nI t)), o] [] N := by
    intro b c t N o hb ht hc hB hA hF
    subst hb
    have hT2 : CTp b tp N := ⟨by rw [(hF 384 1 rfl).1]; exact hT.1, hT.2.1, hT.2.2.1, fun j hj => by rw [(hF 25600 j rfl).1]; exact hT.2.2.2 j hj⟩
    rw [nbk_tl (Nat.le_refl _)] at hB
    refine go_in (e21_6 ?_)
    rw [hT2.1]
    refine br_t (nI_le (Nat.le_refl _) (by omega)) (go_in (e21_108 ⟨nI_in2 (by omega) (by decide), rfl, nI_in2 (by omega) (by decide), nI_in2 (by omega) (by decide), ?_⟩))
    rw [nI_c (by omega), show (sI (sR N 13313 c 70100) 13315 c (nI 0)).1 384 1 = nI b from (sI_k _ _ (by decide)).trans hT2.1]
    have hk : knd tp b b = 0 := if_pos (Nat.le_refl _)
    refine ⟨rfl, rfl, ⟨c, ⟨hc, hB.symm, fun j hj => (hA j hj).1⟩, fun j hj => ?_⟩, ((hF.sR rfl).sI rfl).sI rfl⟩
    by_cases e : j = c
    · subst e
      refine ⟨?_, ?_, ?_⟩
      · show (if 13313 = 13313 ∧ j = j then 70100 else N.2.2 13313 j) = _
        rw [if_pos ⟨rfl, rfl⟩]
        unfold tkk
        rw [← hB, hk]
      · rw [sI_k _ _ (by decide), sI_e]
        unfold nnk nmk
        rw [← hB, hk]
        rfl
      · rw [sI_e, ← hB]
    · obtain ⟨-, a1, a2, a3⟩ := hA j (by omega)
      refine ⟨?_, ?_, ?_⟩
      · show (if 13313 = 13313 ∧ j = c then 70100 else N.2.2 13313 j) = _
        rw [if_neg (fun q => e q.2)]
        exact a1
      · rw [sI_k _ _ (by decide), sI_j _ _ e]
        exact a2
      · rw [sI_j _ _ e, sI_k _ _ (by decide)]
        exact a3
  have loop : ∀ n b c t N (o : Option Value), tl - b ≤ n → b ≤ tl → t ≤ b → c ≤ b → nbk tp tl b = bgk tp tl c → (∀ j, j < c → bgk tp tl j < tl ∧ N.2.2 13313 j = 70100 + tkk tp tl j ∧ N.1 13315 j = nI (nnk tp tl j) ∧ N.1 13314 j = nI (bgk tp tl j)) → Fr aPt M N → WM (d + 4) 21 (fun vs N => vs = [] ∧ (∃ n, RDT tp tl n N) ∧ Fr aPt M N) 6 [some (.ref 192), some (.int (nI c)), some (.int (nI b)), some (.int (nI t)), o] [] N := by
    intro n
    induction n with
    | zero =>
      intro b c t N o hn hb ht hc hB hA hF
      exact last b c t N o (by omega) ht hc hB hA hF
    | succ n ih =>
      intro b c t N o hn hb ht hc hB hA hF
      by_cases hbt : b = tl
      · exact last b c t N o hbt ht hc hB hA hF
      have hT2 : CTp tl tp N := ⟨by rw [(hF 384 1 rfl).1]; exact hT.1, hT.2.1, hT.2.2.1, fun j hj => by rw [(hF 25600 j rfl).1]; exact hT.2.2.2 j hj⟩
      have hlt : b < tl := by omega
      have hr := hT.2.2.1 b
      have e1 := enk_gt (tp := tp) (tl := tl) (p := b)
      have e2 := enk_le (tp := tp) hlt
      refine go_in (e21_6 ?_)
      rw [hT2.1]
      refine br_f (nI_ge hlt (by omega)) (br_f (nI_ge (by omega) (by decide)) (upC (d := d + 2) (c22 hT2 hlt (e21_33 ⟨nI_in2 (by omega) (by decide), ?_⟩)) (by omega)))
      rw [nI_c (by omega), hT2.2.2.2 b hlt, iz_n 32, iz_eq ⟨by omega, by omega⟩ ⟨by decide, by decide⟩]
      by_cases g : tp b = ((32 : Nat) : Int)
      · refine ⟨fun _ => go_in (e21_102 ?_), fun q => absurd g q⟩
        have hbl : ibl tp b = true := decide_eq_true ⟨by omega, by omega⟩
        have hl : isl tp b = false := decide_eq_false (by omega)
        have hd : idg tp b = false := decide_eq_false (by omega)
        have he : enk tp tl b = b + 1 := by
          unfold enk
          rw [if_neg (by rw [hl]; decide), if_neg (by rw [hd]; decide)]
        have hnb : nbk tp tl b = nbk tp tl (b + 1) := rE_s hlt hbl
        rw [he, nI_s]
        exact ih (b + 1) c (t + 1) N _ (by omega) (by omega) (by omega) (by omega) (by rw [← hnb]; exact hB) hA hF
      · have hbl : ibl tp b = false := decide_eq_false (by omega)
        have hnb : nbk tp tl b = b := rE_n (fun q => by rw [hbl] at q; cases q.2)
        rw [hnb] at hB
        have hk := knd_lt (tp := tp) (tl := tl) (p := b)
        refine ⟨fun q => absurd q g, fun _ => c24 hT2 hlt (e21_61 ?_)⟩
        rw [nI_c (by omega)]
        have eR : (sR N 13313 c (70100 + knd tp tl b)).2.2 13313 c = 70100 + knd tp tl b := if_pos ⟨rfl, rfl⟩
        rw [eR]
        have fin : ∀ v, v = nnk tp tl c → WM (d + 4) 21 (fun vs N => vs = [] ∧ (∃ n, RDT tp tl n N) ∧ Fr aPt M N) 90 [some (.ref 192), some (.int (nI c)), some (.int (nI (enk tp tl b))), some (.int (nI t)), some (.int (nI b))] [.int (nI v), .int (nI c), .ref 13315] (sR N 13313 c (70100 + knd tp tl b)) := by
          intro v hv
          refine go_in (e21_90 ⟨nI_in2 (by omega) (by decide), nI_in2 (by omega) (by decide), go_in (e21_102 ?_)⟩)
          rw [nI_c (by omega), nI_s, nI_s]
          refine ih (enk tp tl b) (c + 1) (t + 1) _ _ (by omega) (by omega) (by omega) (by omega) ?_ (fun j hj => ?_) (((hF.sR rfl).sI rfl).sI rfl)
          · rw [bgk_s (by rw [← hB]; exact hlt), ← hB]
          · by_cases e : j = c
            · subst e
              refine ⟨by rw [← hB]; exact hlt, ?_, ?_, ?_⟩
              · show (if 13313 = 13313 ∧ j = j then 70100 + knd tp tl b else N.2.2 13313 j) = _
                rw [if_pos ⟨rfl, rfl⟩]
                unfold tkk
                rw [← hB]
              · rw [sI_k _ _ (by decide), sI_e, hv]
              · rw [sI_e, hB]
            · obtain ⟨a0, a1, a2, a3⟩ := hA j (by omega)
              refine ⟨a0, ?_, ?_, ?_⟩
              · show (if 13313 = 13313 ∧ j = c then 70100 + knd tp tl b else N.2.2 13313 j) = _
                rw [if_neg (fun q => e q.2)]
                exact a1
              · rw [sI_k _ _ (by decide), sI_j _ _ e]
                exact a2
              · rw [sI_j _ _ e, sI_k _ _ (by decide)]
                exact a3
        refine ⟨nI_in2 (by omega) (by decide), hE _ hk, nI_in2 (by omega) (by decide), hE _ hk, ⟨hE _ hk, rfl⟩, fun q => ?_, fun q => ?_⟩
        · refine go_in (e21_89 (fin 0 ?_))
          unfold nnk nmk
          rw [← hB, if_neg (show ¬ knd tp tl b = 2 from fun z => q (by omega))]
        · have k2 : knd tp tl b = 2 := by omega
          obtain ⟨a1, a2⟩ := knd_2 hlt k2
          have ev : nuV tp b (enk tp tl b - b) = nnk tp tl c := by
            unfold nnk nmk
            rw [← hB, if_pos k2]
          have hT3 : CTp tl tp (sR N 13313 c (70100 + knd tp tl b)) := hT2
          have t := c23 (d := d) (Q := fun vs N2 => wpl (SC (d + 4)) (ST (d + 4)) (RP fun vs N => vs = [] ∧ (∃ n, RDT tp tl n N) ∧ Fr aPt M N) (Wp (SC (d + 4)) (ST (d + 4)) (RP fun vs N => vs = [] ∧ (∃ n, RDT tp tl n N) ∧ Fr aPt M N) hdN (txOf 21)) (hdN (Wp (SC (d + 4)) (ST (d + 4)) (RP fun vs N => vs = [] ∧ (∃ n, RDT tp tl n N) ∧ Fr aPt M N) hdN (txOf 21))) s21_86 0 [some (.ref 192), some (.int (nI c)), some (.int (nI (enk tp tl b))), some (.int (nI t)), some (.int (nI b))] (vs ++ [.int (nI c), .ref 13315]) N2) hT3 a1 (by omega) a2 (e21_86 (fin _ ev))
          rw [show b + (enk tp tl b - b) = enk tp tl b by omega] at t
          exact upC t (by omega)
  exact sC (by decide) rfl (go_in (e21_0 (loop tl 0 0 0 M _ (by omega) (Nat.zero_le _) (Nat.le_refl _) (Nat.le_refl _) rfl (fun j hj => absurd hj (Nat.not_lt_zero _)) Fr.rf)))
end CP2
