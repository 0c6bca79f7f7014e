/-! The class's reader: its state, its steps, its sums. -/
theorem spk_0 {tp : Nat → Int} {p e : Nat} : spk tp p e 18 0 ≠ 0 := fun h => by
  rcases spk_or (tp := tp) p e 18 0 with a | a
  · omega
  · rw [h, isp_t] at a
    exact absurd rfl a.2.2.1.1
theorem knd_0 {tp : Nat → Int} {tl p : Nat} : knd tp tl p = 0 ↔ tl ≤ p := by
  unfold knd
  by_cases h : tl ≤ p
  · rw [if_pos h]
    exact ⟨fun _ => h, fun _ => rfl⟩
  · rw [if_neg h]
    refine ⟨fun q => ?_, fun q => absurd q h⟩
    split at q
    · split at q <;> cases q
    · exact absurd q spk_0
theorem tkk_lt {tp : Nat → Int} {tl i : Nat} : tkk tp tl i < 18 := knd_lt
theorem nnk_le {tp : Nat → Int} {tl : Nat} (i : Nat) : nnk tp tl i ≤ 99 := by
  unfold nnk nmk
  split
  · rename_i h
    have hp : bgk tp tl i < tl := by
      have := bgk_le (tp := tp) (tl := tl) i
      by_cases e : bgk tp tl i < tl
      · exact e
      · rw [knd_0.mpr (by omega)] at h
        cases h
    obtain ⟨a, b⟩ := knd_2 hp h
    exact (nuV_le _ b a).1
  · exact Nat.zero_le _
theorem nnk_0 {tp : Nat → Int} {tl i : Nat} (h : tkk tp tl i ≠ 2) : nnk tp tl i = 0 := if_neg h
def NOK (tp : Nat → Int) (tl N : Nat) : Prop := N ≤ tl ∧ bgk tp tl N = tl ∧ ∀ j, j < N → bgk tp tl j < tl
theorem bgk_N {tp : Nat → Int} {tl N : Nat} (h : NOK tp tl N) : ∀ k, bgk tp tl (N + k) = tl
  | 0 => h.2.1
  | k + 1 => by
    show bgk tp tl (N + k + 1) = tl
    rw [bgk_e (by rw [bgk_N h k]; omega)]
    exact bgk_N h k
theorem tkk_N {tp : Nat → Int} {tl N : Nat} (h : NOK tp tl N) (i : Nat) (hi : tkk tp tl i ≠ 0) : i < N := by
  by_cases e : i < N
  · exact e
  · have := bgk_N h (i - N)
    rw [show N + (i - N) = i by omega] at this
    exact absurd (knd_0.mpr (by omega)) hi
theorem tkk_0 {tp : Nat → Int} {tl N : Nat} (h : NOK tp tl N) {i : Nat} (hi : tkk tp tl i = 0) : N ≤ i := by
  by_cases e : i < N
  · have := h.2.2 i e
    have := knd_0.mp hi
    omega
  · omega
def RdC (tp : Nat → Int) (tl N T : Nat) (M : Mm) : Prop := NOK tp tl N ∧ (∀ j, j ≤ N → M.2.2 13313 j = 70100 + tkk tp tl j ∧ M.1 13315 j = nI (nnk tp tl j) ∧ M.1 13314 j = nI (bgk tp tl j)) ∧ M.1 192 6 = nI T
def Sst (tp : Nat → Int) (tl N T : Nat) (s : Nat ⊕ Nat) (M : Mm) : Prop := RdC tp tl N T M ∧ match s with
  | .inl e => M.2.2 192 5 = 70100 ∧ (∃ a, M.1 192 4 = nI a ∧ a ≤ N) ∧ M.1 192 7 = nI (bgk tp tl e) ∧ e ≤ N
  | .inr i => M.2.2 192 5 = 70100 + tkk tp tl i ∧ M.1 192 4 = nI i ∧ i ≤ N ∧ M.1 192 7 = iz (-1)
def aRst (k j : Nat) : Bool := Nat.beq k 192 && (Nat.beq j 4 || (Nat.beq j 5 || Nat.beq j 7))
def aRdd (k j : Nat) : Bool := aRst k j || (Nat.beq k 13320 || Nat.beq k 13321)
/-- the thing there is -/
def thS (tp : Nat → Int) (tl : Nat) : Nat ⊕ Nat → Nat
  | .inl _ => 0
  | .inr i => tkk tp tl i
def stS (tp : Nat → Int) (tl : Nat) : Nat ⊕ Nat → Nat ⊕ Nat
  | .inl e => .inl e
  | .inr i => .inr (if tkk tp tl i = 0 then i else i + 1)
def reS : Nat ⊕ Nat → Nat ⊕ Nat
  | .inl e => .inl e
  | .inr i => .inl i
def taS (tp : Nat → Int) (tl j : Nat) : Nat ⊕ Nat → Nat ⊕ Nat
  | .inl e => .inl e
  | .inr i => if tkk tp tl i = j then .inr (i + 1) else .inl i
def psS {σ : Type} : PR σ → Nat ⊕ Nat
  | .inl e => .inl e
  | .inr (j, _, _) => .inr j
def lfS {σ : Type} (P : Nat → PR σ) : Nat ⊕ Nat → PR σ
  | .inl e => .inl e
  | .inr i => P i
theorem RdC.of {tp : Nat → Int} {tl N T : Nat} {P : Nat → Nat → Bool} {M M' : Mm} (h : RdC tp tl N T M) (hF : Fr P M M') (h1 : ∀ j, P 13313 j = false ∧ P 13314 j = false ∧ P 13315 j = false) (h2 : P 192 6 = false) : RdC tp tl N T M' :=
  ⟨h.1, fun j hj => by rw [(hF _ _ (h1 j).1).2.2, (hF _ _ (h1 j).2.2).1, (hF _ _ (h1 j).2.1).1]; exact h.2.1 j hj, by rw [(hF _ _ h2).1]; exact h.2.2⟩
section CRD
variable {d : Nat} {M : Mm} {tp : Nat → Int} {tl N T : Nat}
theorem Sst.th {s : Nat ⊕ Nat} (h : Sst tp tl N T s M) : M.2.2 192 5 = 70100 + thS tp tl s := by
  match s, h with
  | .inl e, h => exact h.2.1
  | .inr i, h => exact h.2.1
theorem thS_lt {s : Nat ⊕ Nat} : thS tp tl s < 18 := by
  match s with
  | .inl e => exact (by decide : 0 < 18)
  | .inr i => exact tkk_lt
theorem isE_t {s : Nat ⊕ Nat} (h : Sst tp tl N T s M) : isE (M.2.2 192 5) = true := by
  rw [h.th]
  exact (isE_j _ thS_lt).1
theorem th_q {s : Nat ⊕ Nat} (h : Sst tp tl N T s M) {j : Nat} : M.2.2 192 5 = 70100 + j ↔ thS tp tl s = j := by
  rw [h.th]
  omega
theorem NOK.le (h : NOK tp tl N) (h4 : tl ≤ 400) : N ≤ 400 := by
  have := h.1
  omega
theorem stS_0 {i : Nat} (h : tkk tp tl i = 0) : stS tp tl (.inr i) = .inr i := congrArg Sum.inr (if_pos h)
theorem stS_1 {i : Nat} (h : ¬ tkk tp tl i = 0) : stS tp tl (.inr i) = .inr (i + 1) := congrArg Sum.inr (if_neg h)
theorem taS_1 {i j : Nat} (h : tkk tp tl i = j) : taS tp tl j (.inr i) = .inr (i + 1) := if_pos h
theorem taS_0 {i j : Nat} (h : ¬ tkk tp tl i = j) : taS tp tl j (.inr i) = .inl i := if_neg h
theorem k36 (h4 : tl ≤ 400) {s : Nat ⊕ Nat} (hs : Sst tp tl N T s M) {Q : List Value → Mm → Prop} (k : ∀ M', Sst tp tl N T (stS tp tl s) M' → Fr aRst M M' → Q [] M') : SC (d + 1) 36 [.ref 192] M Q := by
  have hE := isE_t hs
  have hn := hs.1.1.le h4
  refine sC (by decide) rfl (go_in (e36_0 ⟨hE, ⟨hE, rfl⟩, fun q => go_in (e36_43 ⟨rfl, ?_⟩), fun q => ?_⟩))
  · have q0 := (th_q hs (j := 0)).mp q
    match s, hs, k, q0 with
    | .inl e, hs, k, _ => exact k M hs Fr.rf
    | .inr i, hs, k, q0 =>
      have q0 : tkk tp tl i = 0 := q0
      have k2 := k M
      rw [stS_0 q0] at k2
      exact k2 hs Fr.rf
  · have q0 : thS tp tl s ≠ 0 := fun z => q ((th_q hs (j := 0)).mpr z)
    match s, hs, k, q0 with
    | .inl e, hs, k, q0 => exact absurd rfl q0
    | .inr i, hs, k, q0 =>
      have q0 : tkk tp tl i ≠ 0 := q0
      obtain ⟨hR, h1, h2, h3, h7⟩ := id hs
      have hi := tkk_N hR.1 i q0
      rw [h2]
      refine br_f (nI_ge (by omega) (by decide)) ?_
      have e4 : (sI M 192 4 (nI i + nI 1)).1 192 4 = nI (i + 1) := by rw [sI_e, nI_add]
      rw [e4, nI_c (by omega)]
      have et : (sI M 192 4 (nI i + nI 1)).2.2 13313 (i + 1) = 70100 + tkk tp tl (i + 1) := (hR.2.1 (i + 1) (by omega)).1
      rw [et]
      have hE2 := (isE_j _ (tkk_lt (tp := tp) (tl := tl) (i := i + 1))).1
      refine ⟨nI_in2 (by omega) (by decide), hE2, hE2, go_in (e36_43 ⟨rfl, ?_⟩)⟩
      have k2 := k (sR (sI M 192 4 (nI i + nI 1)) 192 5 (70100 + tkk tp tl (i + 1)))
      rw [stS_1 q0] at k2
      have hF : Fr aRst M (sR (sI M 192 4 (nI i + nI 1)) 192 5 (70100 + tkk tp tl (i + 1))) := (Fr.rf.sI rfl).sR rfl
      exact k2 ⟨hR.of hF (fun j => ⟨rfl, rfl, rfl⟩) rfl, sR_at _ _ _ _, e4, by omega, (show (sI M 192 4 (nI i + nI 1)).1 192 7 = iz (-1) from (sI_j M _ (by decide)).trans h7)⟩ hF
theorem k35 (h4 : tl ≤ 400) {s : Nat ⊕ Nat} (hs : Sst tp tl N T s M) {Q : List Value → Mm → Prop} (k : ∀ M', Sst tp tl N T (reS s) M' → Fr aRst M M' → Q [] M') : SC (d + 1) 35 [.ref 192] M Q := by
  have hn := hs.1.1.le h4
  have hb : ∀ i, bgk tp tl i ≤ 400 := fun i => Nat.le_trans (bgk_le i) h4
  refine sC (by decide) rfl (go_in (e35_0 ?_))
  rw [nI_neg1]
  match s, hs, k with
  | .inl e, hs, k =>
    obtain ⟨hR, h1, h2, h7, he⟩ := id hs
    have := hb e
    rw [h7, iz_n, iz_eq (i32_n (by omega)) ⟨by decide, by decide⟩]
    have hF : Fr aRst M (sR M 192 5 70100) := Fr.rf.sR rfl
    refine ⟨fun _ => go_in (e35_21 ⟨rfl, rfl, k _ ⟨hR.of hF (fun j => ⟨rfl, rfl, rfl⟩) rfl, sR_at _ _ _ _, h2, h7, he⟩ hF⟩), fun q => absurd q (by omega)⟩
  | .inr i, hs, k =>
    obtain ⟨hR, h1, h2, h3, h7⟩ := id hs
    rw [h7, h2, nI_c (by omega), (hR.2.1 i h3).2.2]
    have hF : Fr aRst M (sR (sI M 192 7 (nI (bgk tp tl i))) 192 5 70100) := (Fr.rf.sI rfl).sR rfl
    exact ⟨fun q => absurd rfl q, fun _ => ⟨nI_in2 (by omega) (by decide), go_in (e35_21 ⟨rfl, rfl, k _ ⟨hR.of hF (fun j => ⟨rfl, rfl, rfl⟩) rfl, sR_at _ _ _ _, ⟨i, (show (sI M 192 7 (nI (bgk tp tl i))).1 192 4 = nI i from (sI_j M _ (by decide)).trans h2), h3⟩, (show (sI M 192 7 (nI (bgk tp tl i))).1 192 7 = _ from sI_e _ _ _ _), h3⟩ hF⟩)⟩⟩
theorem k34 (h4 : tl ≤ 400) {s : Nat ⊕ Nat} (hs : Sst tp tl N T s M) {j : Nat} (hj0 : 0 < j) (hj : j < 18) {Q : List Value → Mm → Prop} (k : ∀ M', Sst tp tl N T (taS tp tl j s) M' → Fr aRst M M' → Q [] M') : SC (d + 2) 34 [.ref 192, .ref (70100 + j)] M Q := by
  have hE := isE_t hs
  refine sC (by decide) rfl (go_in (e34_0 ⟨hE, ⟨hE, (isE_j j hj).1⟩, fun q => go_in (e34_12 ?_), fun q => ?_⟩))
  · have q0 := (th_q hs (j := j)).mp q
    refine k36 h4 hs fun M' h' f' => e34_16 ⟨rfl, ?_⟩
    match s, hs, k, q0, h' with
    | .inl e, hs, k, q0, h' =>
      have q0 : 0 = j := q0
      omega
    | .inr i, hs, k, q0, h' =>
      have q0 : tkk tp tl i = j := q0
      have k2 := k M'
      rw [taS_1 q0] at k2
      rw [stS_1 (by omega)] at h'
      exact k2 h' f'
  · have q0 : thS tp tl s ≠ j := fun z => q ((th_q hs (j := j)).mpr z)
    refine upC (k35 (d := d) h4 hs fun M' h' f' => e34_12_1 (k36 h4 h' fun M2 h2 f2 => e34_16_1 ⟨rfl, ?_⟩)) (by omega)
    have f3 := f'.tr f2
    match s, hs, k, q0, h2 with
    | .inl e, hs, k, q0, h2 => exact k M2 h2 f3
    | .inr i, hs, k, q0, h2 =>
      have q0 : tkk tp tl i ≠ j := q0
      have k2 := k M2
      rw [taS_0 q0] at k2
      exact k2 h2 f3
end CRD
