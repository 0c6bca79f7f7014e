/-! The reference reads all lines. -/
def LA (M : Mm) (s : Nat) (ls : LNS) : Prop := ∀ n x, ls[n]? = some x → x.1 ≤ 3 ∧ (∃ lo, lo + x.2.1.length ≤ s ∧ LNX M n lo x.1 x.2.1) ∧ CB x.2.1 ∧ EVl x.2.1 x.2.2
def aPa (k j : Nat) : Bool := (Nat.beq k 768 && (Nat.beq j 6 || (Nat.beq j 8 || (Nat.beq j 9 || Nat.beq j 12)))) || (Nat.beq k 50177 && Nat.ble 5461 j)
def RaA (tp : Nat → Int) (tl : Nat) (acc : LNS) (r : PR LNS) (y : Int32) (M : Mm) : Prop := match r with
  | .inl e => y = iz (-1) ∧ M.1 768 8 = nI (bgk tp tl e)
  | .inr (_, _, ls) => y = nI (acc ++ ls).length ∧ (acc ++ ls).length ≤ 10 ∧ LA M 400 (acc ++ ls)
theorem aPl_a {n s k j : Nat} (h : aPl n s k j = true) : aPa k j = true := by
  unfold aPl aPs at h
  unfold aPa
  simp only [Bool.or_eq_true, Bool.and_eq_true, Nat.beq_eq, Nat.ble_eq, Nat.blt_eq] at h ⊢
  omega
theorem aPb_a {k j : Nat} (h : aPb k j = true) : aPa k j = true := by
  unfold aPb at h
  unfold aPa
  simp only [Bool.or_eq_true, Bool.and_eq_true, Nat.beq_eq, Nat.ble_eq] at h ⊢
  omega
theorem LA.of {M M' : Mm} {s s' n' : Nat} {ls : LNS} (h : LA M s ls) (hF : Fr (aPl n' s') M M') (hs : s ≤ s') (hn : ls.length ≤ n') (hn' : n' < 10) : LA M' s ls := fun n x hx => by
  have hlt := (List.getElem?_eq_some_iff.mp hx).1
  obtain ⟨h1, ⟨lo, h2, ⟨h3, h4, h5⟩, h6⟩, h7⟩ := h n x hx
  refine ⟨h1, ⟨lo, h2, ⟨?_, ?_, ?_⟩, fun m y hy => ?_⟩, h7⟩
  · rw [(hF _ _ (aPl_f (by omega) (by omega))).1]
    exact h3
  · rw [(hF _ _ (aPl_f (by omega) (by omega))).1]
    exact h4
  · rw [(hF _ _ (aPl_f (by omega) (by omega))).1]
    exact h5
  · have hm := (List.getElem?_eq_some_iff.mp hy).1
    rw [(hF _ _ (aPl_f (by omega) (by omega))).1, (hF _ _ (aPl_f (by omega) (by omega))).1]
    exact h6 m y hy
theorem LA.pb {M M' : Mm} {s : Nat} {ls : LNS} (h : LA M s ls) (hF : Fr aPb M M') : LA M' s ls := fun n x hx => by
  obtain ⟨h1, ⟨lo, h2, ⟨h3, h4, h5⟩, h6⟩, h7⟩ := h n x hx
  refine ⟨h1, ⟨lo, h2, ⟨?_, ?_, ?_⟩, fun m y hy => ?_⟩, h7⟩
  · rw [(hF _ _ rfl).1]
    exact h3
  · rw [(hF _ _ rfl).1]
    exact h4
  · rw [(hF _ _ rfl).1]
    exact h5
  · rw [(hF _ _ rfl).1, (hF _ _ rfl).1]
    exact h6 m y hy
theorem LA.le {M : Mm} {s s' : Nat} {ls : LNS} (h : LA M s ls) (hs : s ≤ s') : LA M s' ls := fun n x hx => by
  obtain ⟨h1, ⟨lo, h2, h3⟩, h7⟩ := h n x hx
  exact ⟨h1, ⟨lo, by omega, h3⟩, h7⟩
theorem LA.snoc {M : Mm} {s : Nat} {ls : LNS} {v : Nat} {c : List (Nat × Nat)} {m : MSK} {lo : Nat} (h : LA M s ls) (h1 : v ≤ 3) (h2 : lo + c.length ≤ s) (h3 : LNX M ls.length lo v c) (h4 : CB c) (h5 : EVl c m) : LA M s (ls ++ [(v, c, m)]) := fun n x hx => by
  by_cases hn : n < ls.length
  · rw [List.getElem?_append_left hn] at hx
    exact h n x hx
  · rw [List.getElem?_append_right (by omega)] at hx
    cases e : n - ls.length with
    | zero =>
      rw [e] at hx
      cases hx
      have hn : n = ls.length := by omega
      subst hn
      exact ⟨h1, ⟨lo, h2, h3⟩, h4, h5⟩
    | succ k =>
      rw [e] at hx
      cases hx
section RAl
variable {d : Nat} {tp : Nat → Int} {tl N : Nat}
theorem bg_end {i : Nat} : bgk tp tl i = tl ↔ tkk tp tl i = 0 := by
  have := bgk_le (tp := tp) (tl := tl) i
  unfold tkk
  rw [knd_0]
  omega
theorem k166 {dp : Int32} {M : Mm} {Q : List Value → Mm → Prop} (h : RSt tp tl N 0 0 dp M) (k : ∀ y M', RaA tp tl [] (pText (tkk tp tl) (nnk tp tl)) y M' → Fr aPa M M' → Q [.int y] M') : SC (d + 29) 166 [.ref 768] M Q := by
  have hN := h.1
  have h4 := h.2.1.1
  have hn := hN.le h4
  have hm : ∀ i, nnk tp tl i ≤ 99 := fun i => nnk_le i
  have hbk : ∀ i, bgk tp tl i ≤ 400 := fun i => Nat.le_trans (bgk_le i) h4
  obtain ⟨p, hp, hnb, h6⟩ := h.2.2.2.1
  have loop : ∀ m n i s dp M1 (acc : LNS), n + m = 10 → acc.length = n → RSt tp tl N i s dp M1 → LA M1 s acc → Fr aPa M M1 → (∀ y M', RaA tp tl acc (pLns (tkk tp tl) (nnk tp tl) m i) y M' → Fr aPa M M' → Q [.int y] M') → WM (d + 28) 166 Q 19 [some (.ref 768), some (.int (nI n))] [] M1 := by
    intro m
    induction m with
    | zero =>
      intro n i s dp M1 acc hnm ha h1 hl hF k
      have hnm : n = 10 := by omega
      subst hnm
      exact go_in (e166_19 (v165 h1 fun M2 g f2 => e166_24 ⟨fun z => absurd rfl z, fun _ => ⟨rfl, k _ M2 ⟨nI_neg1, g⟩ (hF.tr (f2.up fun k j => aPb_a))⟩⟩))
    | succ m ih =>
      intro n i s dp M1 acc hnm ha h1 hl hF k
      refine go_in (e166_19 (k165 (n := n) (by omega) h1 fun M2 h2 f2 => e166_24 ?_))
      have hF2 := hF.tr (f2.up fun k j => aPl_a)
      have hs := h1.2.2.1.2
      have k : ∀ y M', RaA tp tl acc (bdP (pLine (tkk tp tl) (nnk tp tl) i) fun j c v => if tkk tp tl j = 17 then bdP (pLns (tkk tp tl) (nnk tp tl) m (j + 1)) fun k _ ls => okP k [] ((v.1, c, v.2) :: ls) else if tkk tp tl j = 0 then okP j [] [(v.1, c, v.2)] else erP j) y M' → Fr aPa M M' → Q [.int y] M' := k
      cases hr : pLine (tkk tp tl) (nnk tp tl) i with
      | inl e =>
        rw [hr] at h2 k
        exact ⟨fun z => absurd rfl z, fun _ => ⟨rfl, k _ M2 ⟨nI_neg1, h2⟩ hF2⟩⟩
      | inr t =>
        obtain ⟨j, c, v⟩ := t
        rw [hr] at h2 k
        obtain ⟨h2, x2⟩ := h2
        have g := pLine_g (tkk_N hN) hm hr
        have a1 := g.len
        have a2 := g.up
        have a3 := g.le
        have k : ∀ y M', RaA tp tl acc (if tkk tp tl j = 17 then bdP (pLns (tkk tp tl) (nnk tp tl) m (j + 1)) fun k _ ls => okP k [] ((v.1, c, v.2) :: ls) else if tkk tp tl j = 0 then okP j [] [(v.1, c, v.2)] else erP j) y M' → Fr aPa M M' → Q [.int y] M' := k
        have hl2 : LA M2 (s + c.length) (acc ++ [(v.1, c, v.2)]) := ((hl.of f2 (Nat.le_refl _) (by omega) (by omega)).le (by omega)).snoc g.ev.1 (Nat.le_refl _) (by rw [ha]; exact x2) g.cb g.ev.2
        obtain ⟨p2, hp2, hnb2, h62⟩ := h2.2.2.2.1
        refine ⟨fun _ => go_in (e166_29 (upC (k150 (d := 0) h2.2.1 hp2 h62 fun M3 g63 g83 f3 => e166_33 ?_) (by omega))), fun z => absurd z (by first | decide | exact nz1)⟩
        rw [hnb2] at g63 g83
        have hC3 := h2.2.1.pb f3
        have hF3 := hF2.tr (f3.up fun k j => aPb_a)
        have hb := hbk j
        rw [g63, hC3.2.2.1, nI_q (by omega) (by omega), bg_end]
        refine ⟨fun q0 => go_in (e166_48 (upC (k149 (d := 0) hC3 (bgk_le j) g63 (by decide) (by decide) (e166_56 ?_)) (by omega))), fun q0 => ⟨rfl, k _ M3 ?_ hF3⟩⟩
        · rw [tk_s (j := 17) (c := 59) (by decide) (by decide) rfl]
          by_cases q17 : tkk tp tl j = 17
          · rw [if_pos q17] at k
            rw [decide_eq_true q17]
            have hjN := tkk_N hN j (by omega)
            obtain ⟨b1, b2⟩ := tk_se (tp := tp) (tl := tl) (i := j) (j := 17) (c := 59) (by decide) (by decide) rfl q17
            refine ⟨fun _ => go_in (e166_61 ?_), fun z => absurd z (by first | decide | exact nz1)⟩
            rw [g63, nI_add, nI_s]
            have f4 : Fr aPb M2 (sI M3 768 6 (nI (bgk tp tl j + 1))) := f3.sI rfl
            refine ih (n + 1) (j + 1) (s + c.length) (nI 0) _ (acc ++ [(v.1, c, v.2)]) (by omega) (by rw [List.length_append, ha]; rfl) (h2.pb f4 (by omega) (by omega) b1 b2.symm (sI_e _ _ _ _)) (hl2.pb f4) (hF2.tr (f4.up fun k j => aPb_a)) fun y M' h' f' => k y M' ?_ f'
            match pLns (tkk tp tl) (nnk tp tl) m (j + 1), h' with
            | .inl e, h' => exact h'
            | .inr (j2, c2, ls), h' =>
              have e : acc ++ [(v.1, c, v.2)] ++ ls = acc ++ (v.1, c, v.2) :: ls := by rw [List.append_assoc]; rfl
              have h' : y = nI (acc ++ [(v.1, c, v.2)] ++ ls).length ∧ (acc ++ [(v.1, c, v.2)] ++ ls).length ≤ 10 ∧ LA M' 400 (acc ++ [(v.1, c, v.2)] ++ ls) := h'
              rw [e] at h'
              exact h'
          · rw [if_neg q17, if_neg q0] at k
            rw [decide_eq_false q17]
            exact ⟨fun z => absurd rfl z, fun _ => ⟨rfl, k _ M3 ⟨nI_neg1, g83⟩ hF3⟩⟩
        · rw [if_neg (by omega), if_pos q0]
          refine ⟨?_, ?_, (hl2.pb f3).le (by omega)⟩
          · rw [nI_add, List.length_append, ha]
            rfl
          · rw [List.length_append, ha]
            show n + 1 ≤ 10
            omega
  refine sC (by decide) rfl (go_in (e166_0 (upC (k150 (d := 0) h.2.1 hp h6 fun M1 g61 g81 f1 => e166_4 ?_) (by omega))))
  rw [hnb] at g61 g81
  have hC1 := h.2.1.pb f1
  have hF1 : Fr aPa M M1 := f1.up fun k j => aPb_a
  have hb := hbk 0
  unfold pText at k
  rw [g61, hC1.2.2.1, nI_q (by omega) (by omega), bg_end]
  refine ⟨fun q0 => go_in (e166_17 ?_), fun q0 => ⟨rfl, ?_⟩⟩
  · rw [if_neg q0] at k
    exact loop 10 0 0 0 dp M1 [] rfl rfl (h.pb f1 (Nat.zero_le _) (Nat.zero_le _) (bgk_le 0) (bgk_nb 0) g61) (fun n x hx => by cases n <;> cases hx) hF1 k
  · rw [if_pos q0] at k
    exact k _ M1 ⟨rfl, by decide, fun n x hx => by cases n <;> cases hx⟩ hF1
end RAl
