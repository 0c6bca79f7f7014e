/-! What is told, laid out for the year. -/
abbrev WM (d k : Nat) (Q : List Value → Mm → Prop) (pc : Nat) (L : Lo) (st : List Value) (M : Mm) : Prop := Wp (SC d) (ST d) (RP Q) hdN (txOf k) 0 pc L st M
/-- the object and its arrays -/
def inO (o k : Nat) : Bool := Nat.beq k o || (Nat.ble (1024 + 64 * o) k && Nat.blt k (1024 + 64 * o + 64))
theorem inO_a {o s : Nat} (h : s < 64) : inO o (1024 + 64 * o + s) = true := by
  unfold inO
  rw [show Nat.ble (1024 + 64 * o) (1024 + 64 * o + s) = true from Nat.ble_eq.mpr (by omega), show Nat.blt (1024 + 64 * o + s) (1024 + 64 * o + 64) = true from Nat.blt_eq.mpr (by omega)]
  simp
theorem inO_o {o : Nat} : inO o o = true := by
  unfold inO
  rw [Nat.beq_refl o]; rfl
theorem inO_spec {o k : Nat} (h : inO o k = true) : k = o ∨ (1024 + 64 * o ≤ k ∧ k < 1024 + 64 * o + 64) := by
  unfold inO at h
  rw [Bool.or_eq_true] at h
  exact h.imp beqN (fun q => ⟨Nat.le_of_ble_eq_true (and2 q).1, Nat.blt_eq.mp (and2 q).2⟩)
theorem beq_ne {a b : Nat} (h : a ≠ b) : Nat.beq a b = false := by
  cases hb : Nat.beq a b with
  | false => rfl
  | true => exact absurd (beqN hb) h
theorem TR.of {o : Nat} {w : Nat → Nat} {ta : Nat → Nat → Nat → Nat} {P : Nat → Nat → Bool} {M N : Mm} (h : TR o w ta M) (hF : Fr P M N) (hP : ∀ k j, inO o k = true → P k j = false) : TR o w ta N := by
  obtain ⟨⟨⟨a1, a2, a3, a4⟩, ⟨a5, a6, a7⟩, a8, a9, a10⟩, b1, b2, b3, b4, b5, b6, b7, b8⟩ := h
  have e1 : ∀ j, N.1 o j = M.1 o j := fun j => (hF _ _ (hP o j inO_o)).1
  have e2 : ∀ s j, s < 64 → N.1 (1024 + 64 * o + s) j = M.1 (1024 + 64 * o + s) j := fun s j hs => (hF _ _ (hP _ j (inO_a hs))).1
  have e3 : ∀ s j, s < 64 → N.2.1 (1024 + 64 * o + s) j = M.2.1 (1024 + 64 * o + s) j := fun s j hs => (hF _ _ (hP _ j (inO_a hs))).2.1
  unfold TR
  simp only [e1]
  refine ⟨⟨⟨a1, a2, a3, a4⟩, ⟨a5, a6, a7⟩, a8, a9, a10⟩, ?_, ?_, ?_, ?_, ?_, ?_, ?_, ?_⟩
  · intro j hj; rw [e2 2 j (by decide)]; exact b1 j hj
  · intro f n hf hn; rw [e2 6 _ (by decide)]; exact b2 f n hf hn
  · intro f hf; rw [e2 7 _ (by decide), e2 8 _ (by decide)]; exact b3 f hf
  · intro r i hr hi; rw [e2 11 _ (by decide)]; exact b4 r i hr hi
  · intro q T i hq h1 h2 hi; rw [e3 13 _ (by decide)]; exact b5 q T i hq h1 h2 hi
  · intro b i hb hi; rw [e2 15 _ (by decide)]; exact b6 b i hb hi
  · intro j hj; rw [e2 17 _ (by decide)]; exact b7 j hj
  · intro i hi; rw [e2 18 _ (by decide)]; exact b8 i hi
/-- the year's own cells -/
def aYr (k _ : Nat) : Bool := inO 640 k
def aRow (f k j : Nat) : Bool := (Nat.beq k 41992 || Nat.beq k 41993) && (Nat.ble (f * 32) j && Nat.blt j (f * 32 + 32))
def aWa (k _ : Nat) : Bool := Nat.beq k 41994
theorem or_f {a b : Bool} (h : (a || b) = true) : a = true ∨ b = true := by rwa [Bool.or_eq_true] at h
theorem le_by {P P' : Nat → Nat → Bool} (h : ∀ k j, P k j = true → P' k j = true) : ∀ k j, P' k j = false → P k j = false := fun k j q => by
  cases hb : P k j with
  | false => rfl
  | true => rw [h k j hb] at q; cases q
theorem yr_c {k j : Nat} (h : k = 640 ∨ (41984 ≤ k ∧ k < 42048)) : aYr k j = true := by
  rcases h with h | h
  · subst h; rfl
  · unfold aYr inO
    rw [show Nat.ble (1024 + 64 * 640) k = true from Nat.ble_eq.mpr h.1, show Nat.blt k (1024 + 64 * 640 + 64) = true from Nat.blt_eq.mpr h.2]
    simp
theorem aPump_yr : ∀ k j, aYr k j = false → aPump k j = false := le_by fun k j h => by
  rcases or_f h with h | h
  · rw [beqN h]; rfl
  · rw [beqN (and2 h).1]; rfl
theorem aWish_yr : ∀ k j, aYr k j = false → aWish k j = false := le_by fun k j h => by rw [beqN h]; rfl
theorem aWa_yr : ∀ k j, aYr k j = false → aWa k j = false := le_by fun k j h => by rw [beqN h]; rfl
theorem aPumpBy_yr : ∀ k j, aYr k j = false → aPumpBy k j = false := fun k j h => by unfold aPumpBy; rw [aPump_yr k j h, aWish_yr k j h]; rfl
theorem aRow_yr {f : Nat} : ∀ k j, aYr k j = false → aRow f k j = false := le_by fun k j h => by
  rcases or_f (and2 h).1 with h | h <;> rw [beqN h] <;> rfl
theorem yr_told {o : Nat} (ho : o = 512 ∨ o = 513) : ∀ k j, inO o k = true → aYr k j = false := fun k j h => by
  have h1 := inO_spec h
  cases hb : aYr k j with
  | false => rfl
  | true =>
    have h2 := inO_spec hb
    omega
theorem wb_w {w : Nat → Nat} (h : WB w) : w 0 ≤ 7 ∧ w 8 ≤ 3 ∧ w 9 ≤ 5 := ⟨h.1.2.1, h.2.2.2.1.1, h.2.2.2.1.2.1.2⟩
section OP
variable {d : Nat} {M : Mm} {w : Nat → Nat} {ta : Nat → Nat → Nat → Nat}
set_option maxHeartbeats 1000000 in
theorem c66 (h : TR 512 w ta M) (hb : WB w) (h0 : M.1 640 0 = nI (w 0)) {r f c : Nat} (hr : r < w 9) (hf : f < w 8) (hc : c ≤ 9) : SC (d + 2) 66 [.ref 640, .ref 512, .int (nI r), .int (nI f), .int (nI c)] M (fun vs N => vs = [] ∧ Fr (aRow f) M N ∧ (∀ l n, l ≤ w 0 → n < 4 → N.1 41992 ((f * 8 + l) * 4 + n) = iz (foW w r (fun _ => c) f l n) ∧ N.1 41993 ((f * 8 + l) * 4 + n) = iz (plW w (fun _ => c) f l n))) := by
  obtain ⟨w0, w8, w9⟩ := wb_w hb
  obtain ⟨⟨p1, p2, p3⟩, p4, p5⟩ := hb.2.2.2.2.2.2.1 r hr
  refine sC (by decide) rfl (go_in (e66_0 (useC (c53 h hb hr (by decide : 0 < 5)) fun vs N hq => ?_)))
  obtain ⟨rfl, rfl⟩ := hq
  refine e66_6 (useC (c53 h hb hr (by decide : 2 < 5)) fun vs N hq => ?_)
  obtain ⟨rfl, rfl⟩ := hq
  refine e66_14 (useC (c53 h hb hr (by decide : 3 < 5)) fun vs N hq => ?_)
  obtain ⟨rfl, rfl⟩ := hq
  refine e66_22 (useC (c53 h hb hr (by decide : 4 < 5)) fun vs N hq => ?_)
  obtain ⟨rfl, rfl⟩ := hq
  refine e66_28 ?_
  have ok : ∀ (N' : Mm), Fr (aRow f) N N' → TR 512 w ta N' ∧ N'.1 640 0 = nI (w 0) := fun N' hF => ⟨h.of hF (fun k j q => aRow_yr k j (yr_told (Or.inl rfl) k j q)), by rw [(hF 640 0 rfl).1]; exact h0⟩
  have outer : ∀ k' (o o9 o10 : Option Value) l N', l + k' = w 0 + 1 → Fr (aRow f) N N' → (∀ l' n, l' < l → n < 4 → N'.1 41992 ((f * 8 + l') * 4 + n) = iz (foW w r (fun _ => c) f l' n) ∧ N'.1 41993 ((f * 8 + l') * 4 + n) = iz (plW w (fun _ => c) f l' n)) →
      WM (d + 1) 66 (fun vs N' => vs = [] ∧ Fr (aRow f) N N' ∧ (∀ l n, l ≤ w 0 → n < 4 → N'.1 41992 ((f * 8 + l) * 4 + n) = iz (foW w r (fun _ => c) f l n) ∧ N'.1 41993 ((f * 8 + l) * 4 + n) = iz (plW w (fun _ => c) f l n))) 34 [some (.ref 640), some (.ref 512), o, some (.int (nI f)), some (.int (nI c)), some (.int (nI (w (32 + 5 * r + 0)))), some (.int (nI (w (32 + 5 * r + 2)))), some (.int (nI (w (32 + 5 * r + 3)) * nI (w (32 + 5 * r + 4)))), some (.int (nI l)), o9, o10] [] N' := by
    intro k'
    induction k' with
    | zero =>
      intro o o9 o10 l N' hl hF hd
      refine go_in (e66_34 (br_t (by rw [(ok N' hF).2]; exact nI_lt (by omega) (by omega)) ?_))
      exact go_in (e66_147 ⟨rfl, rfl, hF, fun l' n h1 h2 => hd l' n (by omega) h2⟩)
    | succ k' ih =>
      intro o o9 o10 l N' hl hF hd
      refine go_in (e66_34 (br_f (by rw [(ok N' hF).2]; exact nI_nlt (by omega) (by omega)) ?_))
      have inner : ∀ k2 (o o10 : Option Value) n N2, n + k2 = 4 → Fr (aRow f) N N2 → (∀ l' n', (l' < l ∨ (l' = l ∧ n' < n)) → n' < 4 → N2.1 41992 ((f * 8 + l') * 4 + n') = iz (foW w r (fun _ => c) f l' n') ∧ N2.1 41993 ((f * 8 + l') * 4 + n') = iz (plW w (fun _ => c) f l' n')) →
          WM (d + 1) 66 (fun vs N' => vs = [] ∧ Fr (aRow f) N N' ∧ (∀ l n, l ≤ w 0 → n < 4 → N'.1 41992 ((f * 8 + l) * 4 + n) = iz (foW w r (fun _ => c) f l n) ∧ N'.1 41993 ((f * 8 + l) * 4 + n) = iz (plW w (fun _ => c) f l n))) 46 [some (.ref 640), some (.ref 512), o, some (.int (nI f)), some (.int (nI c)), some (.int (nI (w (32 + 5 * r + 0)))), some (.int (nI (w (32 + 5 * r + 2)))), some (.int (nI (w (32 + 5 * r + 3)) * nI (w (32 + 5 * r + 4)))), some (.int (nI l)), some (.int (nI n)), o10] [] N2 := by
        intro k2
        induction k2 with
        | zero =>
          intro o o10 n N2 hn hF2 hd2
          have hn : n = 4 := by omega
          subst hn
          refine go_in (e66_46 (br_t (nI_le (Nat.le_refl _) (by decide)) (go_in (e66_141 ?_))))
          rw [nI_s]
          exact ih _ _ _ (l + 1) N2 (by omega) hF2 (fun l' n' h1 h2 => hd2 l' n' (by omega) h2)
        | succ k2 ih2 =>
          intro o o10 n N2 hn hF2 hd2
          obtain ⟨hT, h00⟩ := ok N2 hF2
          have hbr : N2.1 33798 (f * 4 + n) = nI (brg w f n) := hT.2.2.1 f n hf (by omega)
          refine go_in (e66_46 (br_f (nI_ge (by omega) (by decide)) ⟨?_, ?_, ?_, ?_⟩))
          · rw [nI_mul, nI_add]; exact nI_in2 (by omega) (by decide)
          · rw [nI_mul, nI_add, nI_mul, nI_add]; exact nI_in2 (by omega) (by decide)
          · rw [nI_mul, nI_add, nI_mul, nI_add]; exact nI_in2 (by omega) (by decide)
          · have e1 : nI f * nI 8 + nI l = nI (f * 8 + l) := by rw [nI_mul, nI_add]
            have e2 : nI (f * 8 + l) * nI 4 + nI n = nI ((f * 8 + l) * 4 + n) := by rw [nI_mul, nI_add]
            have e3 : nI f * nI 4 + nI n = nI (f * 4 + n) := by rw [nI_mul, nI_add]
            have e4 : nI 4 * (nI (brg w f n) - nI n * nI c * (nI (w 0) - nI l)) = iz (plW w (fun _ => c) f l n) := by
              simp only [iz_n, iz_sub, iz_mul]
              rfl
            rw [e1, e2, e3, nI_c (a := f * 4 + n) (by omega), nI_c (a := (f * 8 + l) * 4 + n) (by omega), hbr, h00, e4, sI_at]
            refine useC (show SC (d + 1) 230 [.int (nI 0), .int (nI n - nI (w (32 + 5 * r + 2)))] _ _ from ?_) (fun vs N3 q => ?_) (Q := fun vs N3 => vs = [.int (iz (max 0 ((n : Int) - (w (32 + 5 * r + 2) : Int))))] ∧ N3 = sI N2 41993 ((f * 8 + l) * 4 + n) (iz (plW w (fun _ => c) f l n)))
            · rw [iz_n, iz_n, iz_n, iz_sub]
              exact c230 i32_0 ⟨by omega, by omega⟩
            · obtain ⟨rfl, rfl⟩ := q
              refine e66_130 ⟨nI_in2 (by omega) (by decide), ?_⟩
              have e5 : iz (plW w (fun _ => c) f l n) - nI 4 * nI n * nI (w (32 + 5 * r + 0)) - iz (max 0 ((n : Int) - (w (32 + 5 * r + 2) : Int))) * (nI (w (32 + 5 * r + 3)) * nI (w (32 + 5 * r + 4))) = iz (foW w r (fun _ => c) f l n) := by
                simp only [iz_n, iz_sub, iz_mul]
                rfl
              rw [nI_s, nI_c (by omega), e5]
              refine ih2 _ _ (n + 1) _ (by omega) ((hF2.sI ?_).sI ?_) (fun l' n' h1 h2 => ?_)
              · unfold aRow
                rw [show Nat.ble (f * 32) ((f * 8 + l) * 4 + n) = true from Nat.ble_eq.mpr (by omega), show Nat.blt ((f * 8 + l) * 4 + n) (f * 32 + 32) = true from Nat.blt_eq.mpr (by omega)]
                rfl
              · unfold aRow
                rw [show Nat.ble (f * 32) ((f * 8 + l) * 4 + n) = true from Nat.ble_eq.mpr (by omega), show Nat.blt ((f * 8 + l) * 4 + n) (f * 32 + 32) = true from Nat.blt_eq.mpr (by omega)]
                rfl
              · rw [sI_v, sI_v, sI_v, sI_v]
                by_cases e : l' = l ∧ n' = n
                · obtain ⟨rfl, rfl⟩ := e
                  simp
                · have hne : (f * 8 + l') * 4 + n' ≠ (f * 8 + l) * 4 + n := by omega
                  rw [if_neg (fun q => hne q.2), if_neg (by omega), if_neg (by omega), if_neg (fun q => hne q.2)]
                  exact hd2 l' n' (by omega) h2
      exact inner 4 _ _ 0 N' (by omega) hF (fun l' n' h1 h2 => hd l' n' (by omega) h2)
  exact outer (w 0 + 1) _ _ _ 0 N (by omega) Fr.rf (fun l' n h1 => absurd h1 (Nat.not_lt_zero _))
end OP
