/-! The reference: wants by a code; small questions. -/
theorem dv4 : ∀ a, a < 64 → nI a / nI 4 = nI (a / 4) ∧ nI a - nI a / nI 4 * nI 4 = nI (a % 4) := by decide +kernel
theorem ne4 : ¬ nI 4 = 0 := by decide
theorem decr {a : Nat} : nI (a + 1) + Int32.ofInt (-1) = nI a := by
  rw [show Int32.ofInt (-1) = iz (-1) from rfl, iz_n, iz_add, iz_n]
  congr 1
  omega
theorem decr0 {a : Nat} : nI a - nI 1 = iz ((a : Int) - 1) := by rw [iz_n, iz_n, iz_sub]; rfl
/-- the wants by a code: of one farm (fm at least 0), or of all -/
def vBy (w : Nat → Nat) (ta : Nat → Nat → Nat → Nat) (fm : Int) (l c f : Nat) : Nat := if fm < 0 then wnr (w 8) c f else if (f : Int) = fm then c else waW w ta 0 l f
theorem vBy_le {w : Nat → Nat} {ta : Nat → Nat → Nat → Nat} {fm : Int} {l c f : Nat} (h : 0 ≤ fm → c ≤ 3) : vBy w ta fm l c f ≤ 3 := by
  unfold vBy
  split
  · unfold wnr; omega
  · split
    · exact h (by omega)
    · exact wbd_le
theorem wnr_top {F c f : Nat} (h : f < F) : wnr F c f = c / 4 ^ (F - 1 - f) % 4 := rfl
section BY2
variable {d : Nat} {M : Mm} {w : Nat → Nat} {ta : Nat → Nat → Nat → Nat}
/-- nobody is in a pact -/
def NP (M : Mm) : Prop := M.1 768 14 = iz (-1) ∧ ∃ pd, M.1 768 15 = nI pd
theorem NP.pn (h : NP M) : ∃ pd, PN w (-1) pd M := by
  obtain ⟨h1, pd, h2⟩ := h
  exact ⟨pd, h1, h2, by decide, by decide, fun q => absurd q (by decide)⟩
theorem NP.of {P : Nat → Nat → Bool} {N : Mm} (h : NP M) (hF : Fr P M N) (h0 : P 768 14 = false) (h1 : P 768 15 = false) : NP N := by
  obtain ⟨a, pd, b⟩ := h
  exact ⟨by rw [(hF _ _ h0).1]; exact a, pd, by rw [(hF _ _ h1).1]; exact b⟩
set_option maxHeartbeats 1000000 in
theorem c194 (hw : MR w M) (hb : WB w) (hD : DRel w ta M) (hp : NP M) {fm : Int} (h1 : -1 ≤ fm) (h2 : fm < w 8) {l c : Nat} (hl : l ≤ 7) (hc : c < 64) : SC (d + 7) 194 [.ref 768, .int (iz fm), .int (nI l), .int (nI c)] M (fun vs N => vs = [] ∧ Fr aWant M N ∧ WR w (vBy w ta fm l c) N) := by
  obtain ⟨w0, w8, w9⟩ := wb_w hb
  obtain ⟨pd, hpn⟩ := hp.pn (w := w)
  refine sC (by decide) rfl (go_in (e194_0 (useC (c175 (b := 0) hw hb hD hpn hl (by decide)) fun vs N h => ?_)))
  obtain ⟨rfl, hF, hv⟩ := h
  -- from the second loop on
  have tail : ∀ (o2 o3 : Option Value) N2, Fr aWant M N2 → (0 ≤ fm → WR w (vBy w ta fm l c) N2) → WM (d + 6) 194 (fun vs N => vs = [] ∧ Fr aWant M N ∧ WR w (vBy w ta fm l c) N) 17 [some (.ref 768), some (.int (iz fm)), o2, some (.int (nI c)), none, none] [] N2 := by
    intro o2 o3 N2 hF2 hg
    refine go_in (e194_17 (useC (upC (c135 (d := d) (hw.of hF2 (fun j _ => rfl))) (by omega)) fun vs N3 h => ?_))
    obtain ⟨rfl, rfl⟩ := h
    refine e194_21 ?_
    rw [decr0]
    by_cases hneg : fm < 0
    · have loop : ∀ k (o2 o3 : Option Value) N4, k ≤ w 8 → Fr aWant M N4 → (∀ g, k ≤ g → g < w 8 → N4.1 50192 g = nI (vBy w ta fm l c g)) → WM (d + 6) 194 (fun vs N => vs = [] ∧ Fr aWant M N ∧ WR w (vBy w ta fm l c) N) 28 [some (.ref 768), some (.int (iz fm)), o2, o3, some (.int (iz ((k : Int) - 1))), some (.int (nI (c / 4 ^ (w 8 - k))))] [] N4 := by
        intro k
        induction k with
        | zero =>
          intro o2 o3 N4 hk hF4 hg4
          exact go_in (e194_28 (br_t ((iz_lt0 ⟨by omega, by omega⟩).mpr (by omega)) (go_in (e194_60 ⟨rfl, rfl, hF4, fun g hg => hg4 g (Nat.zero_le _) hg⟩))))
        | succ k ih =>
          intro o2 o3 N4 hk hF4 hg4
          have hc4 : c / 4 ^ (w 8 - (k + 1)) < 64 := Nat.lt_of_le_of_lt (Nat.div_le_self _ _) hc
          obtain ⟨q1, q2⟩ := dv4 _ hc4
          refine go_in (e194_28 (br_f (fun q => ?_) (br_f (fun q => ?_) ⟨ne4, ?_, ne4, ?_⟩)))
          · rw [iz_lt0 ⟨by omega, by omega⟩] at q; omega
          · rw [iz_0le ⟨by omega, by omega⟩] at q; omega
          · rw [show ((k + 1 : Nat) : Int) - 1 = (k : Int) by omega, iz_nn]; exact nI_in2 (by omega) (by decide)
          · rw [show ((k + 1 : Nat) : Int) - 1 = (k : Int) by omega, iz_nn, nI_c (by omega), q2, q1, Nat.div_div_eq_div_mul, ← Nat.pow_succ, show (w 8 - (k + 1)).succ = w 8 - k by omega, show nI k + Int32.ofInt (-1) = iz ((k : Int) - 1) by
              rw [show Int32.ofInt (-1) = iz (-1) from rfl, iz_n, iz_add]; congr 1]
            refine ih _ _ _ (by omega) (hF4.sI rfl) fun g hkg hg8 => ?_
            rw [sI_v]
            by_cases e : g = k
            · subst e
              rw [if_pos ⟨rfl, rfl⟩]
              unfold vBy wnr
              rw [if_pos hneg, show w 8 - 1 - g = w 8 - (g + 1) by omega]
            · rw [if_neg (by omega)]; exact hg4 g (by omega) hg8
      have fin := loop (w 8) none (some (.int (nI c))) N3 (Nat.le_refl _) hF2 (fun g h1 h2 => by omega)
      rw [Nat.sub_self, Nat.pow_zero, Nat.div_one] at fin
      exact fin
    · have hv2 := hg (by omega)
      refine go_in (e194_28 ?_)
      refine ⟨fun _ => go_in (e194_60 ⟨rfl, rfl, hF2, hv2⟩), fun _ => ⟨fun _ => go_in (e194_60 ⟨rfl, rfl, hF2, hv2⟩), fun q => absurd ((iz_0le ⟨by omega, by omega⟩).mpr (by omega)) q⟩⟩
  refine e194_6 ⟨fun e => ?_, fun e => ?_⟩
  · rw [iz_lt0 ⟨by omega, by omega⟩] at e
    exact tail _ none N hF (fun q => by omega)
  · rw [iz_lt0 ⟨by omega, by omega⟩] at e
    have hi : (iz fm).toNatClampNeg = fm.toNat := iz_nat ⟨by omega, by omega⟩
    refine ⟨iz_in (by omega) (by omega) (by decide), ?_⟩
    rw [hi]
    refine tail _ none _ (hF.sI rfl) fun _ f hf => ?_
    rw [sI_v]
    unfold vBy
    rw [if_neg e]
    by_cases e2 : f = fm.toNat
    · rw [if_pos ⟨rfl, e2⟩, if_pos (by omega)]
    · rw [if_neg (fun q => e2 q.2), if_neg (by omega), hv f hf]
      unfold wRf
      rw [if_pos (by decide)]
def ncd (w : Nat → Nat) (fm : Int) : Nat := if fm < 0 then 4 ^ w 8 else 4
theorem c195 (hw : MR w M) (hb : WB w) {fm : Int} (h1 : -1 ≤ fm) (h2 : fm < w 8) : SC (d + 2) 195 [.ref 768, .int (iz fm)] M (fun vs N => vs = [.int (nI (ncd w fm))] ∧ N = M) := by
  obtain ⟨w0, w8, w9⟩ := wb_w hb
  refine sC (by decide) rfl (go_in (e195_0 ?_))
  have tail : ∀ (o1 o3 : Option Value) x, (w 8 ≠ 0 → x = ncd w fm) → WM (d + 1) 195 (fun vs N => vs = [.int (nI (ncd w fm))] ∧ N = M) 26 [some (.ref 768), o1, some (.int (nI x)), o3] [] M := by
    intro o1 o3 x hx
    refine go_in (e195_26 (useC (c135 hw) fun vs N h => ?_))
    obtain ⟨rfl, rfl⟩ := h
    refine e195_30 ⟨fun e => ?_, fun e => ?_⟩
    · rw [show (0 : Int32) = nI 0 from rfl, nI_eq (by omega) (by decide)] at e
      rw [hx e]
      exact go_in (e195_37 (go_in (e195_38 ⟨rfl, rfl, rfl⟩)))
    · rw [show (0 : Int32) = nI 0 from rfl, nI_eq (by omega) (by decide)] at e
      refine go_in (e195_38 ⟨rfl, ?_, rfl⟩)
      unfold ncd
      rw [if_pos (by omega), e]
  have loop : ∀ k f, f + k = w 8 → 1 ≤ f → fm < 0 → WM (d + 1) 195 (fun vs N => vs = [.int (nI (ncd w fm))] ∧ N = M) 4 [some (.ref 768), some (.int (iz fm)), some (.int (nI (4 ^ f))), some (.int (nI f))] [] M := by
    intro k
    induction k with
    | zero =>
      intro f hf h hn
      refine go_in (e195_4 (useC (c135 hw) fun vs N h => ?_))
      obtain ⟨rfl, rfl⟩ := h
      refine e195_9 (br_t (nI_le (by omega) (by omega)) (tail _ _ _ fun _ => ?_))
      unfold ncd
      rw [if_pos hn, show f = w 8 by omega]
    | succ k ih =>
      intro f hf h hn
      refine go_in (e195_4 (useC (c135 hw) fun vs N h => ?_))
      obtain ⟨rfl, rfl⟩ := h
      refine e195_9 (br_f (nI_ge (by omega) (by omega)) (br_f (fun q => ?_) ?_))
      · rw [iz_0le ⟨by omega, by omega⟩] at q; omega
      · rw [nI_s, nI_mul, ← Nat.pow_succ]
        exact ih (f + 1) (by omega) (by omega) hn
  by_cases hn : fm < 0
  · by_cases h0 : w 8 = 0
    · refine go_in (e195_4 (useC (c135 hw) fun vs N h => ?_))
      obtain ⟨rfl, rfl⟩ := h
      exact e195_9 (br_t (nI_le (by omega) (by omega)) (tail _ _ 4 fun q => absurd h0 q))
    · exact loop (w 8 - 1) 1 (by omega) (by omega) hn
  · refine go_in (e195_4 (useC (c135 hw) fun vs N h => ?_))
    obtain ⟨rfl, rfl⟩ := h
    have hx : w 8 ≠ 0 → 4 = ncd w fm := fun _ => by unfold ncd; rw [if_neg hn]
    exact e195_9 ⟨fun _ => tail _ _ 4 hx, fun _ => ⟨fun _ => tail _ _ 4 hx, fun q => absurd ((iz_0le ⟨by omega, by omega⟩).mpr (by omega)) q⟩⟩
def rBy (w : Nat → Nat) (fm : Int) : Nat := if fm < 0 then 0 else w 10
theorem rBy_lt (hb : WB w) {fm : Int} : rBy w fm < w 9 := by
  have h1 := hb.2.2.2.1.2.1.1
  have h2 := hb.2.2.2.1.2.2.1
  unfold rBy
  split <;> omega
theorem c196 (hw : MR w M) (hb : WB w) (hD : DRel w ta M) (hp : NP M) {fm : Int} (h1 : -1 ≤ fm) (h2 : fm < w 8) {l c : Nat} (hl : l ≤ 7) (hc : c < 64) (hc3 : 0 ≤ fm → c ≤ 3) : SC (d + 8) 196 [.ref 768, .int (iz fm), .int (nI l), .int (nI c)] M (fun vs N => vs = [] ∧ Fr aYB M N ∧ YRes w (rBy w fm) (vBy w ta fm l c) l N) := by
  obtain ⟨w0, w8, w9⟩ := wb_w hb
  refine sC (by decide) rfl (go_in (e196_0 (useC (c194 hw hb hD hp h1 h2 hl hc) fun vs N h => ?_)))
  obtain ⟨rfl, hF, hv⟩ := h
  have hwN := hw.of hF (fun j _ => rfl)
  have fin : ∀ (L : Lo) (hL : trim 0 L = [none, none, none, none] ∨ trim 1 L = [some (.ref 768), none, none, none]), True := fun _ _ => trivial
  have last : SC (d + 7) 173 [.ref 768, .int (nI l), .int (nI (rBy w fm))] N (fun vs N2 => vs = [] ∧ Fr aYB M N2 ∧ YRes w (rBy w fm) (vBy w ta fm l c) l N2) := by
    refine useC (upC (c173 (d := d) hwN hb hv (fun f => vBy_le hc3) hl (rBy_lt hb)) (by omega)) fun vs N2 h => ?_
    obtain ⟨rfl, hF2, hY⟩ := h
    exact ⟨rfl, (hF.le aYB_w).tr (hF2.le aYB_y), fun f hf => by rw [(hF2 _ _ rfl).1]; exact hv f hf, hY⟩
  refine e196_7 ⟨fun e => ?_, fun e => ?_⟩
  · rw [iz_0le ⟨by omega, by omega⟩] at e
    have hr : rBy w fm = w 10 := by unfold rBy; rw [if_neg (by omega)]
    refine go_in (e196_17 (useC (upC (c174 (d := d) hwN) (by omega)) fun vs N2 h => ?_))
    obtain ⟨rfl, rfl⟩ := h
    refine e196_21_1 ?_
    rw [← hr]
    exact useC last fun vs N3 h => by
      obtain ⟨rfl, h⟩ := h
      exact e196_24_1 ⟨rfl, rfl, h⟩
  · rw [iz_0le ⟨by omega, by omega⟩] at e
    have hr : rBy w fm = 0 := by unfold rBy; rw [if_pos (by omega)]
    refine go_in (e196_21 ?_)
    rw [← hr]
    exact useC last fun vs N3 h => by
      obtain ⟨rfl, h⟩ := h
      exact e196_24 ⟨rfl, rfl, h⟩
/-- what it brings: a farm, or all -/
def gBy (w : Nat → Nat) (fm : Int) (v : Nat → Nat) (l : Nat) : Int := if fm < 0 then gaW w (rBy w fm) v l (w 8) else gnW w (rBy w fm) v l fm.toNat
theorem c197 (hb : WB w) {fm : Int} (h1 : -1 ≤ fm) (h2 : fm < w 8) {v : Nat → Nat} {l : Nat} (hY : YV w (rBy w fm) v l M) : SC (d + 1) 197 [.ref 768, .int (iz fm)] M (fun vs N => vs = [.int (iz (gBy w fm v l))] ∧ N = M) := by
  obtain ⟨w0, w8, w9⟩ := wb_w hb
  refine sC (by decide) rfl (go_in (e197_0 ⟨fun e => ?_, fun e => ?_⟩))
  · rw [iz_0le ⟨by omega, by omega⟩] at e
    refine go_in (e197_11 ⟨iz_in (by omega) (by omega) (by decide), ?_⟩)
    rw [iz_nat ⟨by omega, by omega⟩, hY.2.1 _ (by omega)]
    exact go_in (e197_17 ⟨rfl, by unfold gBy; rw [if_neg (by omega)], rfl⟩)
  · rw [iz_0le ⟨by omega, by omega⟩] at e
    rw [hY.2.2.1]
    exact go_in (e197_17 ⟨rfl, by unfold gBy; rw [if_pos (by omega)], rfl⟩)
theorem c131 {a b c : Int} (ha : i32 a) (hb : i32 b) (hc : i32 c) : SC (d + 1) 131 [.int (iz a), .int (iz b), .int (iz c)] M (fun vs N => vs = [.int (nI (if b ≤ a ∧ a ≤ c then 1 else 0))] ∧ N = M) := by
  refine sC (by decide) rfl (go_in (e131_0 ⟨fun e => ?_, fun e => ⟨fun e2 => ?_, fun e2 => ?_⟩⟩))
  · rw [iz_lt ha hb] at e
    exact go_in (e131_14 (go_in (e131_15 ⟨Or.inl rfl, rfl, by rw [if_neg (by omega)], rfl⟩)))
  · rw [iz_lt hc ha] at e2
    exact go_in (e131_14 (go_in (e131_15 ⟨Or.inl rfl, rfl, by rw [if_neg (by omega)], rfl⟩)))
  · rw [iz_lt ha hb] at e
    rw [iz_lt hc ha] at e2
    exact go_in (e131_15 ⟨Or.inr rfl, rfl, by rw [if_pos (by omega)], rfl⟩)
theorem b01 {P : Prop} [Decidable P] : nI (if P then 1 else 0) = 0 ↔ ¬ P := by
  by_cases h : P
  · rw [if_pos h]; exact ⟨fun e => absurd e (by decide), fun e => absurd h e⟩
  · rw [if_neg h]; exact ⟨fun _ => h, fun _ => rfl⟩
theorem c137 (hw : MR w M) (hb : WB w) {a : Int} (ha : i32 a) : SC (d + 2) 137 [.ref 768, .int (iz a)] M (fun vs N => vs = [.int (nI (if 0 ≤ a ∧ a ≤ w 0 then 0 else 1))] ∧ N = M) := by
  obtain ⟨w0, w8, w9⟩ := wb_w hb
  refine sC (by decide) rfl (go_in (e137_0 (useC (c134 hw) fun vs N h => ?_)))
  obtain ⟨rfl, rfl⟩ := h
  refine e137_6 ?_
  rw [iz_n, iz_n]
  refine useC (c131 ha i32_0 ⟨by omega, by omega⟩) fun vs N2 h => ?_
  obtain ⟨rfl, rfl⟩ := h
  refine e137_9 ⟨fun e => ?_, fun e => ?_⟩
  · rw [b01] at e
    exact go_in (e137_16 (go_in (e137_17 ⟨Or.inl rfl, rfl, by rw [if_pos (by simpa using e)], rfl⟩)))
  · rw [b01] at e
    exact go_in (e137_17 ⟨Or.inr rfl, rfl, by rw [if_neg (by simpa using e)], rfl⟩)
theorem c138 (hw : MR w M) (hb : WB w) {a : Int} (ha : i32 a) : SC (d + 2) 138 [.ref 768, .int (iz a)] M (fun vs N => vs = [.int (nI (if 0 ≤ a ∧ a < w 8 then 0 else 1))] ∧ N = M) := by
  obtain ⟨w0, w8, w9⟩ := wb_w hb
  refine sC (by decide) rfl (go_in (e138_0 (useC (c135 hw) fun vs N h => ?_)))
  obtain ⟨rfl, rfl⟩ := h
  refine e138_6 ?_
  rw [decr0, iz_n]
  refine useC (c131 ha i32_0 ⟨by omega, by omega⟩) fun vs N2 h => ?_
  obtain ⟨rfl, rfl⟩ := h
  refine e138_11 ⟨fun e => ?_, fun e => ?_⟩
  · rw [b01] at e
    exact go_in (e138_18 (go_in (e138_19 ⟨Or.inl rfl, rfl, by rw [if_pos (by omega)], rfl⟩)))
  · rw [b01] at e
    exact go_in (e138_19 ⟨Or.inr rfl, rfl, by rw [if_neg (by omega)], rfl⟩)
theorem c139 (hw : MR w M) (hb : WB w) {a : Int} (ha : i32 a) : SC (d + 2) 139 [.ref 768, .int (iz a)] M (fun vs N => vs = [.int (nI (if 0 ≤ a ∧ a < w 11 then 0 else 1))] ∧ N = M) := by
  have w11 : w 11 ≤ 6 := hb.2.2.2.1.2.2.2.1
  refine sC (by decide) rfl (go_in (e139_0 ?_))
  rw [nI_c (by decide), hw.n (i := 11) (by decide) rfl, decr0, iz_n]
  refine ⟨nI_in2 (by decide) (by decide), useC (c131 ha i32_0 ⟨by omega, by omega⟩) fun vs N2 h => ?_⟩
  obtain ⟨rfl, rfl⟩ := h
  refine e139_14 ⟨fun e => ?_, fun e => ?_⟩
  · rw [b01] at e
    exact go_in (e139_21 (go_in (e139_22 ⟨Or.inl rfl, rfl, by rw [if_pos (by omega)], rfl⟩)))
  · rw [b01] at e
    exact go_in (e139_22 ⟨Or.inr rfl, rfl, by rw [if_neg (by omega)], rfl⟩)
/-- throwsIf -/
theorem c130 {c : Nat} {e : Bool} : SC (d + 1) 130 [.ref 768, .int (nI (cond e 1 0)), .int (nI c)] M (fun vs N => vs = [.int (nI (cond e 1 0))] ∧ N = cond e (sI M 768 0 (nI c)) M) := by
  refine sC (by decide) rfl (go_in (e130_0 ⟨fun q => ?_, fun q => ?_⟩))
  · cases e with
    | false => exact go_in (e130_9 ⟨Or.inl rfl, rfl, rfl, rfl⟩)
    | true => exact absurd q (by decide)
  · cases e with
    | false => exact absurd rfl q
    | true => exact go_in (e130_9 ⟨Or.inr rfl, rfl, rfl, rfl⟩)
theorem c129 : SC (d + 1) 129 [.ref 768] M (fun vs N => vs = [.int (M.1 768 0)] ∧ N = M) := sC (by decide) rfl (go_in (e129_0 ⟨rfl, rfl, rfl⟩))
end BY2
