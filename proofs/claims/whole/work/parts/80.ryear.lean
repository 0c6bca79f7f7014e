/-! The reference: its year. -/
theorem iz_s1 (a : Int) (b : Nat) : iz a + nI b = iz (a + b) := by rw [iz_n, iz_add]
def aYB (k j : Nat) : Bool := aWant k j || aYearR k j
theorem aYB_w : ∀ k j, aYB k j = false → aWant k j = false := fun k j h => (Bool.or_eq_false_iff.mp h).1
theorem aYB_y : ∀ k j, aYB k j = false → aYearR k j = false := fun k j h => (Bool.or_eq_false_iff.mp h).2
def WR (w : Nat → Nat) (v : Nat → Nat) (M : Mm) : Prop := ∀ f, f < w 8 → M.1 50192 f = nI (v f)
theorem yW_3 {w : Nat → Nat} {r : Nat} : yW w r 3 = w (32 + 5 * r + 1) := rfl
theorem yW_2 {w : Nat → Nat} {r : Nat} : yW w r 2 = w 8 := rfl
section HY
variable {d : Nat} {M : Mm} {w : Nat → Nat} {ta : Nat → Nat → Nat → Nat}
set_option maxHeartbeats 1000000 in
theorem c173 (hw : MR w M) (hb : WB w) {v : Nat → Nat} (hv : WR w v M) (hv3 : ∀ f, v f ≤ 3) {l r : Nat} (hl : l ≤ 7) (hr : r < w 9) : SC (d + 3) 173 [.ref 768, .int (nI l), .int (nI r)] M (fun vs N => vs = [] ∧ Fr aYearR M N ∧ YV w r v l N) := by
  obtain ⟨w0, w8, w9⟩ := wb_w hb
  have a3 := hb.1.2.2
  obtain ⟨⟨p1, p2, p3⟩, p4, p5⟩ := hb.2.2.2.2.2.2.1 r hr
  refine sC (by decide) rfl (go_in (e173_0 ?_))
  rw [nI_mul, nI_add, nI_add, nI_c (by omega), hw.n (by omega) (shf_no (by omega))]
  refine ⟨nI_in2 (by omega) (by decide), ?_⟩
  rw [iz_n, iz_n, iz_n, iz_sub]
  refine useC (c230 i32_0 ⟨by omega, by omega⟩) fun vs N h => ?_
  obtain ⟨rfl, rfl⟩ := h
  rw [show max ((0 : Nat) : Int) ((l : Int) - (w (32 + 5 * r + 1) : Nat)) = ((l - w (32 + 5 * r + 1) : Nat) : Int) by omega, iz_nn, iz_nn]
  obtain ⟨a, ha⟩ : ∃ a, a = l - w (32 + 5 * r + 1) := ⟨_, rfl⟩
  rw [← ha]
  have hal : a ≤ l := by omega
  refine e173_19 ?_
  have loop : ∀ k f N', f + k = w 8 → Fr aYearR N N' → (∀ g, g < f → N'.1 50193 g = nI (gt v a g) ∧ N'.1 50194 g = iz (gnW w r v l g)) → N'.1 768 21 = iz (gaW w r v l f) →
      WM (d + 2) 173 (fun vs N' => vs = [] ∧ Fr aYearR N N' ∧ YV w r v l N') 31 [some (.ref 768), some (.int (nI l)), some (.int (nI r)), some (.int (nI (rst v a f))), some (.int (nI (sgt v a f))), some (.int (nI f))] [] N' := by
    intro k
    induction k with
    | zero =>
      intro f N' hf hF hd h21
      have hf : f = w 8 := by omega
      subst hf
      obtain ⟨l1, l2⟩ := lw_sg (v := v) hal (w 8)
      have hwN := hw.of hF (fun j _ => rfl)
      refine go_in (e173_31 (useC (upC (c135 (d := d) hwN) (by omega)) fun vs N2 h => ?_))
      obtain ⟨rfl, rfl⟩ := h
      refine e173_37 (br_t (nI_le (Nat.le_refl _) (by omega)) ?_)
      have fin : ∀ (o1 o2 o3 o4 o5 : Option Value) (x : Nat), x = lkd (kW w) (lw v a l (w 8)) → WM (d + 2) 173 (fun vs N' => vs = [] ∧ Fr aYearR N N' ∧ YV w r v l N') 160 [some (.ref 768), o1, o2, o3, o4, o5] [.int (nI x), .ref 768] (sI N2 768 19 (nI (lw v a l (w 8)))) := by
        intro o1 o2 o3 o4 o5 x hx
        have hx1 := lkd_le (k := kW w) (x := lw v a l (w 8)) (by unfold kW; omega)
        refine go_in (e173_160 ⟨rfl, rfl, ((hF.sI rfl).sI rfl).sI rfl, ?_, ?_, ?_, ?_, ?_⟩)
        · intro g hg
          rw [sI_v, if_neg (by omega), sI_v, if_neg (by omega), sI_v, if_neg (by omega), ← ha]
          exact (hd g hg).1
        · intro g hg
          rw [sI_v, if_neg (by omega), sI_v, if_neg (by omega), sI_v, if_neg (by omega)]
          exact (hd g hg).2
        · rw [sI_v, if_neg (by omega), sI_v, if_neg (by omega), sI_v, if_neg (by omega)]
          exact h21
        · rw [sI_v, if_pos ⟨rfl, rfl⟩, sI_v, if_neg (by omega), sI_v, if_pos ⟨rfl, rfl⟩, sI_v, if_pos ⟨rfl, rfl⟩, nI_sub (by omega), hx]
          unfold lowS
          rw [yW_3, yW_2, ← ha]
        · rw [sI_v, if_neg (by omega), sI_v, if_pos ⟨rfl, rfl⟩, hx, ← ha]
      have ebl : nI l - nI (sgt v a (w 8)) = nI (lw v a l (w 8)) := by rw [nI_sub l2, l1]
      have ek : ∀ x, (sI N2 768 19 x).1 50177 (nI 1).toNatClampNeg = iz (kW w) := fun x => by rw [nI_c (by decide), sI_v, if_neg (by omega), hwN.s (i := 1) (by decide) rfl]; rfl
      have hk : -1 ≤ kW w ∧ kW w ≤ 7 := by unfold kW; omega
      have hlw := lw_le (v := v) (a := a) (l := l) (w 8)
      refine go_in (e173_124 ?_)
      rw [ek, ebl, sI_at]
      refine ⟨nI_in2 (by decide) (by decide), fun e => ?_, fun e => ⟨nI_in2 (by decide) (by decide), fun e2 => ?_, fun e2 => ?_⟩⟩
      · rw [iz_lt0 ⟨by omega, by omega⟩] at e
        exact go_in (e173_159 (fin _ _ _ _ _ 0 (by unfold lkd; rw [if_pos (by omega)])))
      · rw [iz_lt0 ⟨by omega, by omega⟩] at e
        rw [iz_n, iz_le ⟨by omega, by omega⟩ ⟨by omega, by omega⟩] at e2
        exact go_in (e173_159 (fin _ _ _ _ _ 0 (by unfold lkd; rw [if_neg (by omega), if_pos e2])))
      · rw [iz_lt0 ⟨by omega, by omega⟩] at e
        rw [iz_n, iz_le ⟨by omega, by omega⟩ ⟨by omega, by omega⟩] at e2
        exact fin _ _ _ _ _ 1 (by unfold lkd; rw [if_neg (by omega), if_neg e2])
    | succ k ih =>
      intro f N' hf hF hd h21
      have hwN := hw.of hF (fun j _ => rfl)
      have hv3f := hv3 f
      have hrs := rst_le (v := v) (a := a) f
      have hgv := gt_le (v := v) (a := a) (f := f)
      have hgr : gt v a f ≤ rst v a f := Nat.min_le_right _ _
      refine go_in (e173_31 (useC (upC (c135 (d := d) hwN) (by omega)) fun vs N2 h => ?_))
      obtain ⟨rfl, rfl⟩ := h
      have hwv : N2.1 50192 f = nI (v f) := by rw [(hF 50192 f rfl).1]; exact hv f (by omega)
      refine e173_37 (br_f (nI_ge (by omega) (by omega)) ⟨nI_in2 (by omega) (by decide), ?_⟩)
      rw [nI_c (by omega), hwv, iz_n, iz_n (rst v a f)]
      refine useC (upC (c231 (d := d) (a := (v f : Int)) (b := (rst v a f : Int)) ⟨by omega, by omega⟩ ⟨by omega, by omega⟩) (by omega)) fun vs N3 h => ?_
      obtain ⟨rfl, rfl⟩ := h
      rw [show min ((v f : Nat) : Int) ((rst v a f : Nat) : Int) = ((gt v a f : Nat) : Int) by unfold gt; omega, iz_nn, iz_nn]
      refine e173_57 ⟨nI_in2 (by omega) (by decide), nI_in2 (by omega) (by decide), nI_in2 (by omega) (by decide), nI_in2 (by omega) (by decide), ?_⟩
      rw [nI_c (by omega), sI_at, nI_sub hgr, nI_add]
      have hF2 : Fr aYearR N (sI N3 50193 f (nI (gt v a f))) := hF.sI rfl
      refine useC (c172 (hw.of hF2 (fun j _ => rfl)) hb (show f < w 8 by omega) (show gt v a f < 4 by omega) hl hr) fun vs N4 h => ?_
      obtain ⟨rfl, rfl⟩ := h
      refine e173_101 ⟨nI_in2 (by omega) (by decide), nI_in2 (by omega) (by decide), ?_⟩
      have eg : foW w r (cstW w) f l (gt v a f) = gnW w r v l f := by unfold gnW; rw [← ha]
      have e21 : ∀ z, (sI (sI N3 50193 f (nI (gt v a f))) 50194 f z).1 768 21 = iz (gaW w r v l f) := fun z => by
        rw [sI_v, if_neg (by omega), sI_v, if_neg (by omega)]; exact h21
      rw [nI_s, nI_c (by omega), eg, e21, sI_at, iz_add]
      refine ih (f + 1) _ (by omega) ((hF2.sI rfl).sI rfl) (fun g hg => ?_) ?_
      · refine ⟨?_, ?_⟩
        · rw [sI_v, if_neg (by omega), sI_v, if_neg (by omega), sI_v]
          by_cases e : g = f
          · subst e; rw [if_pos ⟨rfl, rfl⟩]
          · rw [if_neg (by omega)]; exact (hd g (by omega)).1
        · rw [sI_v, if_neg (by omega), sI_v]
          by_cases e : g = f
          · subst e; rw [if_pos ⟨rfl, rfl⟩]
          · rw [if_neg (by omega), sI_v, if_neg (by omega)]; exact (hd g (by omega)).2
      · rw [sI_v, if_pos ⟨rfl, rfl⟩]; rfl
  refine loop (w 8) 0 _ (by omega) (Fr.sI (k := 768) (j := 21) Fr.rf rfl) (fun g h => absurd h (Nat.not_lt_zero g)) ?_
  rw [sI_v, if_pos ⟨rfl, rfl⟩]; rfl
/-- a year with these wants, by rule r -/
def YRes (w : Nat → Nat) (r : Nat) (v : Nat → Nat) (l : Nat) (N : Mm) : Prop := WR w v N ∧ YV w r v l N
theorem c176 (hw : MR w M) (hb : WB w) (hD : DRel w ta M) {pn : Int} {pd : Nat} (hp : PN w pn pd M) {l b : Nat} (hl : l ≤ 7) (hbb : b ≤ 1) : SC (d + 7) 176 [.ref 768, .int (nI l), .int (nI b)] M (fun vs N => vs = [] ∧ Fr aYB M N ∧ YRes w (w 10) (wRf w ta pn pd b l) l N) := by
  refine sC (by decide) rfl (go_in (e176_0 (useC (c175 hw hb hD hp hl hbb) fun vs N h => ?_)))
  obtain ⟨rfl, hF, hv⟩ := h
  refine e176_6 (useC (upC (c174 (d := d) (hw.of hF (fun j _ => rfl))) (by omega)) fun vs N2 h => ?_)
  obtain ⟨rfl, rfl⟩ := h
  refine e176_12 (useC (upC (c173 (d := d) (hw.of hF (fun j _ => rfl)) hb (show WR w (wRf w ta pn pd b l) N2 from hv) (fun f => wRf_le hp.2.2.2.1) hl hb.2.2.2.1.2.2.1) (by omega)) fun vs N3 h => ?_)
  obtain ⟨rfl, hF3, hY⟩ := h
  exact e176_15 ⟨rfl, rfl, (hF.le aYB_w).tr (hF3.le aYB_y), fun f hf => by rw [(hF3 _ _ rfl).1]; exact hv f hf, hY⟩
theorem c177 (hw : MR w M) (hb : WB w) {a r : Nat} (ha : a ≤ 100) (hr : r ≤ 100) : SC (d + 2) 177 [.ref 768, .int (nI a), .int (nI r)] M (fun vs N => vs = [.int (nI (min (w 0) (a + r)))] ∧ N = M) := by
  have h0 := (wb_w hb).1
  refine sC (by decide) rfl (go_in (e177_0 (useC (c134 hw) fun vs N h => ?_)))
  obtain ⟨rfl, rfl⟩ := h
  refine e177_4 ?_
  rw [nI_add, iz_n, iz_n]
  refine useC (c231 (i32_n (by omega)) (i32_n (by omega))) fun vs N2 h => ?_
  obtain ⟨rfl, rfl⟩ := h
  rw [show min ((w 0 : Nat) : Int) ((a + r : Nat) : Int) = ((min (w 0) (a + r) : Nat) : Int) by omega, iz_nn]
  exact e177_10 ⟨rfl, rfl, rfl⟩
/-- the sum over the rain's parts -/
theorem c187 (hw : MR w M) (hb : WB w) {x off low q : Nat} {R : Nat → Int} (hx : isAr x = true) (ht : typ x = 2) (ho : off + w 0 < len x) (hlx : len x < 1000) (hR : ∀ j, j ≤ w 0 → M.2.1 x (off + j) = lz (R j)) (hl : low ≤ 7) : SC (d + 3) 187 [.ref 768, .ref x, .int (nI off), .int (nI low)] M (fun vs N => vs = [.long (lz (aws (yW w q) R low 4 * (w 6 : Int)))] ∧ N = M) := by
  obtain ⟨w0, w8, w9⟩ := wb_w hb
  have hp : ∀ r, r < 4 → w (2 + r) ≤ 4 := hb.2.1.1
  have h67 := hb.2.2.1
  refine sC (by decide) rfl (go_in (e187_0 ?_))
  have loop : ∀ k r, r + k = 4 → WM (d + 2) 187 (fun vs N => vs = [.long (lz (aws (yW w q) R low 4 * (w 6 : Int)))] ∧ N = M) 6 [some (.ref 768), some (.ref x), some (.int (nI off)), some (.int (nI low)), some (.long (lz (aws (yW w q) R low r))), none, some (.int (nI r))] [] M := by
    intro k
    induction k with
    | zero =>
      intro r hr
      have hr : r = 4 := by omega
      subst hr
      refine go_in (e187_6 (br_t (nI_le (Nat.le_refl _) (by decide)) (go_in (e187_45 ?_))))
      rw [nI_c (by decide), hw.n (by decide) rfl, iz_n (w 6), iz_l ⟨by omega, by omega⟩, lz_mul]
      exact ⟨nI_in2 (by decide) (by decide), rfl, rfl, rfl⟩
    | succ k ih =>
      intro r hr
      have hpr := hp r (by omega)
      refine go_in (e187_6 (br_f (nI_ge (by omega) (by decide)) (useC (c177 hw hb (show low ≤ 100 by omega) (show r ≤ 100 by omega)) fun vs N h => ?_)))
      obtain ⟨rfl, rfl⟩ := h
      refine e187_23 ⟨⟨hx, ht, by rw [nI_add]; exact nI_in2 (by omega) (by omega)⟩, by rw [nI_add]; exact nI_in2 (by omega) (by decide), ?_⟩
      have ey : w (2 + r) = yW w q (7 + r) := by rcases (show r = 0 ∨ r = 1 ∨ r = 2 ∨ r = 3 by omega) with e | e | e | e <;> subst e <;> rfl
      rw [nI_add, nI_add, nI_c (a := 2 + r) (by omega), nI_c (by omega), hw.n (by omega) (shf_no (by omega)), hR _ (Nat.min_le_left _ _), nI_s, iz_n (w (2 + r)), iz_l ⟨by omega, by omega⟩, lz_mul, lz_add, Int.mul_comm (R _), ey]
      exact ih (r + 1) (by omega)
  exact loop 4 0 rfl
theorem c188 {b f l : Nat} : SC (d + 1) 188 [.int (nI b), .int (nI f), .int (nI l)] M (fun vs N => vs = [.int (nI (8 * (3 * b + f) + l))] ∧ N = M) :=
  sC (by decide) rfl (go_in (e188_0 ⟨rfl, by rw [nI_mul, nI_add, nI_mul, nI_add], rfl⟩))
end HY
