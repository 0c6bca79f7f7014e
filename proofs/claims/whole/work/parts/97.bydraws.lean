/-! The reference: the worths by draws; how great they are. -/
theorem bd_mul {X Y x y : Int} (hx : bd X x) (hy : bd Y y) : bd (X * Y) (x * y) := by
  obtain ⟨a, b⟩ := hx
  obtain ⟨c, e⟩ := hy
  have h1 := Int.mul_nonneg (show 0 ≤ X - x by omega) (show 0 ≤ Y + y by omega)
  have h2 := Int.mul_nonneg (show 0 ≤ X + x by omega) (show 0 ≤ Y - y by omega)
  have h3 := Int.mul_nonneg (show 0 ≤ X - x by omega) (show 0 ≤ Y - y by omega)
  have h4 := Int.mul_nonneg (show 0 ≤ X + x by omega) (show 0 ≤ Y + y by omega)
  have e1 : (X - x) * (Y + y) + (X + x) * (Y - y) = 2 * (X * Y) - 2 * (x * y) := by grind
  have e2 : (X - x) * (Y - y) + (X + x) * (Y + y) = 2 * (X * Y) + 2 * (x * y) := by grind
  exact ⟨by omega, by omega⟩
theorem bd_n {n m : Nat} (h : n ≤ m) : bd (m : Int) (n : Int) := ⟨by omega, by omega⟩
theorem bd_add {X Y x y : Int} (hx : bd X x) (hy : bd Y y) : bd (X + Y) (x + y) := ⟨by have := hx.1; have := hy.1; omega, by have := hx.2; have := hy.2; omega⟩
theorem bd_sub {X Y x y : Int} (hx : bd X x) (hy : bd Y y) : bd (X + Y) (x - y) := ⟨by have := hx.1; have := hy.2; omega, by have := hx.2; have := hy.1; omega⟩
theorem bd_le {X Y x : Int} (hx : bd X x) (h : X ≤ Y) : bd Y x := ⟨by have := hx.1; omega, by have := hx.2; omega⟩
theorem bd_i32 {x : Int} (h : bd 8000 x) : i32 x := ⟨by have := h.1; omega, by have := h.2; omega⟩
section HB
variable {w : Nat → Nat}
theorem foW_bd (hb : WB w) {r f l n : Nat} (hr : r < w 9) (hf : f < w 8) (hl : l ≤ 7) (hn : n ≤ 3) : bd 2448 (foW w r (cstW w) f l n) := by
  obtain ⟨w0, -, -⟩ := wb_w hb
  have a3 := hb.1.2.1
  obtain ⟨⟨p1, p2, p3⟩, p4, p5⟩ := hb.2.2.2.2.2.2.1 r hr
  obtain ⟨⟨q1, q2, q3⟩, q4, q5⟩ := hb.2.2.2.2.2.1 f hf
  have hbr : brg w f n ≤ 99 := by
    unfold brg
    split
    · omega
    · rcases (show n = 1 ∨ n = 2 ∨ n = 3 by omega) with e | e | e <;> subst e
      · rw [show 16 + 5 * f + 1 = 17 + 5 * f by omega]; exact q1
      · rw [show 16 + 5 * f + 2 = 18 + 5 * f by omega]; exact q2
      · rw [show 16 + 5 * f + 3 = 19 + 5 * f by omega]; exact q3
  have hc : cstW w f ≤ 9 := q4
  have h1 := bd_mul (bd_mul (bd_n hn) (bd_n hc)) (show bd 7 ((w 0 : Int) - (l : Int)) from ⟨by omega, by omega⟩)
  have h2 := bd_mul (bd_n (n := 4) (m := 4) (by omega)) (bd_sub (bd_n hbr) h1)
  have h3 := bd_mul (bd_mul (bd_n (n := 4) (m := 4) (by omega)) (bd_n hn)) (bd_n p1)
  have h4 := bd_mul (show bd 3 (max 0 ((n : Int) - (w (32 + 5 * r + 2) : Int))) from ⟨by omega, by omega⟩) (bd_mul (bd_n p4) (bd_n p5))
  unfold foW plW
  exact bd_le (bd_sub (bd_sub h2 h3) h4) (by decide)
theorem gnW_bd (hb : WB w) {r f l : Nat} {v : Nat → Nat} (hr : r < w 9) (hf : f < w 8) (hl : l ≤ 7) (hv : ∀ f, v f ≤ 3) : bd 2448 (gnW w r v l f) := by
  have := hv f
  have h : gt v (l - w (32 + 5 * r + 1)) f ≤ v f := Nat.min_le_left _ _
  exact foW_bd hb hr hf hl (by omega)
theorem RSQ_MM (hb : WB w) (lo : Nat → Nat) : MM (RSQ w lo) (w 0 + 1) ∧ ∀ i, i < w 0 + 1 → 1 ≤ sm (RSQ w lo i) (w 0 + 1) := by
  have h9 : 0 < w 9 := by have := hb.2.2.2.1.2.1.1; omega
  have w7 := hb.2.2.1
  have w2 := hb.2.1.2
  obtain ⟨h1, h2⟩ := Wm_MM (yB_of hb h9) (lo := lo) (p := w 6) (q := w 7) w7.2.1
  refine ⟨h1, fun i hi => Int.le_trans ?_ (h2 i hi)⟩
  have : 0 < ((w 2 + w 3 + w 4 + w 5 : Nat) : Int) * ((w 7 : Int) - (w 6 : Int)) := Int.mul_pos (by omega) (by omega)
  exact this
theorem d20 (hb : WB w) : 0 < (w 7 : Int) * ((w 2 + w 3 + w 4 + w 5 : Nat) : Int) ∧ (w 7 : Int) * ((w 2 + w 3 + w 4 + w 5 : Nat) : Int) ≤ 20 := by
  have w7 := hb.2.2.1
  have w2 := hb.2.1.2
  refine ⟨Int.mul_pos (by omega) (by omega), ?_⟩
  have := (bd_mul (bd_n (show w 7 ≤ 5 by omega)) (bd_n (show w 2 + w 3 + w 4 + w 5 ≤ 4 by omega))).2
  exact this
theorem pow20 {d : Int} (h0 : 0 < d) (h : d ≤ 20) {n : Nat} (hn : n ≤ 8) : d ^ n ≤ 25600000000 := by
  have h1 : d ^ n ≤ 20 ^ n := by
    clear hn
    induction n with
    | zero => rw [Int.pow_zero, Int.pow_zero]; decide
    | succ n ih =>
      rw [Int.pow_succ, Int.pow_succ]
      have h2 : (0 : Int) < d ^ n := Int.pow_pos h0
      exact Int.mul_le_mul ih h (by omega) (Int.le_trans (Int.le_of_lt h2) ih)
  have h3 : (20 : Int) ^ n ≤ 20 ^ 8 := by
    have : ∀ n, n < 9 → (20 : Int) ^ n ≤ 20 ^ 8 := by decide +kernel
    exact this n (by omega)
  exact Int.le_trans h1 h3
theorem RSQ_det (hb : WB w) (lo : Nat → Nat) : 0 < det (RSQ w lo) (w 0 + 1) ∧ det (RSQ w lo) (w 0 + 1) ≤ 25600000000 := by
  obtain ⟨w0, -, -⟩ := wb_w hb
  obtain ⟨h0, h1⟩ := d20 hb
  have h2 := (RSQ_MM hb lo).1
  refine ⟨MM_det _ _ h2, Int.le_trans (MM_le (d := (w 7 : Int) * ((w 2 + w 3 + w 4 + w 5 : Nat) : Int)) (Int.le_of_lt h0) _ _ h2 fun i hi => ?_) (pow20 h0 h1 (by omega))⟩
  unfold RSQ AX pW
  rw [dl_s, Int.one_mul]
  have : 0 ≤ (w 6 : Int) * Wm (yW w 0) lo i i := Int.mul_nonneg (Int.natCast_nonneg _) (Int.natCast_nonneg _)
  omega
theorem crm_bd (hb : WB w) (lo : Nat → Nat) {b : Nat → Int} {X : Int} (hX0 : 0 ≤ X) (hX : ∀ i, i < w 0 + 1 → bd X (b i)) {j : Nat} (hj : j < w 0 + 1) : bd (25600000000 * (X * 20)) (crm (RSQ w lo) (w 0 + 1) (RB w b) j) := by
  obtain ⟨hM, hR⟩ := RSQ_MM hb lo
  obtain ⟨d1, d2⟩ := RSQ_det hb lo
  obtain ⟨e1, e2⟩ := d20 hb
  have h := MM_bd hM (u := crm (RSQ w lo) (w 0 + 1) (RB w b)) (V := 25600000000 * (X * 20)) (R := 1) (by omega) hR (by omega) (fun i hi => by
    rw [cramer_n _ _ _ hi]
    exact bd_mul ⟨by omega, d2⟩ (bd_mul (hX i hi) ⟨by omega, e2⟩)) j hj
  exact ⟨by omega, by omega⟩
/-- low levels by what is wanted at each level; what a farm is paid -/
def loV (w : Nat → Nat) (r : Nat) (V : Nat → Nat → Nat) (l : Nat) : Nat := if l ≤ 7 then lowS (yW w r) (kW w) (V l) l else 0
theorem loV_le {w : Nat → Nat} {r : Nat} {V : Nat → Nat → Nat} (l : Nat) : loV w r V l ≤ 7 := by
  unfold loV
  split
  · unfold lowS
    have := lw_le (v := V l) (a := l - yW w r 3) (l := l) (yW w r 2)
    omega
  · omega
def pyV (w : Nat → Nat) (r : Nat) (V : Nat → Nat → Nat) (f l : Nat) : Int := gnW w r (V l) l f
def uWo (w : Nat → Nat) (r : Nat) (V : Nat → Nat → Nat) (f l : Nat) : Int := crm (RSQ w (loV w r V)) (w 0 + 1) (RB w (pyV w r V f)) l
def dtW (w : Nat → Nat) (r : Nat) (V : Nat → Nat → Nat) : Int := det (RSQ w (loV w r V)) (w 0 + 1)
end HB
section HT
variable {d : Nat} {M : Mm} {w : Nat → Nat} {ta : Nat → Nat → Nat → Nat}
def aBD (k j : Nat) : Bool := aYB k j || (aSv k j || (Nat.beq k 50202 || (Nat.beq k 50203 || (Nat.beq k 50206 || Nat.beq k 50207))))
theorem aBD_y : ∀ k j, aBD k j = false → aYB k j = false := fun k j h => (Bool.or_eq_false_iff.mp h).1
theorem aBD_s : ∀ k j, aBD k j = false → aSv k j = false := fun k j h => (Bool.or_eq_false_iff.mp (Bool.or_eq_false_iff.mp h).2).1
/-- the worths by draws -/
def BYD (w : Nat → Nat) (ta : Nat → Nat → Nat → Nat) (pn : Int) (pd : Nat) (b f : Nat) (N : Mm) : Prop := (∀ l, l < w 0 + 1 → N.2.1 50206 (8 * (3 * b + f) + l) = lz (uWo w (w 10) (wRf w ta pn pd b) f l)) ∧ N.2.1 50207 b = lz (dtW w (w 10) (wRf w ta pn pd b))
set_option maxHeartbeats 1000000 in
theorem c189 (hw : MR w M) (hb : WB w) (hD : DRel w ta M) {pn : Int} {pd : Nat} (hp : PN w pn pd M) : SC (d + 8) 189 [.ref 768] M (fun vs N => vs = [] ∧ Fr aBD M N ∧ ∀ b f, b < 2 → f < w 8 → BYD w ta pn pd b f N) := by
  obtain ⟨w0, w8, w9⟩ := wb_w hb
  have hr10 : w 10 < w 9 := hb.2.2.2.1.2.2.1
  have hv3 : ∀ b l f, wRf w ta pn pd b l f ≤ 3 := fun b l f => wRf_le hp.2.2.2.1
  have ok : ∀ N, Fr aBD M N → MR w N ∧ DRel w ta N ∧ PN w pn pd N := fun N hF => ⟨hw.of hF (fun j _ => rfl), hD.of hF (fun j => rfl), hp.of hF rfl rfl trivial⟩
  refine sC (by decide) rfl (go_in (e189_0 ?_))
  have LB : ∀ k (o2 o3 : Option Value) b N, b + k = 2 → Fr aBD M N → (∀ b' f, b' < b → f < w 8 → BYD w ta pn pd b' f N) → WM (d + 7) 189 (fun vs N => vs = [] ∧ Fr aBD M N ∧ ∀ b f, b < 2 → f < w 8 → BYD w ta pn pd b f N) 2 [some (.ref 768), some (.int (nI b)), o2, o3] [] N := by
    intro k
    induction k with
    | zero =>
      intro o2 o3 b N hbk hF hd
      exact go_in (e189_2 (br_t (nI_le (by omega) (by omega)) (go_in (e189_129 ⟨rfl, rfl, hF, fun b' f h1 h2 => hd b' f (by omega) h2⟩))))
    | succ k ih =>
      intro o2 o3 b N hbk hF hd
      refine go_in (e189_2 (br_f (nI_ge (by omega) (by omega)) ?_))
      have LF : ∀ k2 (o3 : Option Value) f N, f + k2 = w 8 → Fr aBD M N → (∀ b' f, b' < b → f < w 8 → BYD w ta pn pd b' f N) → (∀ f', f' < f → BYD w ta pn pd b f' N) → WM (d + 7) 189 (fun vs N => vs = [] ∧ Fr aBD M N ∧ ∀ b f, b < 2 → f < w 8 → BYD w ta pn pd b f N) 9 [some (.ref 768), some (.int (nI b)), some (.int (nI f)), o3] [] N := by
        intro k2
        induction k2 with
        | zero =>
          intro o3 f N hf hF hd hd2
          obtain ⟨hwN, -, -⟩ := ok N hF
          refine go_in (e189_9 (useC (upC (c135 (d := d) hwN) (by omega)) fun vs N2 h => ?_))
          obtain ⟨rfl, rfl⟩ := h
          refine e189_14 (br_t (nI_le (by omega) (by omega)) (go_in (e189_123 ?_)))
          rw [nI_s]
          refine ih _ _ (b + 1) _ (by omega) hF fun b' f' h1 h2 => ?_
          by_cases e : b' = b
          · subst e; exact hd2 f' (by omega)
          · exact hd b' f' (by omega) h2
        | succ k2 ih2 =>
          intro o3 f N hf hF hd hd2
          obtain ⟨hwN, -, -⟩ := ok N hF
          refine go_in (e189_9 (useC (upC (c135 (d := d) hwN) (by omega)) fun vs N2 h => ?_))
          obtain ⟨rfl, rfl⟩ := h
          refine e189_14 (br_f (nI_ge (by omega) (by omega)) ?_)
          have LE : ∀ k3 l N, l + k3 = w 0 + 1 → Fr aBD M N → (∀ b' f, b' < b → f < w 8 → BYD w ta pn pd b' f N) → (∀ f', f' < f → BYD w ta pn pd b f' N) → (∀ l', l' < w 0 + 1 → N.2.1 50204 l' = lz (uWo w (w 10) (wRf w ta pn pd b) f l')) → N.2.1 50207 b = lz (dtW w (w 10) (wRf w ta pn pd b)) → (∀ l', l' < l → N.2.1 50206 (8 * (3 * b + f) + l') = lz (uWo w (w 10) (wRf w ta pn pd b) f l')) → WM (d + 7) 189 (fun vs N => vs = [] ∧ Fr aBD M N ∧ ∀ b f, b < 2 → f < w 8 → BYD w ta pn pd b f N) 86 [some (.ref 768), some (.int (nI b)), some (.int (nI f)), some (.int (nI l))] [] N := by
            intro k3
            induction k3 with
            | zero =>
              intro l N hl hF hd hd2 hs hdt hdn
              obtain ⟨hwN, -, -⟩ := ok N hF
              refine go_in (e189_86 (useC (upC (c134 (d := d) hwN) (by omega)) fun vs N2 h => ?_))
              obtain ⟨rfl, rfl⟩ := h
              refine e189_91 (br_t (nI_lt (by omega) (by omega)) (go_in (e189_117 ?_)))
              rw [nI_s]
              refine ih2 _ (f + 1) _ (by omega) hF hd fun f' h1 => ?_
              by_cases e : f' = f
              · subst e; exact ⟨fun l' h2 => hdn l' (by omega), hdt⟩
              · exact hd2 f' (by omega)
            | succ k3 ih3 =>
              intro l N hl hF hd hd2 hs hdt hdn
              obtain ⟨hwN, -, -⟩ := ok N hF
              refine go_in (e189_86 (useC (upC (c134 (d := d) hwN) (by omega)) fun vs N2 h => ?_))
              obtain ⟨rfl, rfl⟩ := h
              refine e189_91 (br_f (nI_nlt (by omega) (by omega)) (useC (upC (c188 (d := d)) (by omega)) fun vs N3 h => ?_))
              obtain ⟨rfl, rfl⟩ := h
              refine e189_104 ?_
              rw [nI_c (a := l) (by omega), nI_c (by omega), hs l (by omega), nI_s]
              refine ⟨nI_in2 (by omega) (by decide), nI_in2 (by omega) (by decide), ih3 (l + 1) _ (by omega) (hF.sJ rfl) (fun b' f' h1 h2 => ⟨fun l' h3 => ?_, ?_⟩) (fun f' h1 => ⟨fun l' h3 => ?_, ?_⟩) (fun l' h3 => ?_) ?_ fun l' h3 => ?_⟩
              · rw [sJ_v, if_neg (by omega)]; exact (hd b' f' h1 h2).1 l' h3
              · rw [sJ_v, if_neg (by omega)]; exact (hd b' f' h1 h2).2
              · rw [sJ_v, if_neg (by omega)]; exact (hd2 f' h1).1 l' h3
              · rw [sJ_v, if_neg (by omega)]; exact (hd2 f' h1).2
              · rw [sJ_v, if_neg (by omega)]; exact hs l' h3
              · rw [sJ_v, if_neg (by omega)]; exact hdt
              · rw [sJ_v]
                by_cases e : l' = l
                · subst e; rw [if_pos ⟨rfl, rfl⟩]
                · rw [if_neg (by omega)]; exact hdn l' (by omega)
          have LL : ∀ k3 l N, l + k3 = w 0 + 1 → Fr aBD M N → (∀ b' f, b' < b → f < w 8 → BYD w ta pn pd b' f N) → (∀ f', f' < f → BYD w ta pn pd b f' N) → (∀ l', l' < l → N.1 50202 l' = nI (loV w (w 10) (wRf w ta pn pd b) l') ∧ N.1 50203 l' = iz (pyV w (w 10) (wRf w ta pn pd b) f l')) → WM (d + 7) 189 (fun vs N => vs = [] ∧ Fr aBD M N ∧ ∀ b f, b < 2 → f < w 8 → BYD w ta pn pd b f N) 19 [some (.ref 768), some (.int (nI b)), some (.int (nI f)), some (.int (nI l))] [] N := by
            intro k3
            induction k3 with
            | zero =>
              intro l N hl hF hd hd2 hdn
              obtain ⟨hwN, -, -⟩ := ok N hF
              refine go_in (e189_19 (useC (upC (c134 (d := d) hwN) (by omega)) fun vs N2 h => ?_))
              obtain ⟨rfl, rfl⟩ := h
              refine e189_24 (br_t (nI_lt (by omega) (by omega)) (go_in (e189_70 ?_)))
              refine useC (upC (c186 (d := d) hwN hb (lo := loV w (w 10) (wRf w ta pn pd b)) (fun i hi => (hdn i (by omega)).1) loV_le (b := pyV w (w 10) (wRf w ta pn pd b) f) fun i hi => ⟨(hdn i (by omega)).2, bd_i32 (bd_le (gnW_bd hb hr10 (show f < w 8 by omega) (show i ≤ 7 by omega) (hv3 b i)) (by decide))⟩) (by omega)) fun vs N3 h => ?_
              obtain ⟨rfl, hF3, h29, hs⟩ := h
              refine e189_74 ?_
              rw [nI_c (by omega), h29]
              refine ⟨nI_in2 (by omega) (by decide), LE (w 0 + 1) 0 _ (by omega) ((hF.tr (hF3.le aBD_s)).sJ rfl) (fun b' f' h1 h2 => ⟨fun l' h3 => ?_, ?_⟩) (fun f' h1 => ⟨fun l' h3 => ?_, ?_⟩) (fun l' h3 => ?_) ?_ fun l' h3 => absurd h3 (Nat.not_lt_zero l')⟩
              · rw [sJ_v, if_neg (by omega), (hF3 50206 _ rfl).2.1]; exact (hd b' f' h1 h2).1 l' h3
              · rw [sJ_v, if_neg (by omega), (hF3 50207 _ rfl).2.1]; exact (hd b' f' h1 h2).2
              · rw [sJ_v, if_neg (by omega), (hF3 50206 _ rfl).2.1]; exact (hd2 f' h1).1 l' h3
              · rw [sJ_v, if_pos ⟨rfl, rfl⟩]; rfl
              · rw [sJ_v, if_neg (by omega)]; exact hs l' h3
              · rw [sJ_v, if_pos ⟨rfl, rfl⟩]; rfl
            | succ k3 ih3 =>
              intro l N hl hF hd hd2 hdn
              obtain ⟨hwN, hDN, hpN⟩ := ok N hF
              refine go_in (e189_19 (useC (upC (c134 (d := d) hwN) (by omega)) fun vs N2 h => ?_))
              obtain ⟨rfl, rfl⟩ := h
              have fin : ∀ x, x = b → WM (d + 7) 189 (fun vs N => vs = [] ∧ Fr aBD M N ∧ ∀ b f, b < 2 → f < w 8 → BYD w ta pn pd b f N) 39 [some (.ref 768), some (.int (nI b)), some (.int (nI f)), some (.int (nI l))] [.int (nI x), .int (nI l), .ref 768] N2 := by
                intro x hx
                subst hx
                refine go_in (e189_39 (useC (c176 hwN hb hDN hpN (show l ≤ 7 by omega) (show x ≤ 1 by omega)) fun vs N3 h => ?_))
                obtain ⟨rfl, hF3, -, -, y2, y3, y4, y5⟩ := h
                refine e189_42 ?_
                have e1 : lowS (yW w (w 10)) (kW w) (wRf w ta pn pd x l) l = loV w (w 10) (wRf w ta pn pd x) l := by
                  unfold loV
                  rw [if_pos (by omega)]
                rw [nI_c (a := l) (by omega), nI_c (a := f) (by omega), y4, sI_v _ _ _ _ 50194, if_neg (by omega), y2 f (by omega), nI_s, e1]
                refine ⟨nI_in2 (by omega) (by decide), nI_in2 (by omega) (by decide), nI_in2 (by omega) (by decide), ih3 (l + 1) _ (by omega) (((hF.tr (hF3.le aBD_y)).sI rfl).sI rfl) (fun b' f' h1 h2 => ⟨fun l' h3 => ?_, ?_⟩) (fun f' h1 => ⟨fun l' h3 => ?_, ?_⟩) fun l' h3 => ?_⟩
                · show N3.2.1 50206 _ = _
                  rw [(hF3 50206 _ rfl).2.1]; exact (hd b' f' h1 h2).1 l' h3
                · show N3.2.1 50207 _ = _
                  rw [(hF3 50207 _ rfl).2.1]; exact (hd b' f' h1 h2).2
                · show N3.2.1 50206 _ = _
                  rw [(hF3 50206 _ rfl).2.1]; exact (hd2 f' h1).1 l' h3
                · show N3.2.1 50207 _ = _
                  rw [(hF3 50207 _ rfl).2.1]; exact (hd2 f' h1).2
                · rw [sI_v, if_neg (by omega), sI_v, sI_v]
                  by_cases e : l' = l
                  · subst e
                    rw [if_pos ⟨rfl, rfl⟩, if_pos ⟨rfl, rfl⟩]
                    exact ⟨rfl, rfl⟩
                  · rw [if_neg (by omega), if_neg (by omega), sI_v, if_neg (by omega), (hF3 50202 _ rfl).1, (hF3 50203 _ rfl).1]
                    exact hdn l' (by omega)
              refine e189_24 (br_f (nI_nlt (by omega) (by omega)) ⟨fun e => go_in (e189_38 (fin 0 ?_)), fun e => fin 1 ?_⟩)
              · have : b ≠ 1 := fun q => e (by rw [q])
                omega
              · rw [iz_n, iz_n, iz_eq ⟨by omega, by omega⟩ ⟨by omega, by omega⟩] at e
                omega
          exact LL (w 0 + 1) 0 _ (by omega) hF hd hd2 fun l' h => absurd h (Nat.not_lt_zero l')
      exact LF (w 8) _ 0 _ (by omega) hF hd fun f' h => absurd h (Nat.not_lt_zero f')
  exact LB 2 _ _ 0 _ (by omega) Fr.rf fun b' f h => absurd h (Nat.not_lt_zero b')
end HT
