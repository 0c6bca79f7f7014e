/-! One year: the pump, and what rain brings. -/
theorem nI_neg1 : -(nI 1) = iz (-1) := rfl
theorem lw_rst {v : Nat → Nat} {a l : Nat} (h : a ≤ l) (f : Nat) : gt v a f ≤ lw v a l f := by
  have := lw_ge (v := v) h f
  unfold gt
  omega
/-- parts by the level that is reached -/
def prt (y : Nat → Nat) (low to : Nat) : Nat → Nat
  | 0 => 0
  | r + 1 => prt y low to r + if min (y 0) (low + r) = to then y (7 + r) else 0
/-- what a row says of the levels that are reached -/
def aws (y : Nat → Nat) (R : Nat → Int) (low : Nat) : Nat → Int
  | 0 => 0
  | r + 1 => aws y R low r + (y (7 + r) : Int) * R (min (y 0) (low + r))
theorem prt_le {y : Nat → Nat} {low to : Nat} : ∀ r, r ≤ 4 → (∀ r, r < 4 → y (7 + r) ≤ 4) → prt y low to r ≤ 4 * r
  | 0, _, _ => Nat.le_refl _
  | r + 1, h, hy => by
    have := prt_le (low := low) (to := to) r (by omega) hy
    have := hy r (by omega)
    unfold prt
    split <;> omega
def aPumpBy (k j : Nat) : Bool := aWish k j || aPump k j
section YF
variable {d : Nat} {M : Mm} {y : Nat → Nat} {k : Int}
set_option maxHeartbeats 1000000 in
theorem c69 {v : Nat → Nat} (hy : YR y k M) (hb : YB y k) (hv : WV y v M) (hv3 : ∀ f, v f ≤ 3) {l : Nat} (hl : l ≤ 7) : SC (d + 2) 69 [.ref 640, .int (nI l)] M (fun vs N => vs = [] ∧ Fr aPump M N ∧ PU y k v l N) := by
  obtain ⟨⟨h1, h2, h3, h4⟩, ⟨h5, h6⟩, -⟩ := id hb
  refine sC (by decide) rfl (go_in (e69_0 ?_))
  rw [hy.1.2.2.2, iz_n, iz_n, iz_n, iz_sub]
  refine useC (c230 i32_0 ⟨by omega, by omega⟩) fun vs N h => ?_
  obtain ⟨rfl, rfl⟩ := h
  rw [show max ((0 : Nat) : Int) ((l : Int) - (y 3 : Nat)) = ((l - y 3 : Nat) : Int) by omega, iz_nn, iz_nn]
  refine e69_10 ?_
  have loop : ∀ k' (o : Option Value) f M', f + k' = y 2 → Fr aPump N M' → (∀ g, g < f → M'.1 41996 g = nI (gt v (l - y 3) g)) → M'.1 640 13 = nI (lw v (l - y 3) l f) → Wp (SC (d + 1)) (ST (d + 1)) (RP (fun vs M' => vs = [] ∧ Fr aPump N M' ∧ PU y k v l M')) hdN (txOf 69) 0 18 [some (.ref 640), o, some (.int (nI (rst v (l - y 3) f))), some (.int (nI f))] [] M' := by
    intro k'
    induction k' with
    | zero =>
      intro o f M' hi hN hg h13
      have hi : f = y 2 := by omega
      subst hi
      have hyN := hy.of hN aP_640 (fun j => rfl)
      have hlw := lw_le (v := v) (a := l - y 3) (l := l) (y 2)
      refine go_in (e69_18 ⟨fun _ => ?_, fun q => absurd ?_ q⟩)
      · have fin : ∀ x : Nat, x = lkd k (lw v (l - y 3) l (y 2)) → Wp (SC (d + 1)) (ST (d + 1)) (RP (fun vs M' => vs = [] ∧ Fr aPump N M' ∧ PU y k v l M')) hdN (txOf 69) 0 97 [some (.ref 640), none, none, none] [.int (nI x), .ref 640] M' := by
          intro x hx
          have hx1 := lkd_le (k := k) (x := lw v (l - y 3) l (y 2)) h3
          refine go_in (e69_97 ⟨?_, fun q => ?_, fun q => ?_⟩)
          · rcases (show x = 0 ∨ x = 1 by omega) with e | e <;> subst e
            · exact Or.inl rfl
            · exact Or.inr rfl
          · rw [sI_at, show (0 : Int32) = nI 0 from rfl, nI_eq (by omega) (by decide)] at q
            refine go_in (e69_117 ⟨rfl, rfl, hN.sI rfl, fun g hgl => ?_, ?_, ?_⟩)
            · rw [sI_v, if_neg (by omega)]; exact hg g hgl
            · rw [sI_v, if_neg (by omega), h13]
              unfold lowS
              rw [← hx, q, Nat.sub_zero]
            · rw [sI_v, if_pos ⟨rfl, rfl⟩, hx]
          · rw [sI_at, show (0 : Int32) = nI 0 from rfl, nI_eq (by omega) (by decide)] at q
            have hx2 : x = 1 := by omega
            refine go_in (e69_117 ⟨rfl, rfl, (hN.sI rfl).sI rfl, fun g hgl => ?_, ?_, ?_⟩)
            · rw [sI_v, if_neg (by omega), sI_v, if_neg (by omega)]; exact hg g hgl
            · rw [sI_v, if_pos ⟨rfl, rfl⟩, sI_v, if_neg (by omega), h13, nI_sub (by omega)]
              unfold lowS
              rw [← hx, hx2]
            · rw [sI_v, if_neg (by omega), sI_v, if_pos ⟨rfl, rfl⟩, hx]
        refine go_in (e69_72 ⟨fun q => ?_, fun q => ⟨fun q2 => ?_, fun q2 => ?_⟩⟩)
        · rw [hyN.1.2.1, nI_neg1, iz_eq ⟨by omega, by omega⟩ ⟨by decide, by decide⟩] at q
          exact go_in (e69_96 (fin 0 (by unfold lkd; rw [if_pos q])))
        · rw [hyN.1.2.1, nI_neg1, iz_eq ⟨by omega, by omega⟩ ⟨by decide, by decide⟩] at q
          rw [h13, hyN.1.2.1, iz_n, iz_le ⟨by omega, by omega⟩ ⟨by omega, by omega⟩] at q2
          exact go_in (e69_96 (fin 0 (by unfold lkd; rw [if_neg q, if_pos q2])))
        · rw [hyN.1.2.1, nI_neg1, iz_eq ⟨by omega, by omega⟩ ⟨by decide, by decide⟩] at q
          rw [h13, hyN.1.2.1, iz_n, iz_le ⟨by omega, by omega⟩ ⟨by omega, by omega⟩] at q2
          exact fin 1 (by unfold lkd; rw [if_neg q, if_neg q2])
      · rw [hyN.1.2.2.1]
        exact (nI_leI (by omega) (by omega)).mpr (Nat.le_refl _)
    | succ k' ih =>
      intro o f M' hi hN hg h13
      have hyN := hy.of hN aP_640 (fun j => rfl)
      have hlw := lw_le (v := v) (a := l - y 3) (l := l) f
      have hrs := rst_le (v := v) (a := l - y 3) f
      have h9 := lw_rst (v := v) (show l - y 3 ≤ l by omega) f
      have hgv := gt_le (v := v) (a := l - y 3) (f := f)
      have hv3f := hv3 f
      refine go_in (e69_18 ⟨fun q => absurd ?_ (show ¬ (y 2 ≤ f) by omega), fun _ => ⟨nI_in2 (by omega) (by decide), ?_⟩⟩)
      · rw [hyN.1.2.2.1] at q
        exact (nI_leI (by omega) (by omega)).mp q
      · have hwv : M'.1 41995 f = nI (v f) := by rw [(hN 41995 f rfl).1]; exact hv f (by omega)
        rw [nI_c (by omega), hwv, iz_n, iz_n (rst v (l - y 3) f)]
        refine useC (c231 ⟨by omega, by omega⟩ ⟨by omega, by omega⟩) fun vs N2 h => ?_
        obtain ⟨rfl, rfl⟩ := h
        rw [show min ((v f : Nat) : Int) ((rst v (l - y 3) f : Nat) : Int) = ((gt v (l - y 3) f : Nat) : Int) by unfold gt; omega, iz_nn, iz_nn]
        refine e69_41 ⟨nI_in2 (by omega) (by decide), nI_in2 (by omega) (by decide), nI_in2 (by omega) (by decide), ?_⟩
        rw [nI_s, nI_c (by omega), sI_at, sI_v, if_neg (by omega), h13, nI_sub (by unfold gt at h9 ⊢; exact Nat.min_le_right _ _), nI_sub h9]
        refine ih _ (f + 1) _ (by omega) ((hN.sI rfl).sI rfl) (fun g hgl => ?_) ?_
        · rw [sI_v, if_neg (by omega), sI_v]
          by_cases e : g = f
          · subst e; rw [if_pos ⟨rfl, rfl⟩]
          · rw [if_neg (by omega)]; exact hg g (by omega)
        · rw [sI_v, if_pos ⟨rfl, rfl⟩]; rfl
  refine loop (y 2) _ 0 _ (by omega) (Fr.sI (k := 640) (j := 13) Fr.rf rfl) (fun g h => absurd h (Nat.not_lt_zero g)) ?_
  rw [sI_v, if_pos ⟨rfl, rfl⟩]; rfl
theorem c68 {wa : Nat → Nat → Nat → Nat} (hy : YR y k M) (hb : YB y k) (hw : WA y wa M) (hw3 : ∀ b l f, wa b l f ≤ 3) {l b : Nat} (hl : l ≤ y 0) (hbb : b < 2) : SC (d + 3) 68 [.ref 640, .int (nI l), .int (nI b)] M (fun vs N => vs = [] ∧ Fr aPumpBy M N ∧ WV y (wa b l) N ∧ PU y k (wa b l) l N) := by
  have h2 := hb.1.2.1
  refine sC (by decide) rfl (go_in (e68_0 (useC (c67 hb hw hl hbb) fun vs N h => ?_)))
  obtain ⟨rfl, hF, hv⟩ := h
  refine e68_6 (useC (c69 (hy.of hF (fun j _ => rfl) (fun j => rfl)) hb hv (fun f => hw3 b l f) (show l ≤ 7 by omega)) fun vs N2 h => ?_)
  obtain ⟨rfl, hF2, hp⟩ := h
  refine e68_11 ⟨rfl, rfl, (hF.le ?_).tr (hF2.le ?_), fun f hf => ?_, hp⟩
  · intro a j q
    exact (Bool.or_eq_false_iff.mp q).1
  · intro a j q
    exact (Bool.or_eq_false_iff.mp q).2
  · rw [(hF2 41995 f rfl).1]; exact hv f hf
theorem c73 (hy : YR y k M) (hb : YB y k) {low to : Nat} (hlow : M.1 640 13 = nI low) (hl : low ≤ 7) (ht : to ≤ 7) : SC (d + 3) 73 [.ref 640, .int (nI to)] M (fun vs N => vs = [.int (nI (prt y low to 4))] ∧ N = M) := by
  have hp := y_part hb
  have h2 := hb.1.2.1
  refine sC (by decide) rfl (go_in (e73_0 ?_))
  have loop : ∀ k' r, r + k' = 4 → Wp (SC (d + 2)) (ST (d + 2)) (RP (fun vs N => vs = [.int (nI (prt y low to 4))] ∧ N = M)) hdN (txOf 73) 0 4 [some (.ref 640), some (.int (nI to)), some (.int (nI (prt y low to r))), some (.int (nI r))] [] M := by
    intro k'
    induction k' with
    | zero =>
      intro r hr
      have hr : r = 4 := by omega
      subst hr
      exact go_in (e73_4 ⟨fun _ => go_in (e73_41 ⟨rfl, rfl, rfl⟩), fun q => absurd ((nI_leI (by decide) (by decide)).mpr (Nat.le_refl _)) q⟩)
    | succ k' ih =>
      intro r hr
      refine go_in (e73_4 ⟨fun q => absurd ((nI_leI (by decide) (by omega)).mp q) (by omega), fun _ => ?_⟩)
      rw [hlow]
      refine useC (c72 hy hb (show low ≤ 100 by omega) (show r ≤ 100 by omega)) fun vs N h => ?_
      obtain ⟨rfl, rfl⟩ := h
      have fin : ∀ (o : Option Value) (x : Nat), x = (if min (y 0) (low + r) = to then y (7 + r) else 0) → Wp (SC (d + 2)) (ST (d + 2)) (RP (fun vs N' => vs = [.int (nI (prt y low to 4))] ∧ N' = N)) hdN (txOf 73) 0 33 [some (.ref 640), some (.int (nI to)), o, some (.int (nI r))] [.int (nI x), .int (nI (prt y low to r))] N := by
        intro o x hx
        refine go_in (e73_33 ?_)
        rw [nI_s, nI_add, hx]
        exact ih (r + 1) (by omega)
      refine e73_19 ⟨fun q => ?_, fun q => ⟨nI_in2 (by omega) (by decide), ?_⟩⟩
      · rw [nI_eq (by omega) (by omega)] at q
        exact go_in (e73_32 (fin _ 0 (by rw [if_neg q])))
      · rw [nI_eq (by omega) (by omega)] at q
        rw [nI_c (by omega), hy.2.2 r (by omega)]
        exact fin _ _ (by rw [if_pos q])
  exact loop 4 0 rfl
theorem c74 (hy : YR y k M) (hb : YB y k) {x off low : Nat} {R : Nat → Int} (hx : isAr x = true) (ht : typ x = 2) (ho : off + y 0 < len x) (hlx : len x < 1000) (hR : ∀ j, j ≤ y 0 → M.2.1 x (off + j) = lz (R j)) (hl : low ≤ 7) : SC (d + 3) 74 [.ref 640, .ref x, .int (nI off), .int (nI low)] M (fun vs N => vs = [.long (lz (aws y R low 4))] ∧ N = M) := by
  have hp := y_part hb
  have h2 := hb.1.2.1
  refine sC (by decide) rfl (go_in (e74_0 ?_))
  have loop : ∀ k' r, r + k' = 4 → Wp (SC (d + 2)) (ST (d + 2)) (RP (fun vs N => vs = [.long (lz (aws y R low 4))] ∧ N = M)) hdN (txOf 74) 0 6 [some (.ref 640), some (.ref x), some (.int (nI off)), some (.int (nI low)), some (.long (lz (aws y R low r))), none, some (.int (nI r))] [] M := by
    intro k'
    induction k' with
    | zero =>
      intro r hr
      have hr : r = 4 := by omega
      subst hr
      exact go_in (e74_6 ⟨fun _ => go_in (e74_43 ⟨rfl, rfl, rfl⟩), fun q => absurd ((nI_leI (by decide) (by decide)).mpr (Nat.le_refl _)) q⟩)
    | succ k' ih =>
      intro r hr
      refine go_in (e74_6 ⟨fun q => absurd ((nI_leI (by decide) (by omega)).mp q) (by omega), fun _ => ⟨nI_in2 (by omega) (by decide), ?_⟩⟩)
      have hpr := hp r (by omega)
      refine useC (c72 hy hb (show low ≤ 100 by omega) (show r ≤ 100 by omega)) fun vs N h => ?_
      obtain ⟨rfl, rfl⟩ := h
      refine e74_31 ⟨⟨hx, ht, by rw [nI_add]; exact nI_in2 (by omega) (by omega)⟩, ?_⟩
      rw [nI_c (a := r) (by omega), hy.2.2 r (by omega), nI_add, nI_c (by omega), hR _ (Nat.min_le_left _ _), nI_s, iz_n (y (7 + r)), iz_l ⟨by omega, by omega⟩, lz_mul, lz_add]
      exact ih (r + 1) (by omega)
  exact loop 4 0 rfl
end YF
