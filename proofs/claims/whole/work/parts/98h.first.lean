/-! The judge: the first that would do else. -/
def frs (p : Nat → Bool) : Nat → Option Nat
  | 0 => none
  | n + 1 => match frs p n with
    | some k => some k
    | none => if p n = true then some n else none
theorem frs_none {p : Nat → Bool} : ∀ {n}, (∀ k, k < n → p k = false) → frs p n = none
  | 0, _ => rfl
  | n + 1, h => by
    unfold frs
    rw [frs_none fun k hk => h k (by omega)]
    show (if p n = true then some n else none) = none
    rw [h n (by omega)]; rfl
theorem frs_some {p : Nat → Bool} {m : Nat} (h : ∀ k, k < m → p k = false) (hp : p m = true) : ∀ {n}, m < n → frs p n = some m
  | 0, hn => absurd hn (Nat.not_lt_zero m)
  | n + 1, hn => by
    unfold frs
    by_cases e : m = n
    · subst e
      rw [frs_none h]
      show (if p m = true then some m else none) = some m
      rw [hp]; rfl
    · rw [frs_some h hp (show m < n by omega)]
def jdP (L F : Nat) (g : Nat → Nat → Nat → Bool) (k : Nat) : Bool := decide (k / 4 % 8 ≤ L ∧ k % 4 < F) && g (k / 32) (k % 4) (k / 4 % 8)
def jdC : Option Nat → Int
  | some k => 100 * ((k / 32 : Nat) : Int) + 10 * ((k / 4 % 8 : Nat) : Int) + ((k % 4 : Nat) : Int)
  | none => -1
/-- the code of the first level and farm that would do else -/
def jdV (L F : Nat) (g : Nat → Nat → Nat → Bool) : Int := jdC (frs (jdP L F g) 64)
theorem key_at {b l f : Nat} (hl : l < 8) (hf : f < 4) : ((b * 8 + l) * 4 + f) / 32 = b ∧ ((b * 8 + l) * 4 + f) / 4 % 8 = l ∧ ((b * 8 + l) * 4 + f) % 4 = f := by omega
theorem jdP_at {L F : Nat} {g : Nat → Nat → Nat → Bool} {b l f : Nat} (hl : l ≤ L) (hL : L ≤ 7) (hf : f < F) (hF : F ≤ 3) : jdP L F g ((b * 8 + l) * 4 + f) = g b f l := by
  obtain ⟨e1, e2, e3⟩ := key_at (b := b) (show l < 8 by omega) (show f < 4 by omega)
  unfold jdP
  rw [e1, e2, e3, decide_eq_true ⟨hl, hf⟩]
  rfl
theorem jdP_no {L F : Nat} {g : Nat → Nat → Nat → Bool} {k : Nat} (h : ¬ (k / 4 % 8 ≤ L ∧ k % 4 < F)) : jdP L F g k = false := by
  unfold jdP
  rw [decide_eq_false h]
  rfl
theorem jdV_some {L F : Nat} {g : Nat → Nat → Nat → Bool} {b l f : Nat} (hb : b < 2) (hl : l ≤ L) (hL : L ≤ 7) (hf : f < F) (hF : F ≤ 3) (h : ∀ k, k < (b * 8 + l) * 4 + f → jdP L F g k = false) (hg : g b f l = true) : jdV L F g = 100 * (b : Int) + 10 * (l : Int) + (f : Int) := by
  obtain ⟨e1, e2, e3⟩ := key_at (b := b) (show l < 8 by omega) (show f < 4 by omega)
  unfold jdV
  rw [frs_some h (by rw [jdP_at hl hL hf hF]; exact hg) (by omega)]
  show 100 * ((((b * 8 + l) * 4 + f) / 32 : Nat) : Int) + 10 * ((((b * 8 + l) * 4 + f) / 4 % 8 : Nat) : Int) + ((((b * 8 + l) * 4 + f) % 4 : Nat) : Int) = _
  rw [e1, e2, e3]
theorem jdV_none {L F : Nat} {g : Nat → Nat → Nat → Bool} (h : ∀ k, k < 64 → jdP L F g k = false) : jdV L F g = -1 := by
  unfold jdV
  rw [frs_none h]
  rfl
section JU
variable {d : Nat} {M : Mm} {w : Nat → Nat} {ta : Nat → Nat → Nat → Nat}
theorem aYB_bd : ∀ k j, aYB k j = true → aBD k j = true := fun k j h => by unfold aBD; rw [h]; rfl
set_option maxHeartbeats 1000000 in
theorem c192 (hw : MR w M) (hb : WB w) (hD : DRel w ta M) (hp : NP M) : SC (d + 9) 192 [.ref 768] M (fun vs N => vs = [.int (iz (jdV (w 0) (w 8) (gnB w ta)))] ∧ Fr aBD M N) := by
  obtain ⟨w0, w8, w9⟩ := wb_w hb
  obtain ⟨pd, hpn⟩ := NP.pn (w := w) hp
  refine sC (by decide) rfl (go_in (e192_0 (useC (c189 hw hb hD hpn) fun vs N h => ?_)))
  obtain ⟨rfl, hF, hB⟩ := h
  refine e192_4 ?_
  have ok : ∀ N', Fr aYB N N' → MR w N' ∧ DRel w ta N' ∧ PN w (-1) pd N' ∧ ∀ b f, b < 2 → f < w 8 → BYD w ta (-1) pd b f N' := fun N' hF' =>
    ⟨(hw.of hF (fun j _ => rfl)).of hF' (fun j _ => rfl), (hD.of hF (fun j => rfl)).of hF' (fun j => rfl), (hpn.of hF rfl rfl trivial).of hF' rfl rfl trivial, fun b f h1 h2 => ⟨fun l hl => by rw [(hF' 50206 _ rfl).2.1]; exact (hB b f h1 h2).1 l hl, by rw [(hF' 50207 _ rfl).2.1]; exact (hB b f h1 h2).2⟩⟩
  have LB : ∀ k (o2 o3 : Option Value) b N', b + k = 2 → Fr aYB N N' → (∀ k, k < (b * 8 + 0) * 4 + 0 → jdP (w 0) (w 8) (gnB w ta) k = false) → WM (d + 8) 192 (fun vs N => vs = [.int (iz (jdV (w 0) (w 8) (gnB w ta)))] ∧ Fr aBD M N) 6 [some (.ref 768), some (.int (nI b)), o2, o3] [] N' := by
    intro k
    induction k with
    | zero =>
      intro o2 o3 b N' hk hF' hn
      refine go_in (e192_6 (br_t (nI_le (by omega) (by omega)) (go_in (e192_71 ?_))))
      rw [jdV_none fun k hk => hn k (by omega), nI_neg1]
      exact ⟨rfl, rfl, hF.tr (hF'.up aYB_bd)⟩
    | succ k ih =>
      intro o2 o3 b N' hk hF' hn
      refine go_in (e192_6 (br_f (nI_ge (by omega) (by omega)) ?_))
      have LL : ∀ k2 (o3 : Option Value) l N', l + k2 = w 0 + 1 → Fr aYB N N' → (∀ k, k < (b * 8 + l) * 4 + 0 → jdP (w 0) (w 8) (gnB w ta) k = false) → WM (d + 8) 192 (fun vs N => vs = [.int (iz (jdV (w 0) (w 8) (gnB w ta)))] ∧ Fr aBD M N) 13 [some (.ref 768), some (.int (nI b)), some (.int (nI l)), o3] [] N' := by
        intro k2
        induction k2 with
        | zero =>
          intro o3 l N' hk2 hF' hn
          refine go_in (e192_13 (useC (upC (c134 (d := d) (ok N' hF').1) (by omega)) fun vs N2 h => ?_))
          obtain ⟨rfl, rfl⟩ := h
          refine e192_18 (br_t (nI_lt (by omega) (by omega)) (go_in (e192_65 ?_)))
          rw [nI_s]
          refine ih _ _ (b + 1) _ (by omega) hF' fun k hk3 => ?_
          by_cases e : k < (b * 8 + l) * 4 + 0
          · exact hn k e
          · exact jdP_no (by omega)
        | succ k2 ih2 =>
          intro o3 l N' hk2 hF' hn
          refine go_in (e192_13 (useC (upC (c134 (d := d) (ok N' hF').1) (by omega)) fun vs N2 h => ?_))
          obtain ⟨rfl, rfl⟩ := h
          refine e192_18 (br_f (nI_nlt (by omega) (by omega)) ?_)
          have LF : ∀ k3 f N', f + k3 = w 8 → Fr aYB N N' → (∀ k, k < (b * 8 + l) * 4 + f → jdP (w 0) (w 8) (gnB w ta) k = false) → WM (d + 8) 192 (fun vs N => vs = [.int (iz (jdV (w 0) (w 8) (gnB w ta)))] ∧ Fr aBD M N) 23 [some (.ref 768), some (.int (nI b)), some (.int (nI l)), some (.int (nI f))] [] N' := by
            intro k3
            induction k3 with
            | zero =>
              intro f N' hk3 hF' hn
              refine go_in (e192_23 (useC (upC (c135 (d := d) (ok N' hF').1) (by omega)) fun vs N2 h => ?_))
              obtain ⟨rfl, rfl⟩ := h
              refine e192_28 (br_t (nI_le (by omega) (by omega)) (go_in (e192_59 ?_)))
              rw [nI_s]
              refine ih2 _ (l + 1) _ (by omega) hF' fun k hk4 => ?_
              by_cases e : k < (b * 8 + l) * 4 + f
              · exact hn k e
              · exact jdP_no (by omega)
            | succ k3 ih3 =>
              intro f N' hk3 hF' hn
              obtain ⟨hw', hD', hp', hB'⟩ := ok N' hF'
              refine go_in (e192_23 (useC (upC (c135 (d := d) hw') (by omega)) fun vs N2 h => ?_))
              obtain ⟨rfl, rfl⟩ := h
              refine e192_28 (br_f (nI_ge (by omega) (by omega)) (useC (c191 hw' hb hD' hp' hB' (show f < w 8 by omega) (show l ≤ w 0 by omega) (show b < 2 by omega)) fun vs N3 h => ?_))
              obtain ⟨rfl, hF3⟩ := h
              have hF4 := hF'.tr hF3
              cases hg : gnB w ta b f l with
              | false =>
                refine e192_38 ⟨fun _ => go_in (e192_53 ?_), fun q => absurd rfl q⟩
                rw [nI_s]
                refine ih3 (f + 1) _ (by omega) hF4 fun k hk4 => ?_
                by_cases e : k < (b * 8 + l) * 4 + f
                · exact hn k e
                · have : k = (b * 8 + l) * 4 + f := by omega
                  rw [this, jdP_at (by omega) (by omega) (by omega) (by omega)]
                  exact hg
              | true =>
                refine e192_38 ⟨fun q => absurd q (by decide), fun _ => ?_⟩
                rw [jdV_some (show b < 2 by omega) (show l ≤ w 0 by omega) (by omega) (show f < w 8 by omega) (by omega) hn hg, nI_mul, nI_mul, nI_add, nI_add, iz_n]
                refine ⟨rfl, ?_, hF.tr (hF4.up aYB_bd)⟩
                congr 3
          exact LF (w 8) 0 _ (by omega) hF' hn
      exact LL (w 0 + 1) _ 0 _ (by omega) hF' hn
  exact LB 2 _ _ 0 N (by omega) Fr.rf fun k hk => absurd hk (by omega)
theorem c193 (hw : MR w M) (hb : WB w) (hD : DRel w ta M) (hp : NP M) : SC (d + 10) 193 [.ref 768] M (fun vs N => vs = [.int (iz (jdV (w 0) (w 8) (gnB w ta)))] ∧ Fr aRe M N ∧ N.1 768 0 = nI 0) := by
  refine sC (by decide) rfl (go_in (e193_0 ?_))
  have hF1 : Fr aRe M (sI M 768 0 (nI 0)) := Fr.rf.sI rfl
  refine useC (c192 (hw.of hF1 (fun j _ => rfl)) hb (hD.of hF1 (fun j => rfl)) (hp.of hF1 rfl rfl)) fun vs N h => ?_
  obtain ⟨rfl, hF⟩ := h
  exact e193_9 ⟨rfl, rfl, hF1.tr (hF.up aBD_re), by rw [(hF 768 0 rfl).1, sI_v, if_pos ⟨rfl, rfl⟩]⟩
end JU
