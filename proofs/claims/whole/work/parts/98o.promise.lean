/-! The class's year of a pact. -/
section PA
variable {d : Nat} {M : Mm} {w : Nat → Nat} {ta : Nat → Nat → Nat → Nat}
def aWq (k _ : Nat) : Bool := Nat.beq k 41994
theorem c64 (hT : TR 512 w ta M) (hb : WB w) {y : Nat → Nat} {k : Int} (hy : YR y k M) (hyB : YB y k) {n pd : Nat} (hpd : pd < w 11) : SC (d + 3) 64 [.ref 640, .ref 512, .int (nI n), .int (nI pd)] M (fun vs N => vs = [] ∧ Fr aWq M N ∧ WA y (wRf w ta (n : Int) pd) N) := by
  have h0 := hyB.1.2.1
  have h2 := hyB.2.1.1
  have w11 : w 11 ≤ 6 := hb.2.2.2.1.2.2.2.1
  have v0 : ∀ l f, wRf w ta (n : Int) pd 0 l f = n := fun l f => by
    unfold wRf
    rw [if_neg (by omega), if_pos rfl]; omega
  have v1 : ∀ l f, wRf w ta (n : Int) pd 1 l f = wbd w ta (pd + 1) 1 l f := fun l f => by
    unfold wRf
    rw [if_neg (by omega), if_neg (by omega)]
  refine sC (by decide) rfl (go_in (e64_0 ?_))
  have LL : ∀ k' (o5 : Option Value) l N, l + k' = y 0 + 1 → Fr aWq M N → (∀ b l' f, b < 2 → l' < l → f < y 2 → N.1 41994 ((b * 8 + l') * 3 + f) = nI (wRf w ta (n : Int) pd b l' f)) → WM (d + 2) 64 (fun vs N => vs = [] ∧ Fr aWq M N ∧ WA y (wRf w ta (n : Int) pd) N) 3 [some (.ref 640), some (.ref 512), some (.int (nI n)), some (.int (nI pd)), some (.int (nI l)), o5] [] N := by
    intro k'
    induction k' with
    | zero =>
      intro o5 l N hl hF hd
      have hyN := hy.of hF (fun j _ => rfl) (fun j => rfl)
      exact go_in (e64_3 (br_t (by rw [hyN.1.1]; exact nI_lt (by omega) (by omega)) (go_in (e64_75 ⟨rfl, rfl, hF, fun b l' f h1 h3 h4 => hd b l' f h1 (by omega) h4⟩))))
    | succ k' ih =>
      intro o5 l N hl hF hd
      have hyN := hy.of hF (fun j _ => rfl) (fun j => rfl)
      refine go_in (e64_3 (br_f (by rw [hyN.1.1]; exact nI_nlt (by omega) (by omega)) ?_))
      have LF : ∀ k2 f N, f + k2 = y 2 → Fr aWq M N → (∀ b l' f, b < 2 → l' < l → f < y 2 → N.1 41994 ((b * 8 + l') * 3 + f) = nI (wRf w ta (n : Int) pd b l' f)) → (∀ b f', b < 2 → f' < f → N.1 41994 ((b * 8 + l) * 3 + f') = nI (wRf w ta (n : Int) pd b l f')) → WM (d + 2) 64 (fun vs N => vs = [] ∧ Fr aWq M N ∧ WA y (wRf w ta (n : Int) pd) N) 15 [some (.ref 640), some (.ref 512), some (.int (nI n)), some (.int (nI pd)), some (.int (nI l)), some (.int (nI f))] [] N := by
        intro k2
        induction k2 with
        | zero =>
          intro f N hf hF hd hd2
          have hyN := hy.of hF (fun j _ => rfl) (fun j => rfl)
          refine go_in (e64_15 (br_t (by rw [hyN.1.2.2.1]; exact nI_le (by omega) (by omega)) (go_in (e64_69 ?_))))
          rw [nI_s]
          refine ih _ (l + 1) _ (by omega) hF fun b l' f' h1 h3 h4 => ?_
          by_cases e : l' = l
          · subst e; exact hd2 b f' h1 (by omega)
          · exact hd b l' f' h1 (by omega) h4
        | succ k2 ih2 =>
          intro f N hf hF hd hd2
          have hyN := hy.of hF (fun j _ => rfl) (fun j => rfl)
          refine go_in (e64_15 (br_f (by rw [hyN.1.2.2.1]; exact nI_ge (by omega) (by omega)) (useC (upC (c62 (d := d) (l := l) (b := 0)) (by omega)) fun vs N2 h => ?_)))
          obtain ⟨rfl, rfl⟩ := h
          refine e64_34 ?_
          rw [nI_add, nI_c (by omega)]
          refine ⟨nI_in2 (by omega) (by decide), useC (upC (c62 (d := d) (l := l) (b := 1)) (by omega)) fun vs N3 h => ?_⟩
          obtain ⟨rfl, h3⟩ := h
          rw [h3]
          refine e64_49 ?_
          have hF3 : Fr aWq M (sI N2 41994 ((0 * 8 + l) * 3 + f) (nI n)) := hF.sI rfl
          have hT3 : TR 512 w ta (sI N2 41994 ((0 * 8 + l) * 3 + f) (nI n)) := hT.of hF3 fun k j h => by
            unfold inO at h
            simp only [Bool.or_eq_true, Bool.and_eq_true, Nat.beq_eq, Nat.ble_eq, Nat.blt_eq] at h
            exact beq_ne (by omega)
          rw [show nI pd = iz (((pd + 1 : Nat) : Int) - 1) by rw [iz_n]; congr 1; omega]
          refine useC (c54 (d := d) hT3 hb (q := pd + 1) (f := f) (l := l) (b := 1) (by omega) (by omega) (by omega) (by omega)) fun vs N4 h => ?_
          obtain ⟨rfl, h4⟩ := h
          rw [h4, show iz (((pd + 1 : Nat) : Int) - 1) = nI pd by rw [iz_n]; congr 1; omega]
          refine e64_62 ?_
          rw [nI_add, nI_c (by omega), nI_s]
          refine ⟨nI_in2 (by omega) (by decide), ih2 (f + 1) _ (by omega) (hF3.sI rfl) (fun b l' f' g1 g2 g3 => ?_) fun b f' g1 g2 => ?_⟩
          · rw [sI_v, if_neg (by omega), sI_v, if_neg (by omega)]; exact hd b l' f' g1 g2 g3
          · rw [sI_v, sI_v]
            rcases (show b = 0 ∨ b = 1 by omega) with e | e
            · subst e
              rw [if_neg (by omega)]
              by_cases e2 : f' = f
              · subst e2; rw [if_pos ⟨rfl, rfl⟩, v0]
              · rw [if_neg (by omega)]; exact hd2 0 f' g1 (by omega)
            · subst e
              by_cases e2 : f' = f
              · subst e2; rw [if_pos ⟨rfl, rfl⟩, v1]
              · rw [if_neg (by omega), if_neg (by omega)]; exact hd2 1 f' g1 (by omega)
      exact LF (y 2) 0 _ (by omega) hF hd fun b f' _ h => absurd h (Nat.not_lt_zero f')
  exact LL (y 0 + 1) _ 0 _ (by omega) Fr.rf fun b l' f _ h => absurd h (Nat.not_lt_zero l')
end PA
