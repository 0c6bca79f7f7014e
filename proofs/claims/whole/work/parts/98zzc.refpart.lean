/-! The reference's part. -/
section RP
variable {d : Nat} {M : Mm} {w : Nat → Nat} {ta : Nat → Nat → Nat → Nat}
theorem c214 (hw : MR w M) (hb : WB w) (hD : DRel w ta M) (hp : NP M) {f l n : Nat} (hf : f < w 8) (hl : l ≤ w 0) (hn : n ≤ 12) : SC (d + 9) 214 [.ref 768, .int (nI f), .int (nI l), .int (nI n)] M (fun vs N => vs = [.long (lz (paA w ta f l n))] ∧ Fr aDr M N) := by
  obtain ⟨w0, w8, w9⟩ := wb_w hb
  have hpt := hb.2.1.2
  have w10 : w 10 < w 9 := hb.2.2.2.1.2.2.1
  have hdr : paA w ta f l n = ptS (yW w (w 10)) (loD w ta) (gtD w ta f) (NN w) l n := (pt_ok _ _ _ _ (show l ≤ yW w (w 10) 0 from hl) n).symm
  rw [hdr]
  refine sC (by decide) rfl (go_in (e214_0 ?_))
  have main : ∀ k t N (o2 o5 o7 o8 : Option Value), t + k = n → Fr aDr M N → (∀ i, i ≤ w 0 → N.2.1 50215 i = lz (ptX (yW w (w 10)) (loD w ta) l t i)) → WM (d + 8) 214 (fun vs N => vs = [.long (lz (ptS (yW w (w 10)) (loD w ta) (gtD w ta f) (NN w) l n))] ∧ Fr aDr M N) 40 [some (.ref 768), some (.int (nI f)), o2, some (.int (nI n)), some (.long (lz (ptS (yW w (w 10)) (loD w ta) (gtD w ta f) (NN w) l t))), o5, some (.int (nI t)), o7, o8] [] N := by
    intro k
    induction k with
    | zero =>
      intro t N o2 o5 o7 o8 ht hF hX
      have ht : t = n := by omega
      subst ht
      exact go_in (e214_40 (br_t (nI_le (Nat.le_refl _) (by omega)) (go_in (e214_218 ⟨rfl, rfl, hF⟩))))
    | succ k ih =>
      intro t N o2 o5 o7 o8 ht hF hX
      refine go_in (e214_40 (br_f (nI_ge (by omega) (by omega)) (useC (upC (c136 (d := d) (hw.of hF (fun j _ => rfl))) (by omega)) fun vs N2 h => ?_)))
      obtain ⟨rfl, rfl⟩ := h
      refine e214_52 ?_
      rw [lz_w (show w 2 + w 3 + w 4 + w 5 < 2147483648 by omega), lz_mul]
      have copy : ∀ m c N (o2 o5 o8 : Option Value), c + m = 8 → Fr aDr M N → (∀ i, i ≤ w 0 → N.2.1 50216 i = lz (ptX (yW w (w 10)) (loD w ta) l (t + 1) i)) → (∀ i, i ≤ w 0 → i < c → N.2.1 50215 i = lz (ptX (yW w (w 10)) (loD w ta) l (t + 1) i)) → WM (d + 8) 214 (fun vs N => vs = [.long (lz (ptS (yW w (w 10)) (loD w ta) (gtD w ta f) (NN w) l n))] ∧ Fr aDr M N) 185 [some (.ref 768), some (.int (nI f)), o2, some (.int (nI n)), some (.long (lz (ptS (yW w (w 10)) (loD w ta) (gtD w ta f) (NN w) l (t + 1)))), o5, some (.int (nI t)), some (.int (nI c)), o8] [] N := by
        intro m
        induction m with
        | zero =>
          intro c N o2 o5 o8 hc hF hY hX
          have hc : c = 8 := by omega
          subst hc
          refine go_in (e214_185 (br_t (nI_le (Nat.le_refl _) (by decide)) (go_in (e214_212 ?_))))
          rw [nI_s]
          exact ih (t + 1) N _ _ _ _ (by omega) hF fun i hi => hX i hi (by omega)
        | succ m ih2 =>
          intro c N o2 o5 o8 hc hF hY hX
          refine go_in (e214_185 (br_f (nI_ge (by omega) (by decide)) ⟨nI_in2 (by omega) (by decide), nI_in2 (by omega) (by decide), ?_⟩))
          rw [nI_c (by omega), nI_s]
          refine ih2 (c + 1) _ _ _ _ (by omega) (hF.sJ rfl) (fun i hi => by rw [sJ_v, if_neg (by omega)]; exact hY i hi) fun i hi hic => ?_
          rw [sJ_v]
          by_cases e : i = c
          · rw [if_pos ⟨rfl, e⟩, ← e]; exact hY i hi
          · rw [if_neg (fun q => e q.2)]; exact hX i hi (by omega)
      have lev : ∀ m i N (o2 o5 o8 : Option Value), i + m = w 0 + 1 → Fr aDr M N → (∀ i, i ≤ w 0 → N.2.1 50215 i = lz (ptX (yW w (w 10)) (loD w ta) l t i)) → (∀ k, k ≤ w 0 → N.2.1 50216 k = lz (acc w ta (ptX (yW w (w 10)) (loD w ta) l t) i 0 k)) → WM (d + 8) 214 (fun vs N => vs = [.long (lz (ptS (yW w (w 10)) (loD w ta) (gtD w ta f) (NN w) l n))] ∧ Fr aDr M N) 83 [some (.ref 768), some (.int (nI f)), o2, some (.int (nI n)), some (.long (lz (ptS (yW w (w 10)) (loD w ta) (gtD w ta f) (NN w) l t * ((w 2 + w 3 + w 4 + w 5 : Nat) : Int) + sm (fun l' => ptX (yW w (w 10)) (loD w ta) l t l' * (gtD w ta f l' : Int) * ((w 2 + w 3 + w 4 + w 5 : Nat) : Int)) i))), o5, some (.int (nI t)), some (.int (nI i)), o8] [] N := by
        intro m
        induction m with
        | zero =>
          intro i N o2 o5 o8 hi hF hX hA
          have hi : i = w 0 + 1 := by omega
          subst hi
          refine go_in (e214_83 (useC (upC (c134 (d := d) (hw.of hF (fun j _ => rfl))) (by omega)) fun vs N2 h => ?_))
          obtain ⟨rfl, rfl⟩ := h
          have hS : (ptS (yW w (w 10)) (loD w ta) (gtD w ta f) (NN w) l t * ((w 2 + w 3 + w 4 + w 5 : Nat) : Int) + sm (fun l' => ptX (yW w (w 10)) (loD w ta) l t l' * (gtD w ta f l' : Int) * ((w 2 + w 3 + w 4 + w 5 : Nat) : Int)) (w 0 + 1)) = ptS (yW w (w 10)) (loD w ta) (gtD w ta f) (NN w) l (t + 1) := rfl
          refine e214_89 (br_t (nI_lt (by omega) (by omega)) (go_in (e214_182 ?_)))
          rw [hS]
          refine copy 8 0 _ _ _ _ (by omega) hF (fun i hi => ?_) fun i hi h => absurd h (Nat.not_lt_zero _)
          rw [hA i hi, acc_0]
          rfl
        | succ m ih2 =>
          intro i N o2 o5 o8 hi hF hX hA
          have hiw : i ≤ w 0 := by omega
          refine go_in (e214_83 (useC (upC (c134 (d := d) (hw.of hF (fun j _ => rfl))) (by omega)) fun vs N2 h => ?_))
          obtain ⟨rfl, rfl⟩ := h
          refine e214_89 (br_f (nI_nlt (by omega) (by omega)) (useC (upC (yrD (d := d) (hw.of hF (fun j _ => rfl)) hb (hD.of hF (fun j => rfl)) (hp.of hF rfl rfl) hiw) (by omega)) fun vs N3 h => ?_))
          obtain ⟨rfl, hF3, hlow, hgot⟩ := h
          have hF3' := hF.tr (hF3.up aYB_dr)
          have hlo7 : loD w ta i ≤ 7 := loV_le i
          have hg3 : gtD w ta f i ≤ 3 := Nat.le_trans gt_le wbd_le
          have hX3 : ∀ i, i ≤ w 0 → N3.2.1 50215 i = lz (ptX (yW w (w 10)) (loD w ta) l t i) := fun i hi => by rw [(hF3 50215 i rfl).2.1]; exact hX i hi
          refine e214_99 ⟨nI_in2 (by omega) (by decide), nI_in2 (by omega) (by decide), ?_⟩
          rw [nI_c (by omega), nI_c (by omega), hgot f hf, hX3 i hiw, lz_w (show gtD w ta f i < 2147483648 by omega), lz_mul]
          refine useC (upC (c136 (d := d) (hw.of hF3' (fun j _ => rfl))) (by omega)) fun vs N4 h => ?_
          obtain ⟨rfl, rfl⟩ := h
          refine e214_120 ?_
          have hsm : (ptS (yW w (w 10)) (loD w ta) (gtD w ta f) (NN w) l t * ((w 2 + w 3 + w 4 + w 5 : Nat) : Int) + sm (fun l' => ptX (yW w (w 10)) (loD w ta) l t l' * (gtD w ta f l' : Int) * ((w 2 + w 3 + w 4 + w 5 : Nat) : Int)) i) + ptX (yW w (w 10)) (loD w ta) l t i * (gtD w ta f i : Int) * ((w 2 + w 3 + w 4 + w 5 : Nat) : Int) = (ptS (yW w (w 10)) (loD w ta) (gtD w ta f) (NN w) l t * ((w 2 + w 3 + w 4 + w 5 : Nat) : Int) + sm (fun l' => ptX (yW w (w 10)) (loD w ta) l t l' * (gtD w ta f l' : Int) * ((w 2 + w 3 + w 4 + w 5 : Nat) : Int)) (i + 1)) := Int.add_assoc _ _ _
          rw [lz_w (show w 2 + w 3 + w 4 + w 5 < 2147483648 by omega), lz_mul, lz_add, hsm]
          have rain : ∀ m' r N (o2 o5 : Option Value), r + m' = 4 → Fr aDr M N → N.1 768 19 = nI (loD w ta i) → (∀ i, i ≤ w 0 → N.2.1 50215 i = lz (ptX (yW w (w 10)) (loD w ta) l t i)) → (∀ k, k ≤ w 0 → N.2.1 50216 k = lz (acc w ta (ptX (yW w (w 10)) (loD w ta) l t) i r k)) → WM (d + 8) 214 (fun vs N => vs = [.long (lz (ptS (yW w (w 10)) (loD w ta) (gtD w ta f) (NN w) l n))] ∧ Fr aDr M N) 128 [some (.ref 768), some (.int (nI f)), o2, some (.int (nI n)), some (.long (lz (ptS (yW w (w 10)) (loD w ta) (gtD w ta f) (NN w) l t * ((w 2 + w 3 + w 4 + w 5 : Nat) : Int) + sm (fun l' => ptX (yW w (w 10)) (loD w ta) l t l' * (gtD w ta f l' : Int) * ((w 2 + w 3 + w 4 + w 5 : Nat) : Int)) (i + 1)))), o5, some (.int (nI t)), some (.int (nI i)), some (.int (nI r))] [] N := by
            intro m'
            induction m' with
            | zero =>
              intro r N o2 o5 hr hF hlow hX hA
              have hr : r = 4 := by omega
              subst hr
              refine go_in (e214_128 (br_t (nI_le (Nat.le_refl _) (by decide)) (go_in (e214_176 ?_))))
              rw [nI_s]
              exact ih2 (i + 1) N _ _ _ (by omega) hF hX fun k hk => by rw [hA k hk, acc_4]
            | succ m' ih3 =>
              intro r N o2 o5 hr hF hlow hX hA
              have hw' := hw.of hF (fun j _ => rfl)
              refine go_in (e214_128 (br_f (nI_ge (by omega) (by decide)) ?_))
              rw [hlow]
              refine useC (upC (c177 (d := d) hw' hb (a := loD w ta i) (r := r) (by omega) (by omega)) (by omega)) fun vs N4 h => ?_
              obtain ⟨rfl, rfl⟩ := h
              have hwr : N4.1 50177 (2 + r) = nI (w (2 + r)) := hw'.n (by omega) (shf_no (by omega))
              have hw4 : w (2 + r) ≤ 4 := hb.2.1.1 r (by omega)
              have hmin : min (w 0) (loD w ta i + r) ≤ w 0 := Nat.min_le_left _ _
              refine e214_148 ?_
              rw [nI_add, nI_c (by omega), nI_c (by omega), nI_c (by omega), hwr, lz_w (show w (2 + r) < 2147483648 by omega), hA _ hmin, hX i hiw, lz_mul, lz_add, nI_s]
              refine ⟨nI_in2 (by omega) (by decide), nI_in2 (by omega) (by decide), nI_in2 (by omega) (by decide), nI_in2 (by omega) (by decide), ?_⟩
              refine ih3 (r + 1) _ _ _ (by omega) (hF.sJ rfl) hlow (fun i hi => by rw [sJ_v, if_neg (by omega)]; exact hX i hi) fun k hk => ?_
              rw [sJ_v, acc_s _ _ _ _ _ _ (show r < 4 by omega)]
              by_cases e : k = min (w 0) (loD w ta i + r)
              · rw [if_pos ⟨rfl, e⟩, if_pos e, e]
              · rw [if_neg (fun q => e q.2), if_neg e, Int.add_zero]; exact hA k hk
          exact rain 4 0 N4 _ _ (by omega) hF3' hlow hX3 fun k hk => by rw [(hF3 50216 k rfl).2.1]; exact hA k hk
      have zero : ∀ m c N (o2 o5 o8 : Option Value), c + m = 8 → Fr aDr M N → (∀ i, i ≤ w 0 → N.2.1 50215 i = lz (ptX (yW w (w 10)) (loD w ta) l t i)) → (∀ i, i < c → N.2.1 50216 i = lz 0) → WM (d + 8) 214 (fun vs N => vs = [.long (lz (ptS (yW w (w 10)) (loD w ta) (gtD w ta f) (NN w) l n))] ∧ Fr aDr M N) 59 [some (.ref 768), some (.int (nI f)), o2, some (.int (nI n)), some (.long (lz (ptS (yW w (w 10)) (loD w ta) (gtD w ta f) (NN w) l t * ((w 2 + w 3 + w 4 + w 5 : Nat) : Int)))), o5, some (.int (nI t)), some (.int (nI c)), o8] [] N := by
        intro m
        induction m with
        | zero =>
          intro c N o2 o5 o8 hc hF hX hA
          have hc : c = 8 := by omega
          subst hc
          have t0 := lev (w 0 + 1) 0 N none none none (by omega) hF hX (fun k hk => by rw [hA k (by omega), acc_0]; rfl)
          have e0 : (ptS (yW w (w 10)) (loD w ta) (gtD w ta f) (NN w) l t * ((w 2 + w 3 + w 4 + w 5 : Nat) : Int) + sm (fun l' => ptX (yW w (w 10)) (loD w ta) l t l' * (gtD w ta f l' : Int) * ((w 2 + w 3 + w 4 + w 5 : Nat) : Int)) 0) = ptS (yW w (w 10)) (loD w ta) (gtD w ta f) (NN w) l t * ((w 2 + w 3 + w 4 + w 5 : Nat) : Int) := Int.add_zero _
          rw [e0] at t0
          exact go_in (e214_59 (br_t (nI_le (Nat.le_refl _) (by decide)) (go_in (e214_80 t0))))
        | succ m ih2 =>
          intro c N o2 o5 o8 hc hF hX hA
          refine go_in (e214_59 (br_f (nI_ge (by omega) (by decide)) ⟨nI_in2 (by omega) (by decide), ?_⟩))
          rw [nI_c (by omega), nI_s]
          refine ih2 (c + 1) _ _ _ _ (by omega) (hF.sJ rfl) (fun i hi => by rw [sJ_v, if_neg (by omega)]; exact hX i hi) fun i hi => ?_
          rw [sJ_v]
          by_cases e : i = c
          · rw [if_pos ⟨rfl, e⟩]; rfl
          · rw [if_neg (fun q => e q.2)]; exact hA i (by omega)
      exact zero 8 0 N2 _ _ _ (by omega) hF hX fun i h => absurd h (Nat.not_lt_zero _)
  have init : ∀ m c N (o5 o6 o7 o8 : Option Value), c + m = 8 → Fr aDr M N → (∀ i, i < c → N.2.1 50215 i = lz (ptX (yW w (w 10)) (loD w ta) l 0 i)) → WM (d + 8) 214 (fun vs N => vs = [.long (lz (ptS (yW w (w 10)) (loD w ta) (gtD w ta f) (NN w) l n))] ∧ Fr aDr M N) 3 [some (.ref 768), some (.int (nI f)), some (.int (nI l)), some (.int (nI n)), some (.int (nI c)), o5, o6, o7, o8] [] N := by
    intro m
    induction m with
    | zero =>
      intro c N o5 o6 o7 o8 hc hF hX
      have hc : c = 8 := by omega
      subst hc
      exact go_in (e214_3 (br_t (nI_le (Nat.le_refl _) (by decide)) (go_in (e214_34 (main n 0 N _ _ _ _ (by omega) hF fun i hi => hX i (by omega))))))
    | succ m ih =>
      intro c N o5 o6 o7 o8 hc hF hX
      have hcl : nI c = nI l ↔ c = l := by
        rw [iz_n, iz_n, iz_eq (i32_n (by omega)) (i32_n (by omega))]
        omega
      have put : ∀ z : Int, z = (if c = l then 1 else 0) → WM (d + 8) 214 (fun vs N => vs = [.long (lz (ptS (yW w (w 10)) (loD w ta) (gtD w ta f) (NN w) l n))] ∧ Fr aDr M N) 27 [some (.ref 768), some (.int (nI f)), some (.int (nI l)), some (.int (nI n)), some (.int (nI c)), none, none, none, none] [.long (lz z), .int (nI c), .ref 50215] N := by
        intro z hz
        refine go_in (e214_27 ⟨nI_in2 (by omega) (by decide), ?_⟩)
        rw [nI_c (by omega), nI_s]
        refine ih (c + 1) _ _ _ _ _ (by omega) (hF.sJ rfl) fun i hi => ?_
        rw [sJ_v]
        by_cases e : i = c
        · rw [if_pos ⟨rfl, e⟩, e, hz]
          rfl
        · rw [if_neg (fun q => e q.2)]; exact hX i (by omega)
      refine go_in (e214_3 (br_f (nI_ge (by omega) (by decide)) ?_))
      rw [hcl]
      exact ⟨fun e => go_in (e214_26 (put 0 (by rw [if_neg e]))), fun e => put 1 (by rw [if_pos e])⟩
  exact init 8 0 M _ _ _ _ (by omega) Fr.rf fun i h => absurd h (Nat.not_lt_zero _)
theorem c215 (hw : MR w M) (hb : WB w) (hD : DRel w ta M) (hp : NP M) {f l n : Nat} (hf : f < w 8) (hl : l ≤ w 0) (hn : n ≤ 12) : SC (d + 10) 215 [.ref 768, .int (nI f), .int (nI l), .int (nI n)] M (fun vs N => vs = [.long (lz (paA w ta f l n))] ∧ Fr aRe M N ∧ N.1 768 0 = nI 0) := by
  obtain ⟨w0, w8, w9⟩ := wb_w hb
  refine sC (by decide) rfl (go_in (e215_0 ?_))
  obtain ⟨M1, hM1⟩ : ∃ M1, M1 = sI M 768 0 (nI 0) := ⟨_, rfl⟩
  have hF1 : Fr aRe M M1 := by rw [hM1]; exact Fr.rf.sI rfl
  have e10 : M1.1 768 0 = nI 0 := by rw [hM1, sI_v, if_pos ⟨rfl, rfl⟩]
  rw [← hM1]
  have hw1 := hw.of hF1 (fun j _ => rfl)
  have hD1 := hD.of hF1 (fun j => rfl)
  have hp1 := hp.of hF1 rfl rfl
  rw [iz_n f]
  refine useC (upC (c138 (d := d) hw1 hb (a := (f : Int)) (i32_n (by omega))) (by omega)) fun vs N q => ?_
  obtain ⟨rfl, q⟩ := q
  have q := q.symm
  subst q
  rw [if_pos (by omega), ← iz_n f]
  refine e215_11 ⟨fun e => absurd rfl e, fun _ => ?_⟩
  rw [iz_n l]
  refine useC (upC (c137 (d := d) hw1 hb (a := (l : Int)) (i32_n (by omega))) (by omega)) fun vs N q => ?_
  obtain ⟨rfl, q⟩ := q
  have q := q.symm
  subst q
  rw [if_pos (by omega), ← iz_n l]
  refine e215_19 ⟨fun _ => go_in (e215_26 (go_in (e215_27 (useC (upC (c130f (d := d)) (by omega)) fun vs N q => ?_)))), fun e => absurd rfl e⟩
  obtain ⟨rfl, q⟩ := q
  have q := q.symm
  subst q
  refine e215_31 ⟨fun e => absurd rfl e, fun _ => ?_⟩
  rw [iz_n n, iz_n 0, iz_n 12]
  refine useC (upC (c131 (d := d) (a := (n : Int)) (i32_n (by omega)) (i32_n (by omega)) (i32_n (by omega))) (by omega)) fun vs N q => ?_
  obtain ⟨rfl, q⟩ := q
  have q := q.symm
  subst q
  rw [← iz_n n]
  refine e215_42 ⟨fun _ => go_in (e215_49 (go_in (e215_50 (useC (upC (c130f (d := d)) (by omega)) fun vs N q => ?_)))), fun e => absurd (by omega) (b01.mp e)⟩
  obtain ⟨rfl, q⟩ := q
  have q := q.symm
  subst q
  refine e215_54 ⟨fun _ => go_in (e215_59 ?_), fun e => absurd rfl e⟩
  refine useC (c214 (d := d) hw1 hb hD1 hp1 hf hl hn) fun vs N2 h => ?_
  obtain ⟨rfl, hF2⟩ := h
  exact e215_66 ⟨rfl, rfl, hF1.tr (hF2.up aDr_re), by rw [(hF2 768 0 rfl).1]; exact e10⟩
theorem c216 (hw : MR w M) (hb : WB w) (hD : DRel w ta M) (hp : NP M) {l n : Nat} (hl : l ≤ w 0) (hn : n ≤ 12) : SC (d + 10) 216 [.ref 768, .int (nI l), .int (nI n)] M (fun vs N => vs = [.int (iz (moA w ta l n))] ∧ Fr aRe M N ∧ N.1 768 0 = nI 0) := by
  obtain ⟨w0, w8, w9⟩ := wb_w hb
  refine sC (by decide) rfl (go_in (e216_0 ?_))
  obtain ⟨M1, hM1⟩ : ∃ M1, M1 = sI M 768 0 (nI 0) := ⟨_, rfl⟩
  have hF1 : Fr aRe M M1 := by rw [hM1]; exact Fr.rf.sI rfl
  have e10 : M1.1 768 0 = nI 0 := by rw [hM1, sI_v, if_pos ⟨rfl, rfl⟩]
  rw [← hM1]
  have hw1 := hw.of hF1 (fun j _ => rfl)
  have hD1 := hD.of hF1 (fun j => rfl)
  have hp1 := hp.of hF1 rfl rfl
  rw [iz_n l]
  refine useC (upC (c137 (d := d) hw1 hb (a := (l : Int)) (i32_n (by omega))) (by omega)) fun vs N q => ?_
  obtain ⟨rfl, q⟩ := q
  have q := q.symm
  subst q
  rw [if_pos (by omega), ← iz_n l]
  refine e216_11 (useC (upC (c130f (d := d)) (by omega)) fun vs N q => ?_)
  obtain ⟨rfl, q⟩ := q
  have q := q.symm
  subst q
  refine e216_15 ⟨fun e => absurd rfl e, fun _ => ?_⟩
  rw [iz_n n, iz_n 0, iz_n 12]
  refine useC (upC (c131 (d := d) (a := (n : Int)) (i32_n (by omega)) (i32_n (by omega)) (i32_n (by omega))) (by omega)) fun vs N q => ?_
  obtain ⟨rfl, q⟩ := q
  have q := q.symm
  subst q
  rw [← iz_n n]
  refine e216_26 ⟨fun _ => go_in (e216_33 (go_in (e216_34 (useC (upC (c130f (d := d)) (by omega)) fun vs N q => ?_)))), fun e => absurd (by omega) (b01.mp e)⟩
  obtain ⟨rfl, q⟩ := q
  have q := q.symm
  subst q
  refine e216_38 ⟨fun _ => go_in (e216_43 ?_), fun e => absurd rfl e⟩
  have loop : ∀ k f N (best most : Int) (o5 o7 o8 : Option Value), f + k = w 8 → Fr aRe M N → N.1 768 0 = nI 0 → (f = 0 → best = -1) → (0 < f → best = ((bst (fun f => paA w ta f l n) f : Nat) : Int) ∧ most = paA w ta (bst (fun f => paA w ta f l n) f) l n) → WM (d + 9) 216 (fun vs N => vs = [.int (iz (moA w ta l n))] ∧ Fr aRe M N ∧ N.1 768 0 = nI 0) 51 [some (.ref 768), some (.int (nI l)), some (.int (nI n)), some (.int (iz best)), some (.long (lz most)), o5, some (.int (nI f)), o7, o8] [] N := by
    intro k
    induction k with
    | zero =>
      intro f N best most o5 o7 o8 hf hF h0 h1 h2
      have hf : f = w 8 := by omega
      subst hf
      refine go_in (e216_51 (useC (upC (c135 (d := d) (hw.of hF (fun j _ => rfl))) (by omega)) fun vs N2 h => ?_))
      obtain ⟨rfl, rfl⟩ := h
      refine e216_57 (br_t (nI_le (Nat.le_refl _) (by omega)) (go_in (e216_98 ⟨rfl, ?_, hF, h0⟩)))
      unfold moA
      by_cases e : w 8 = 0
      · rw [if_pos e, h1 e]
      · rw [if_neg e, (h2 (by omega)).1]
    | succ k ih =>
      intro f N best most o5 o7 o8 hf hF h0 h1 h2
      have hf8 : f < w 8 := by omega
      have hw' := hw.of hF (fun j _ => rfl)
      refine go_in (e216_51 (useC (upC (c135 (d := d) hw') (by omega)) fun vs N2 h => ?_))
      obtain ⟨rfl, rfl⟩ := h
      refine e216_57 (br_f (nI_ge (by omega) (by omega)) (useC (c214 (d := d) hw' hb (hD.of hF (fun j => rfl)) (hp.of hF rfl rfl) hf8 hl hn) fun vs N3 h => ?_))
      obtain ⟨rfl, hF3⟩ := h
      have hF3' := hF.tr (hF3.up aDr_re)
      have h03 : N3.1 768 0 = nI 0 := by rw [(hF3 768 0 rfl).1]; exact h0
      have i1 := paA_64 (ta := ta) hb (f := f) hl hn
      have hst := bst_s (fun f => paA w ta f l n) f
      have take : ∀ (o3 o4 o5 o8 : Option Value), bst (fun f => paA w ta f l n) (f + 1) = f → WM (d + 9) 216 (fun vs N => vs = [.int (iz (moA w ta l n))] ∧ Fr aRe M N ∧ N.1 768 0 = nI 0) 85 [some (.ref 768), some (.int (nI l)), some (.int (nI n)), o3, o4, o5, some (.int (nI f)), some (.long (lz (paA w ta f l n))), o8] [] N3 := by
        intro o3 o4 o5 o8 hb1
        refine go_in (e216_85 (go_in (e216_92 ?_)))
        rw [nI_s, iz_n f]
        exact ih (f + 1) N3 _ _ _ _ _ (by omega) hF3' h03 (fun h => by omega) fun _ => ⟨by rw [hb1], by rw [hb1]⟩
      refine e216_68 ?_
      by_cases hf0 : f = 0
      · rw [h1 hf0]
        refine ⟨fun _ => take _ _ _ _ ?_, fun q => absurd (by decide) q⟩
        rw [hf0]
        exact bst_1 _
      · obtain ⟨hb1, hb2⟩ := h2 (by omega)
        have hbl := bst_lt (fun f => paA w ta f l n) f (by omega)
        have i2 := paA_64 (ta := ta) hb (f := bst (fun f => paA w ta f l n) f) hl hn
        rw [hb1, hb2, iz_lt0 (i32_n (by omega)), cmp_gt, lz_lt i2 i1]
        refine ⟨fun q => absurd q (by omega), fun _ => ⟨fun q => take _ _ _ _ (by rw [hst, if_pos q]), fun q => go_in (e216_92 ?_)⟩⟩
        have hb3 : bst (fun f => paA w ta f l n) (f + 1) = bst (fun f => paA w ta f l n) f := by rw [hst, if_neg q]
        rw [nI_s]
        exact ih (f + 1) N3 _ _ _ _ _ (by omega) hF3' h03 (fun h => by omega) fun _ => ⟨by rw [hb3], by rw [hb3]⟩
  exact loop (w 8) 0 M1 (-1) 0 none none none (by omega) hF1 e10 (fun _ => rfl) fun h => absurd h (Nat.lt_irrefl _)
theorem c218 (hw : MR w M) (hb : WB w) (hD : DRel w ta M) (hp : NP M) {l : Nat} (hl : l ≤ w 0) : SC (d + 10) 218 [.ref 768, .int (nI l)] M (fun vs N => vs = [.int (iz (laA w ta 101 0 l))] ∧ Fr aRe M N ∧ N.1 768 0 = nI 0) := by
  obtain ⟨w0, w8, w9⟩ := wb_w hb
  refine sC (by decide) rfl (go_in (e218_0 ?_))
  obtain ⟨M1, hM1⟩ : ∃ M1, M1 = sI M 768 0 (nI 0) := ⟨_, rfl⟩
  have hF1 : Fr aRe M M1 := by rw [hM1]; exact Fr.rf.sI rfl
  have e10 : M1.1 768 0 = nI 0 := by rw [hM1, sI_v, if_pos ⟨rfl, rfl⟩]
  rw [← hM1]
  have hw1 := hw.of hF1 (fun j _ => rfl)
  have hD1 := hD.of hF1 (fun j => rfl)
  have hp1 := hp.of hF1 rfl rfl
  rw [iz_n l]
  refine useC (upC (c137 (d := d) hw1 hb (a := (l : Int)) (i32_n (by omega))) (by omega)) fun vs N q => ?_
  obtain ⟨rfl, q⟩ := q
  have q := q.symm
  subst q
  rw [if_pos (by omega), ← iz_n l]
  refine e218_11 (useC (upC (c130f (d := d)) (by omega)) fun vs N q => ?_)
  obtain ⟨rfl, q⟩ := q
  have q := q.symm
  subst q
  refine e218_15 ⟨fun _ => go_in (e218_20 ?_), fun e => absurd rfl e⟩
  have loop : ∀ k yr l N (o1 : Option Value), yr + k = 101 → l ≤ w 0 → Fr aRe M N → N.1 768 0 = nI 0 → WM (d + 9) 218 (fun vs N => vs = [.int (iz (laA w ta k yr l))] ∧ Fr aRe M N ∧ N.1 768 0 = nI 0) 24 [some (.ref 768), o1, some (.int (nI l)), some (.int (nI yr))] [] N := by
    intro k
    induction k with
    | zero =>
      intro yr l N o1 hk hl hF h0
      have hk : yr = 101 := by omega
      subst hk
      exact go_in (e218_24 (br_t (nI_lt (by decide) (by decide)) (go_in (e218_53 ⟨rfl, by rw [nI_neg1]; rfl, hF, h0⟩))))
    | succ k ih =>
      intro yr l N o1 hk hl hF h0
      have hst : laA w ta (k + 1) yr l = if l = 0 then (yr : Int) else laA w ta k (yr + 1) (loD w ta l) := rfl
      have hl0 : nI l = 0 ↔ l = 0 := by
        rw [zero_nI, iz_n, iz_n, iz_eq (i32_n (by omega)) (i32_n (by omega))]
        omega
      refine go_in (e218_24 (br_f (nI_nlt (by omega) (by decide)) ⟨fun e => go_in (e218_36 ?_), fun e => ⟨rfl, ?_, hF, h0⟩⟩))
      · rw [hl0] at e
        refine useC (upC (yrD (d := d) (hw.of hF (fun j _ => rfl)) hb (hD.of hF (fun j => rfl)) (hp.of hF rfl rfl) hl) (by omega)) fun vs N2 h => ?_
        obtain ⟨rfl, hF2, hlow, -⟩ := h
        refine e218_42 ?_
        rw [hlow, nI_s, hst, if_neg e]
        exact ih (yr + 1) _ N2 _ (by omega) (loD_y hl) (hF.tr (hF2.up fun k j q => aBD_re k j (aYB_bd k j q))) (by rw [(hF2 768 0 rfl).1]; exact h0)
      · rw [hl0] at e
        rw [hst, if_pos e, iz_nn]
  exact loop 101 0 l M1 _ (by omega) hl hF1 e10
end RP
