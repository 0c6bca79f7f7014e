/-! The law's calls, on both sides. -/
def CRI (L : Nat) (w : Nat → Nat) (ta : Nat → Nat → Nat → Nat) (tl : Nat) (tp : Nat → Int) (fw : Int32) (im : Nat) (w2 : Nat → Nat) (ta2 : Nat → Nat → Nat → Nat) (M : Mm) : Prop :=
  M.1 70001 4000 = nI L ∧ (WB w ∧ (im = 1 → WB w2) ∧ im ≤ 1) ∧ CIv w ta tl tp fw im w2 ta2 M ∧ RIv w ta tl tp fw im w2 ta2 M
def INV (L : Nat) (M : Mm) : Prop := ∃ (w : Nat → Nat) (ta : Nat → Nat → Nat → Nat) (tl : Nat) (tp : Nat → Int) (fw : Int32) (im : Nat) (w2 : Nat → Nat) (ta2 : Nat → Nat → Nat → Nat), CRI L w ta tl tp fw im w2 ta2 M
/-- between the class's call and the reference's -/
def PQv (L D r : Nat) (ras : List Value) (M : Mm) (vs : List Value) (N : Mm) : Prop := ∃ v, v < 10 ∧ vs = [.int (nI v)] ∧ (∀ j, N.1 70001 j = M.1 70001 j) ∧ SC D r ras N (fun us O => us = [] ∧ O.1 768 0 = nI v ∧ INV L O)
def PQi (L D r : Nat) (ras : List Value) (M : Mm) (vs : List Value) (N : Mm) : Prop := ∃ v, v < 10 ∧ vs = [.int (nI v)] ∧ (∀ j, N.1 70001 j = M.1 70001 j) ∧ SC D r ras N (fun us O => ∃ y, us = [.int y] ∧ (v = 0 → O.2.1 70000 0 = y.toInt64) ∧ O.1 768 0 = nI v ∧ INV L O)
def PQj (L D r : Nat) (ras : List Value) (M : Mm) (vs : List Value) (N : Mm) : Prop := ∃ v, v < 10 ∧ vs = [.int (nI v)] ∧ (∀ j, N.1 70001 j = M.1 70001 j) ∧ SC D r ras N (fun us O => ∃ y, us = [.long y] ∧ (v = 0 → O.2.1 70000 0 = y) ∧ O.1 768 0 = nI v ∧ INV L O)
def PQb (L D r : Nat) (ras : List Value) (M : Mm) (vs : List Value) (N : Mm) : Prop := ∃ v, v < 10 ∧ vs = [.int (nI v)] ∧ (∀ j, N.1 70001 j = M.1 70001 j) ∧ SC D r ras N (fun us O => ∃ b : Bool, us = [.int (nI (cond b 1 0))] ∧ (v = 0 → O.2.1 70000 0 = lN (cond b 1 0)) ∧ O.1 768 0 = nI v ∧ INV L O)
/-- what is compared at once -/
def PQd (L D r : Nat) (ras : List Value) (M : Mm) (vs : List Value) (N : Mm) : Prop := ∃ y : Int32, vs = [.int y] ∧ (∀ j, N.1 70001 j = M.1 70001 j) ∧ SC D r ras N (fun us O => us = [.int y] ∧ INV L O)
theorem i_ex (a : Int32) : ∃ z : Int, i32 z ∧ iz z = a := ⟨a.toInt, ⟨by have := Int32.le_toInt a; omega, by have := Int32.toInt_lt a; omega⟩, iz_of a⟩
section IV2
variable {L : Nat} {w w' w2 : Nat → Nat} {ta ta' ta2 : Nat → Nat → Nat → Nat} {tl tl' im : Nat} {tp tp' : Nat → Int} {fw fw' : Int32} {M N O : Mm} {P : Nat → Nat → Bool}
theorem plB_kI2 {k j : Nat} (h : plB k j = true) : inO 513 (kI k) = true := by
  have h := of_decide_eq_true h
  rcases h with ⟨rfl, h⟩ | ⟨rfl, h⟩ | ⟨rfl, h⟩ | ⟨rfl, h⟩ | ⟨rfl, h⟩ | ⟨rfl, h⟩ | ⟨rfl, h⟩ | ⟨rfl, h⟩ | ⟨rfl, h⟩
  all_goals rfl
theorem CTp.of (h : CTp tl tp M) (hF : Fr P M N) (h1 : P 384 1 = false) (h2 : ∀ j, P 25600 j = false) : CTp tl tp N := ⟨(hF _ _ h1).1.trans h.1, h.2.1, h.2.2.1, fun j hj => (hF _ _ (h2 j)).1.trans (h.2.2.2 j hj)⟩
theorem RTp.of (h : RTp tl tp M) (hF : Fr P M N) (h1 : P 768 5 = false) (h2 : ∀ j, P 50180 j = false) : RTp tl tp N := ⟨(hF _ _ h1).1.trans h.1, h.2.1, h.2.2.1, fun j hj => (hF _ _ (h2 j)).1.trans (h.2.2.2 j hj)⟩
theorem TI.img (h : TI w2 ta2 (shM M)) (hb : w2 11 ≤ 6) (hF : Fr P M N) (h0 : ∀ k j, inO 513 k = true → P k j = false) : TI w2 ta2 (shM N) := TI_eq h hb (fun _ _ hk => (hF _ _ (h0 _ _ (plB_kI2 hk))).1) fun j _ => (hF 33869 j (h0 _ _ rfl)).2.1
theorem IMR.of (h : IMR w2 ta2 M) (hb : w2 11 ≤ 6) (hF : Fr P M N) (h0 : ∀ j, P 50178 j = false) : IMR w2 ta2 N := ⟨MR_eq (M := imM M) h.1 fun j _ => (hF 50178 j (h0 j)).1, DRel_eq (M := imM M) h.2 hb fun j _ _ => (hF 50178 j (h0 j)).1⟩
/-- the class's half, changed -/
theorem CIv.upd (h : CIv w ta tl tp fw im w2 ta2 M) (hb : im = 1 → WB w2) (hF : Fr P M N) (h10 : P 704 10 = false) (h513 : ∀ k j, inO 513 k = true → P k j = false) (hT : TI w' ta' N) (hC : CTp tl' tp' N) (hf : N.1 704 11 = fw') : CIv w' ta' tl' tp' fw' im w2 ta2 N := ⟨hT, hC, hf, (hF _ _ h10).1.trans h.2.2.2.1, fun hi => (h.2.2.2.2 hi).img (hb hi).2.2.2.1.2.2.2.1 hF h513⟩
theorem RIv.upd (h : RIv w ta tl tp fw im w2 ta2 M) (hb : im = 1 → WB w2) (hF : Fr P M N) (h3 : P 768 3 = false) (h178 : ∀ j, P 50178 j = false) (hT : RI w' ta' N) (hC : RTp tl' tp' N) (hf : N.1 768 10 = fw') : RIv w' ta' tl' tp' fw' im w2 ta2 N := ⟨hT, hC, hf, (hF _ _ h3).1.trans h.2.2.2.1, fun hi => (h.2.2.2.2 hi).of (hb hi).2.2.2.1.2.2.2.1 hF h178⟩
/-- what the class's questions may change, with the law's long -/
def aCQ (k j : Nat) : Bool := aCl k j || Nat.beq k 70000
theorem aCQ_512 {k j : Nat} (h : inO 512 k = true ∨ inO 513 k = true) : aCQ k j = false := by
  unfold aCQ aCl
  unfold inO at h
  simp only [Bool.or_eq_true, Bool.and_eq_true, Nat.beq_eq, Nat.ble_eq, Nat.blt_eq] at h
  rw [show Nat.beq k 70000 = false by
    cases hq : Nat.beq k 70000 with
    | true => have := Nat.eq_of_beq_eq_true hq; omega
    | false => rfl, Bool.or_false]
  exact decide_eq_false (by omega)
theorem CIv.q (h : CIv w ta tl tp fw im w2 ta2 M) (hb : im = 1 → WB w2) (hF : Fr aCQ M N) : CIv w ta tl tp fw im w2 ta2 N := h.upd hb hF rfl (fun k j hk => aCQ_512 (Or.inr hk)) (h.1.of hF fun k j hk => aCQ_512 (Or.inl hk)) (h.2.1.of hF rfl fun _ => rfl) ((hF _ _ rfl).1.trans h.2.2.1)
theorem aCQ_R {k j : Nat} (h : aRA k j = true) : aCQ k j = false := by
  have h := of_decide_eq_true h
  unfold aCQ aCl
  rw [show Nat.beq k 70000 = false by
    cases hq : Nat.beq k 70000 with
    | true => have := Nat.eq_of_beq_eq_true hq; omega
    | false => rfl, Bool.or_false]
  exact decide_eq_false (by omega)
theorem RIv.other (h : RIv w ta tl tp fw im w2 ta2 M) (hb : im = 1 → WB w2) (hF : Fr P M N) (hP : ∀ k j, aRA k j = true → P k j = false) : RIv w ta tl tp fw im w2 ta2 N := h.upd hb hF (hP _ _ rfl) (fun j => hP _ _ rfl) (h.1.of hF (fun j => hP _ _ rfl) (hP _ _ rfl) (hP _ _ rfl)) (h.2.1.of hF (hP _ _ rfl) fun j => hP _ _ rfl) ((hF _ _ (hP _ _ rfl)).1.trans h.2.2.1)
theorem RIv.q (h : RIv w ta tl tp fw im w2 ta2 M) (hb : im = 1 → WB w2) (hF : Fr aRe M N) : RIv w ta tl tp fw im w2 ta2 N := h.upd hb hF rfl (fun j => rfl) (h.1.of hF (fun j => rfl) rfl rfl) (h.2.1.of hF rfl fun j => rfl) ((hF _ _ rfl).1.trans h.2.2.1)
theorem aRe_C {k j : Nat} (h : aRA k j = false) : aRe k j = false := by
  have h := of_decide_eq_false h
  unfold aRe
  exact decide_eq_false (by omega)
theorem CRI.cq (h : CRI L w ta tl tp fw im w2 ta2 M) (hF : Fr aCQ M N) : CRI L w ta tl tp fw im w2 ta2 N := ⟨(hF _ _ rfl).1.trans h.1, h.2.1, h.2.2.1.q h.2.1.2.1 hF, h.2.2.2.other h.2.1.2.1 hF fun _ _ q => aCQ_R q⟩
theorem CRI.rq (h : CRI L w ta tl tp fw im w2 ta2 M) (hF : Fr aRe M N) : CRI L w ta tl tp fw im w2 ta2 N := ⟨(hF _ _ rfl).1.trans h.1, h.2.1, h.2.2.1.of (fun hi => (h.2.1.2.1 hi).2.2.2.1.2.2.2.1) (hF.le fun _ _ q => aRe_C q), h.2.2.2.q h.2.1.2.1 hF⟩
theorem CRI.inv (h : CRI L w ta tl tp fw im w2 ta2 M) : INV L M := ⟨w, ta, tl, tp, fw, im, w2, ta2, h⟩
theorem CRI.wb (h : CRI L w ta tl tp fw im w2 ta2 M) : WB w := h.2.1.1
theorem CRI.tr (h : CRI L w ta tl tp fw im w2 ta2 M) : TR 512 w ta M := h.2.2.1.1.tr h.wb
theorem CRI.ri (h : CRI L w ta tl tp fw im w2 ta2 M) : RI w ta M := h.2.2.2.1
theorem a7_re {k j : Nat} (h : a7 k j = true) : aRe k j = true := by
  unfold a7 at h
  simp only [Bool.and_eq_true, Nat.beq_eq] at h
  obtain ⟨rfl, rfl⟩ := h
  rfl
theorem aCl_q {k j : Nat} (h : aCl k j = true) : aCQ k j = true := by unfold aCQ; rw [h]; rfl
variable {D e r k mid : Nat} {cas ras : List Value}
theorem qI (X : CRI L w ta tl tp fw im w2 ta2 M) {y : Int32} (hc : SC e mid cas M (fun vs N => vs = [.int y] ∧ Fr aCl M N)) (hr : ∀ N, RI w ta N → SC D r ras N (fun us O => us = [.int y] ∧ Fr aRe N O ∧ O.1 768 0 = nI 0)) : SC e mid cas M (fun vs N => ∃ y, vs = [.int y] ∧ PQi L D r ras M [.int (nI 0)] (sJ N 70000 0 y.toInt64)) := useC hc fun vs N q => by
  obtain ⟨rfl, hF⟩ := q
  have hF2 : Fr aCQ M (sJ N 70000 0 y.toInt64) := (hF.up fun _ _ q => aCl_q q).sJ rfl
  have X2 := X.cq hF2
  refine ⟨y, rfl, 0, by decide, rfl, fun j => (hF2 _ _ rfl).1, useC (hr _ X2.ri) fun us O q => ?_⟩
  obtain ⟨rfl, hG, h0⟩ := q
  exact ⟨y, rfl, fun _ => (hG _ _ rfl).2.1.trans (sJ_e _ _ _ _), h0, (X2.rq hG).inv⟩
theorem qJ (X : CRI L w ta tl tp fw im w2 ta2 M) {y : Int64} (hc : SC e mid cas M (fun vs N => vs = [.long y] ∧ Fr aCl M N)) (hr : ∀ N, RI w ta N → SC D r ras N (fun us O => us = [.long y] ∧ Fr aRe N O ∧ O.1 768 0 = nI 0)) : SC e mid cas M (fun vs N => ∃ y, vs = [.long y] ∧ PQj L D r ras M [.int (nI 0)] (sJ N 70000 0 y)) := useC hc fun vs N q => by
  obtain ⟨rfl, hF⟩ := q
  have hF2 : Fr aCQ M (sJ N 70000 0 y) := (hF.up fun _ _ q => aCl_q q).sJ rfl
  have X2 := X.cq hF2
  refine ⟨y, rfl, 0, by decide, rfl, fun j => (hF2 _ _ rfl).1, useC (hr _ X2.ri) fun us O q => ?_⟩
  obtain ⟨rfl, hG, h0⟩ := q
  exact ⟨y, rfl, fun _ => (hG _ _ rfl).2.1.trans (sJ_e _ _ _ _), h0, (X2.rq hG).inv⟩
theorem tI (X : CRI L w ta tl tp fw im w2 ta2 M) {e0 v : Nat} {y : Int32} (ht : ST e mid cas M (fun E N => E = e0 ∧ N = M)) (hh : hdc k e0 = some v) (hv : v ≠ 0) (hv9 : v < 10) (hr : SC D r ras M (fun us O => us = [.int y] ∧ Fr aRe M O ∧ O.1 768 0 = nI v)) : ST e mid cas M (fun E N => ∃ v, hdc k E = some v ∧ PQi L D r ras M [.int (nI v)] N) := useT ht fun E N q => by
  obtain ⟨rfl, rfl⟩ := q
  refine ⟨v, hh, v, hv9, rfl, fun _ => rfl, useC hr fun us O q => ?_⟩
  obtain ⟨rfl, hG, h0⟩ := q
  exact ⟨y, rfl, fun z => absurd z hv, h0, (X.rq hG).inv⟩
theorem tJ (X : CRI L w ta tl tp fw im w2 ta2 M) {e0 v : Nat} {y : Int64} (ht : ST e mid cas M (fun E N => E = e0 ∧ N = M)) (hh : hdc k e0 = some v) (hv : v ≠ 0) (hv9 : v < 10) (hr : SC D r ras M (fun us O => us = [.long y] ∧ Fr aRe M O ∧ O.1 768 0 = nI v)) : ST e mid cas M (fun E N => ∃ v, hdc k E = some v ∧ PQj L D r ras M [.int (nI v)] N) := useT ht fun E N q => by
  obtain ⟨rfl, rfl⟩ := q
  refine ⟨v, hh, v, hv9, rfl, fun _ => rfl, useC hr fun us O q => ?_⟩
  obtain ⟨rfl, hG, h0⟩ := q
  exact ⟨y, rfl, fun z => absurd z hv, h0, (X.rq hG).inv⟩
theorem tBb (X : CRI L w ta tl tp fw im w2 ta2 M) {e0 v : Nat} {b : Bool} (ht : ST e mid cas M (fun E N => E = e0 ∧ N = M)) (hh : hdc k e0 = some v) (hv : v ≠ 0) (hv9 : v < 10) (hr : SC D r ras M (fun us O => us = [.int (nI (cond b 1 0))] ∧ Fr aRe M O ∧ O.1 768 0 = nI v)) : ST e mid cas M (fun E N => ∃ v, hdc k E = some v ∧ PQb L D r ras M [.int (nI v)] N) := useT ht fun E N q => by
  obtain ⟨rfl, rfl⟩ := q
  refine ⟨v, hh, v, hv9, rfl, fun _ => rfl, useC hr fun us O q => ?_⟩
  obtain ⟨rfl, hG, h0⟩ := q
  exact ⟨b, rfl, fun z => absurd z hv, h0, (X.rq hG).inv⟩
theorem tV (X : CRI L w ta tl tp fw im w2 ta2 M) {e0 v : Nat} (ht : ST e mid cas M (fun E N => E = e0 ∧ N = M)) (hh : hdc k e0 = some v) (hv9 : v < 10) (hr : SC D r ras M (fun us O => us = [] ∧ Fr aRe M O ∧ O.1 768 0 = nI v)) : ST e mid cas M (fun E N => ∃ v, hdc k E = some v ∧ PQv L D r ras M [.int (nI v)] N) := useT ht fun E N q => by
  obtain ⟨rfl, rfl⟩ := q
  refine ⟨v, hh, v, hv9, rfl, fun _ => rfl, useC hr fun us O q => ?_⟩
  obtain ⟨rfl, hG, h0⟩ := q
  exact ⟨rfl, h0, (X.rq hG).inv⟩
theorem a7r {Q : List Value → Prop} {v : Nat} (h : SC D r ras M (fun us O => Q us ∧ Fr a7 M O ∧ O.1 768 0 = nI v)) : SC D r ras M (fun us O => Q us ∧ Fr aRe M O ∧ O.1 768 0 = nI v) := useC h fun _ _ q => ⟨q.1, q.2.1.up fun _ _ => a7_re, q.2.2⟩

theorem p242 {a b : Int32} {c e : Bool} (h : INV L M) : SC 40 242 [.ref 704, .int a, .int b, .int (nI (cond c 1 0)), .int (nI (cond e 1 0)), .ref 70000] M (PQi L 40 178 [.ref 768, .int a, .int b, .int (nI (cond c 1 0)), .int (nI (cond e 1 0))] M) := by
  obtain ⟨w, ta, tl, tp, fw, im, w2, ta2, X⟩ := h
  obtain ⟨a, ha, rfl⟩ := i_ex a
  obtain ⟨b, hb, rfl⟩ := i_ex b
  by_cases hr : (0 ≤ a ∧ a < w 8) ∧ (0 ≤ b ∧ b ≤ w 0)
  · obtain ⟨a, rfl⟩ : ∃ n : Nat, a = n := ⟨a.toNat, by omega⟩
    obtain ⟨b, rfl⟩ : ∃ n : Nat, b = n := ⟨b.toNat, by omega⟩
    simp only [← iz_n]
    exact c242 (qI X (useC (upC (c96 (d := 0) X.tr X.wb (by omega) (by omega)) (by decide)) fun _ _ z => ⟨z.1, z.2.up aYr_cl⟩) fun N hI => upC (c178 (d := 0) hI.1 X.wb hI.2.1 hI.2.2 (by omega) (by omega)) (by decide))
  · exact t242 (tI (v := 1) X (upT (t96 (d := 0) X.tr X.wb ha hb hr) (by decide)) rfl (by decide) (by decide) (upC (c178t (d := 0) X.ri.1 X.wb ha hb hr) (by decide)))
theorem p243 {a b : Int32} {c : Bool} (h : INV L M) : SC 40 243 [.ref 704, .int a, .int b, .int (nI (cond c 1 0)), .ref 70000] M (PQi L 40 179 [.ref 768, .int a, .int b, .int (nI (cond c 1 0))] M) := by
  obtain ⟨w, ta, tl, tp, fw, im, w2, ta2, X⟩ := h
  obtain ⟨a, ha, rfl⟩ := i_ex a
  obtain ⟨b, hb, rfl⟩ := i_ex b
  by_cases hr : (0 ≤ a ∧ a < w 8) ∧ (0 ≤ b ∧ b ≤ w 0)
  · obtain ⟨a, rfl⟩ : ∃ n : Nat, a = n := ⟨a.toNat, by omega⟩
    obtain ⟨b, rfl⟩ : ∃ n : Nat, b = n := ⟨b.toNat, by omega⟩
    simp only [← iz_n]
    exact c243 (qI X (upC (c97 (d := 0) X.tr X.wb (by omega) (by omega)) (by decide)) fun N hI => upC (c179 (d := 0) hI.1 X.wb hI.2.1 hI.2.2 (by omega) (by omega)) (by decide))
  · exact t243 (tI (v := 1) X (upT (t97 (d := 0) X.tr X.wb ha hb hr) (by decide)) rfl (by decide) (by decide) (upC (c179t (d := 0) X.ri.1 X.wb ha hb hr) (by decide)))
theorem p244 {a c : Int32} {b : Bool} (h : INV L M) : SC 40 244 [.ref 704, .int a, .int (nI (cond b 1 0)), .int c, .ref 70000] M (PQi L 40 180 [.ref 768, .int a, .int (nI (cond b 1 0)), .int c] M) := by
  obtain ⟨w, ta, tl, tp, fw, im, w2, ta2, X⟩ := h
  obtain ⟨a, ha, rfl⟩ := i_ex a
  obtain ⟨c, hc, rfl⟩ := i_ex c
  by_cases hr : (0 ≤ a ∧ a ≤ w 0) ∧ (0 ≤ c ∧ c ≤ w 0)
  · obtain ⟨a, rfl⟩ : ∃ n : Nat, a = n := ⟨a.toNat, by omega⟩
    obtain ⟨c, rfl⟩ : ∃ n : Nat, c = n := ⟨c.toNat, by omega⟩
    simp only [← iz_n]
    exact c244 (qI X (upC (c98 (d := 0) X.tr X.wb (by omega) (by omega)) (by decide)) fun N hI => upC (c180 (d := 0) hI.1 X.wb hI.2.1 hI.2.2 (by omega) (by omega)) (by decide))
  · exact t244 (tI (v := 1) X (upT (t98 (d := 0) X.tr X.wb ha hc hr) (by decide)) rfl (by decide) (by decide) (upC (c180t (d := 0) X.ri.1 X.wb ha hc hr) (by decide)))
theorem p245 {a b : Int32} {c e : Bool} (h : INV L M) : SC 40 245 [.ref 704, .int a, .int b, .int (nI (cond c 1 0)), .int (nI (cond e 1 0)), .ref 70000] M (PQj L 40 190 [.ref 768, .int a, .int b, .int (nI (cond c 1 0)), .int (nI (cond e 1 0))] M) := by
  obtain ⟨w, ta, tl, tp, fw, im, w2, ta2, X⟩ := h
  obtain ⟨a, ha, rfl⟩ := i_ex a
  obtain ⟨b, hb, rfl⟩ := i_ex b
  by_cases hr : (0 ≤ a ∧ a < w 8) ∧ (0 ≤ b ∧ b ≤ w 0)
  · obtain ⟨a, rfl⟩ : ∃ n : Nat, a = n := ⟨a.toNat, by omega⟩
    obtain ⟨b, rfl⟩ : ∃ n : Nat, b = n := ⟨b.toNat, by omega⟩
    simp only [← iz_n]
    exact c245 (qJ X (upC (c99 (d := 0) X.tr X.wb (by omega) (by omega)) (by decide)) fun N hI => upC (c190 (d := 0) hI.1 X.wb hI.2.1 hI.2.2 (by omega) (by omega)) (by decide))
  · exact t245 (tJ (v := 1) X (upT (t99 (d := 0) X.tr X.wb ha hb hr) (by decide)) rfl (by decide) (by decide) (upC (c190t (d := 0) X.ri.1 X.wb ha hb hr) (by decide)))
theorem p246 {a b : Int32} (h : INV L M) : SC 40 246 [.ref 704, .int a, .int b, .ref 70000] M (PQi L 40 199 [.ref 768, .int a, .int b] M) := by
  obtain ⟨w, ta, tl, tp, fw, im, w2, ta2, X⟩ := h
  obtain ⟨a, ha, rfl⟩ := i_ex a
  obtain ⟨b, hb, rfl⟩ := i_ex b
  by_cases hr : (0 ≤ a ∧ a < w 8) ∧ (0 ≤ b ∧ b ≤ w 0)
  · obtain ⟨a, rfl⟩ : ∃ n : Nat, a = n := ⟨a.toNat, by omega⟩
    obtain ⟨b, rfl⟩ : ∃ n : Nat, b = n := ⟨b.toNat, by omega⟩
    simp only [← iz_n]
    exact c246 (qI X (upC (c103 (d := 0) X.tr X.wb (by omega) (by omega)) (by decide)) fun N hI => upC (c199 (d := 0) hI.1 X.wb hI.2.1 hI.2.2 (by omega) (by omega)) (by decide))
  · exact t246 (tI (v := 1) X (upT (t103 (d := 0) X.tr X.wb ha hb hr) (by decide)) rfl (by decide) (by decide) (upC (c199t (d := 0) X.ri.1 X.wb ha hb hr) (by decide)))
theorem p247 {a b : Int32} (h : INV L M) : SC 40 247 [.ref 704, .int a, .int b, .ref 70000] M (PQi L 40 200 [.ref 768, .int a, .int b] M) := by
  obtain ⟨w, ta, tl, tp, fw, im, w2, ta2, X⟩ := h
  obtain ⟨a, ha, rfl⟩ := i_ex a
  obtain ⟨b, hb, rfl⟩ := i_ex b
  by_cases hr : (0 ≤ a ∧ a < w 8) ∧ (0 ≤ b ∧ b ≤ w 0)
  · obtain ⟨a, rfl⟩ : ∃ n : Nat, a = n := ⟨a.toNat, by omega⟩
    obtain ⟨b, rfl⟩ : ∃ n : Nat, b = n := ⟨b.toNat, by omega⟩
    simp only [← iz_n]
    exact c247 (qI X (upC (c105 (d := 0) X.tr X.wb (by omega) (by omega)) (by decide)) fun N hI => upC (c200 (d := 0) hI.1 X.wb hI.2.1 hI.2.2 (by omega) (by omega)) (by decide))
  · exact t247 (tI (v := 1) X (upT (t105 (d := 0) X.tr X.wb ha hb hr) (by decide)) rfl (by decide) (by decide) (upC (c200t (d := 0) X.ri.1 X.wb ha hb hr) (by decide)))
theorem p248 {a : Int32} {b : Bool} (h : INV L M) : SC 40 248 [.ref 704, .int a, .int (nI (cond b 1 0)), .ref 70000] M (PQj L 40 201 [.ref 768, .int a, .int (nI (cond b 1 0))] M) := by
  obtain ⟨w, ta, tl, tp, fw, im, w2, ta2, X⟩ := h
  obtain ⟨a, ha, rfl⟩ := i_ex a
  by_cases hr : 0 ≤ a ∧ a ≤ w 0
  · obtain ⟨a, rfl⟩ : ∃ n : Nat, a = n := ⟨a.toNat, by omega⟩
    simp only [← iz_n]
    exact c248 (qJ X (upC (c106 (d := 0) X.tr X.wb (by omega)) (by decide)) fun N hI => upC (c201 (d := 0) hI.1 X.wb hI.2.1 hI.2.2 (by omega)) (by decide))
  · exact t248 (tJ (v := 1) X (upT (t106 (d := 0) X.tr X.wb ha hr) (by decide)) rfl (by decide) (by decide) (upC (c201t (d := 0) X.ri.1 X.wb ha hr) (by decide)))
theorem p249 {a : Int32} (h : INV L M) : SC 40 249 [.ref 704, .int a, .ref 70000] M (PQj L 40 202 [.ref 768, .int a] M) := by
  obtain ⟨w, ta, tl, tp, fw, im, w2, ta2, X⟩ := h
  obtain ⟨a, ha, rfl⟩ := i_ex a
  by_cases hr : 0 ≤ a ∧ a ≤ w 0
  · obtain ⟨a, rfl⟩ : ∃ n : Nat, a = n := ⟨a.toNat, by omega⟩
    simp only [← iz_n]
    exact c249 (qJ X (upC (c107 (d := 0) X.tr X.wb (by omega)) (by decide)) fun N hI => upC (c202 (d := 0) hI.1 X.wb hI.2.1 hI.2.2 (by omega)) (by decide))
  · exact t249 (tJ (v := 1) X (upT (t107 (d := 0) X.tr X.wb ha hr) (by decide)) rfl (by decide) (by decide) (upC (c202t (d := 0) X.ri.1 X.wb ha hr) (by decide)))
theorem p250 {a b c : Int32} (h : INV L M) : SC 40 250 [.ref 704, .int a, .int b, .int c, .ref 70000] M (PQi L 40 204 [.ref 768, .int a, .int b, .int c] M) := by
  obtain ⟨w, ta, tl, tp, fw, im, w2, ta2, X⟩ := h
  obtain ⟨a, ha, rfl⟩ := i_ex a
  obtain ⟨b, hb, rfl⟩ := i_ex b
  obtain ⟨c, hc, rfl⟩ := i_ex c
  by_cases hr : (0 ≤ a ∧ a < w 8) ∧ (0 ≤ b ∧ b ≤ w 0)
  · by_cases hn : 1 ≤ c ∧ c ≤ 8
    · obtain ⟨a, rfl⟩ : ∃ n : Nat, a = n := ⟨a.toNat, by omega⟩
      obtain ⟨b, rfl⟩ : ∃ n : Nat, b = n := ⟨b.toNat, by omega⟩
      obtain ⟨c, rfl⟩ : ∃ n : Nat, c = n := ⟨c.toNat, by omega⟩
      simp only [← iz_n]
      exact c250 (qI X (upC (c108 (d := 0) X.tr X.wb (by omega) (by omega) (by omega) (by omega)) (by decide)) fun N hI => upC (c204 (d := 0) hI.1 X.wb hI.2.1 hI.2.2 (by omega) (by omega) (by omega) (by omega)) (by decide))
    · exact t250 (tI (v := 2) X (upT (u108 (d := 0) X.tr X.wb ha hb hc hr.1 hr.2 hn) (by decide)) rfl (by decide) (by decide) (upC (c204u (d := 0) X.ri.1 X.wb ha hb hc hr.1 hr.2 hn) (by decide)))
  · exact t250 (tI (v := 1) X (upT (t108 (d := 0) X.tr X.wb ha hb hc hr) (by decide)) rfl (by decide) (by decide) (upC (c204t (d := 0) X.ri.1 X.wb ha hb hc hr) (by decide)))
theorem p251 {a b c : Int32} (h : INV L M) : SC 40 251 [.ref 704, .int a, .int b, .int c, .ref 70000] M (PQi L 40 208 [.ref 768, .int a, .int b, .int c] M) := by
  obtain ⟨w, ta, tl, tp, fw, im, w2, ta2, X⟩ := h
  obtain ⟨a, ha, rfl⟩ := i_ex a
  obtain ⟨b, hb, rfl⟩ := i_ex b
  obtain ⟨c, hc, rfl⟩ := i_ex c
  by_cases hr : (0 ≤ a ∧ a < w 8) ∧ (0 ≤ b ∧ b ≤ w 0)
  · by_cases hn : 1 ≤ c ∧ c ≤ 8
    · obtain ⟨a, rfl⟩ : ∃ n : Nat, a = n := ⟨a.toNat, by omega⟩
      obtain ⟨b, rfl⟩ : ∃ n : Nat, b = n := ⟨b.toNat, by omega⟩
      obtain ⟨c, rfl⟩ : ∃ n : Nat, c = n := ⟨c.toNat, by omega⟩
      simp only [← iz_n]
      exact c251 (qI X (upC (c109 (d := 0) X.tr X.wb (by omega) (by omega) (by omega) (by omega)) (by decide)) fun N hI => upC (c208 (d := 0) hI.1 X.wb hI.2.1 hI.2.2 (by omega) (by omega) (by omega) (by omega)) (by decide))
    · exact t251 (tI (v := 2) X (upT (u109 (d := 0) X.tr X.wb ha hb hc hr.1 hr.2 hn) (by decide)) rfl (by decide) (by decide) (upC (c208u (d := 0) X.ri.1 X.wb ha hb hc hr.1 hr.2 hn) (by decide)))
  · exact t251 (tI (v := 1) X (upT (t109 (d := 0) X.tr X.wb ha hb hc hr) (by decide)) rfl (by decide) (by decide) (upC (c208t (d := 0) X.ri.1 X.wb ha hb hc hr) (by decide)))
theorem p252 {a b c : Int32} {e : Bool} (h : INV L M) : SC 40 252 [.ref 704, .int a, .int b, .int c, .int (nI (cond e 1 0)), .ref 70000] M (PQj L 40 209 [.ref 768, .int a, .int b, .int c, .int (nI (cond e 1 0))] M) := by
  obtain ⟨w, ta, tl, tp, fw, im, w2, ta2, X⟩ := h
  obtain ⟨a, ha, rfl⟩ := i_ex a
  obtain ⟨b, hb, rfl⟩ := i_ex b
  obtain ⟨c, hc, rfl⟩ := i_ex c
  by_cases hr : (0 ≤ a ∧ a < w 8) ∧ (0 ≤ b ∧ b ≤ w 0)
  · by_cases hn : 1 ≤ c ∧ c ≤ 8
    · obtain ⟨a, rfl⟩ : ∃ n : Nat, a = n := ⟨a.toNat, by omega⟩
      obtain ⟨b, rfl⟩ : ∃ n : Nat, b = n := ⟨b.toNat, by omega⟩
      obtain ⟨c, rfl⟩ : ∃ n : Nat, c = n := ⟨c.toNat, by omega⟩
      simp only [← iz_n]
      exact c252 (qJ X (upC (c110 (d := 0) X.tr X.wb (by omega) (by omega) (by omega) (by omega)) (by decide)) fun N hI => upC (c209 (d := 0) hI.1 X.wb hI.2.1 hI.2.2 (by omega) (by omega) (by omega) (by omega)) (by decide))
    · exact t252 (tJ (v := 2) X (upT (u110 (d := 0) X.tr X.wb ha hb hc hr.1 hr.2 hn) (by decide)) rfl (by decide) (by decide) (upC (c209u (d := 0) X.ri.1 X.wb ha hb hc hr.1 hr.2 hn) (by decide)))
  · exact t252 (tJ (v := 1) X (upT (t110 (d := 0) X.tr X.wb ha hb hc hr) (by decide)) rfl (by decide) (by decide) (upC (c209t (d := 0) X.ri.1 X.wb ha hb hc hr) (by decide)))
theorem p253 {a b : Int32} (h : INV L M) : SC 40 253 [.ref 704, .int a, .int b, .ref 70000] M (PQi L 40 210 [.ref 768, .int a, .int b] M) := by
  obtain ⟨w, ta, tl, tp, fw, im, w2, ta2, X⟩ := h
  obtain ⟨a, ha, rfl⟩ := i_ex a
  obtain ⟨b, hb, rfl⟩ := i_ex b
  by_cases hr : 0 ≤ a ∧ a ≤ w 0
  · by_cases hn : 1 ≤ b ∧ b ≤ 8
    · obtain ⟨a, rfl⟩ : ∃ n : Nat, a = n := ⟨a.toNat, by omega⟩
      obtain ⟨b, rfl⟩ : ∃ n : Nat, b = n := ⟨b.toNat, by omega⟩
      simp only [← iz_n]
      exact c253 (qI X (upC (c111 (d := 0) X.tr X.wb (by omega) (by omega) (by omega)) (by decide)) fun N hI => upC (c210 (d := 0) hI.1 X.wb hI.2.1 hI.2.2 (by omega) (by omega) (by omega)) (by decide))
    · exact t253 (tI (v := 2) X (upT (u111 (d := 0) X.tr X.wb ha hb hr hn) (by decide)) rfl (by decide) (by decide) (upC (c210u (d := 0) X.ri.1 X.wb ha hb hr hn) (by decide)))
  · exact t253 (tI (v := 1) X (upT (t111 (d := 0) X.tr X.wb ha hb hr) (by decide)) rfl (by decide) (by decide) (upC (c210t (d := 0) X.ri.1 X.wb ha hb hr) (by decide)))
theorem p255 {a b : Int32} (h : INV L M) : SC 40 255 [.ref 704, .int a, .int b, .ref 70000] M (PQj L 40 213 [.ref 768, .int a, .int b] M) := by
  obtain ⟨w, ta, tl, tp, fw, im, w2, ta2, X⟩ := h
  obtain ⟨a, ha, rfl⟩ := i_ex a
  obtain ⟨b, hb, rfl⟩ := i_ex b
  by_cases hr : 0 ≤ a ∧ a ≤ w 0
  · by_cases hn : 0 ≤ b ∧ b ≤ 20
    · obtain ⟨a, rfl⟩ : ∃ n : Nat, a = n := ⟨a.toNat, by omega⟩
      obtain ⟨b, rfl⟩ : ∃ n : Nat, b = n := ⟨b.toNat, by omega⟩
      simp only [← iz_n]
      exact c255 (qJ X (upC (c112 (d := 0) X.tr X.wb (by omega) (by omega)) (by decide)) fun N hI => upC (c213 (d := 0) hI.1 X.wb hI.2.1 hI.2.2 (by omega) (by omega)) (by decide))
    · exact t255 (tJ (v := 2) X (upT (u112 (d := 0) X.tr X.wb ha hb hr hn) (by decide)) rfl (by decide) (by decide) (upC (c213u (d := 0) X.ri.1 X.wb ha hb hr hn) (by decide)))
  · exact t255 (tJ (v := 1) X (upT (t112 (d := 0) X.tr X.wb ha hb hr) (by decide)) rfl (by decide) (by decide) (upC (c213t (d := 0) X.ri.1 X.wb ha hb hr) (by decide)))
theorem p259 {a b c : Int32} (h : INV L M) : SC 40 259 [.ref 704, .int a, .int b, .int c, .ref 70000] M (PQj L 40 215 [.ref 768, .int a, .int b, .int c] M) := by
  obtain ⟨w, ta, tl, tp, fw, im, w2, ta2, X⟩ := h
  obtain ⟨a, ha, rfl⟩ := i_ex a
  obtain ⟨b, hb, rfl⟩ := i_ex b
  obtain ⟨c, hc, rfl⟩ := i_ex c
  by_cases hr : (0 ≤ a ∧ a < w 8) ∧ (0 ≤ b ∧ b ≤ w 0)
  · by_cases hn : 0 ≤ c ∧ c ≤ 12
    · obtain ⟨a, rfl⟩ : ∃ n : Nat, a = n := ⟨a.toNat, by omega⟩
      obtain ⟨b, rfl⟩ : ∃ n : Nat, b = n := ⟨b.toNat, by omega⟩
      obtain ⟨c, rfl⟩ : ∃ n : Nat, c = n := ⟨c.toNat, by omega⟩
      simp only [← iz_n]
      exact c259 (qJ X (upC (c113 (d := 0) X.tr X.wb (by omega) (by omega) (by omega)) (by decide)) fun N hI => upC (c215 (d := 0) hI.1 X.wb hI.2.1 hI.2.2 (by omega) (by omega) (by omega)) (by decide))
    · exact t259 (tJ (v := 2) X (upT (u113 (d := 0) X.tr X.wb ha hb hc hr.1 hr.2 hn) (by decide)) rfl (by decide) (by decide) (upC (c215u (d := 0) X.ri.1 X.wb ha hb hc hr.1 hr.2 hn) (by decide)))
  · exact t259 (tJ (v := 1) X (upT (t113 (d := 0) X.tr X.wb ha hb hc hr) (by decide)) rfl (by decide) (by decide) (upC (c215t (d := 0) X.ri.1 X.wb ha hb hc hr) (by decide)))
theorem p260 {a b : Int32} (h : INV L M) : SC 40 260 [.ref 704, .int a, .int b, .ref 70000] M (PQi L 40 216 [.ref 768, .int a, .int b] M) := by
  obtain ⟨w, ta, tl, tp, fw, im, w2, ta2, X⟩ := h
  obtain ⟨a, ha, rfl⟩ := i_ex a
  obtain ⟨b, hb, rfl⟩ := i_ex b
  by_cases hr : 0 ≤ a ∧ a ≤ w 0
  · by_cases hn : 0 ≤ b ∧ b ≤ 12
    · obtain ⟨a, rfl⟩ : ∃ n : Nat, a = n := ⟨a.toNat, by omega⟩
      obtain ⟨b, rfl⟩ : ∃ n : Nat, b = n := ⟨b.toNat, by omega⟩
      simp only [← iz_n]
      exact c260 (qI X (upC (c114 (d := 0) X.tr X.wb (by omega) (by omega)) (by decide)) fun N hI => upC (c216 (d := 0) hI.1 X.wb hI.2.1 hI.2.2 (by omega) (by omega)) (by decide))
    · exact t260 (tI (v := 2) X (upT (u114 (d := 0) X.tr X.wb ha hb hr hn) (by decide)) rfl (by decide) (by decide) (upC (c216u (d := 0) X.ri.1 X.wb ha hb hr hn) (by decide)))
  · exact t260 (tI (v := 1) X (upT (t114 (d := 0) X.tr X.wb ha hb hr) (by decide)) rfl (by decide) (by decide) (upC (c216t (d := 0) X.ri.1 X.wb ha hb hr) (by decide)))
theorem p261 {a b : Int32} (h : INV L M) : SC 40 261 [.ref 704, .int a, .int b, .ref 70000] M (PQi L 40 217 [.ref 768, .int a, .int b] M) := by
  obtain ⟨w, ta, tl, tp, fw, im, w2, ta2, X⟩ := h
  obtain ⟨a, ha, rfl⟩ := i_ex a
  obtain ⟨b, hb, rfl⟩ := i_ex b
  by_cases hr : (0 ≤ a ∧ a < w 8) ∧ (0 ≤ b ∧ b ≤ w 0)
  · obtain ⟨a, rfl⟩ : ∃ n : Nat, a = n := ⟨a.toNat, by omega⟩
    obtain ⟨b, rfl⟩ : ∃ n : Nat, b = n := ⟨b.toNat, by omega⟩
    simp only [← iz_n]
    exact c261 (qI X (upC (c104 (d := 0) X.tr X.wb (by omega) (by omega)) (by decide)) fun N hI => upC (c217 (d := 0) hI.1 X.wb hI.2.1 hI.2.2 (by omega) (by omega)) (by decide))
  · exact t261 (tI (v := 1) X (upT (t104 (d := 0) X.tr X.wb ha hb hr) (by decide)) rfl (by decide) (by decide) (upC (c217t (d := 0) X.ri.1 X.wb ha hb hr) (by decide)))
theorem p262 {a : Int32} (h : INV L M) : SC 40 262 [.ref 704, .int a, .ref 70000] M (PQi L 40 218 [.ref 768, .int a] M) := by
  obtain ⟨w, ta, tl, tp, fw, im, w2, ta2, X⟩ := h
  obtain ⟨a, ha, rfl⟩ := i_ex a
  by_cases hr : 0 ≤ a ∧ a ≤ w 0
  · obtain ⟨a, rfl⟩ : ∃ n : Nat, a = n := ⟨a.toNat, by omega⟩
    simp only [← iz_n]
    exact c262 (qI X (upC (c115 (d := 0) X.tr X.wb (by omega)) (by decide)) fun N hI => upC (c218 (d := 0) hI.1 X.wb hI.2.1 hI.2.2 (by omega)) (by decide))
  · exact t262 (tI (v := 1) X (upT (t115 (d := 0) X.tr X.wb ha hr) (by decide)) rfl (by decide) (by decide) (upC (c218t (d := 0) X.ri.1 X.wb ha hr) (by decide)))
end IV2
