/-! The reference's row, and its code: what a line's steps come to. -/
def shf (i : Nat) : Bool := Nat.beq i 1 || (Nat.beq i 21 || (Nat.beq i 26 || Nat.beq i 31))
def wv (w : Nat → Nat) (i : Nat) : Int := cond (shf i) ((w i : Int) - 1) (w i : Int)
def MR (w : Nat → Nat) (M : Mm) : Prop := ∀ i, i < 475 → M.1 50177 i = iz (wv w i)
theorem MR.n {w : Nat → Nat} {M : Mm} (h : MR w M) {i : Nat} (hi : i < 475) (hs : shf i = false) : M.1 50177 i = nI (w i) := by
  rw [h i hi]
  unfold wv
  rw [hs]
  exact iz_nn _
theorem MR.s {w : Nat → Nat} {M : Mm} (h : MR w M) {i : Nat} (hi : i < 475) (hs : shf i = true) : M.1 50177 i = iz ((w i : Int) - 1) := by
  rw [h i hi]
  unfold wv
  rw [hs]
  rfl
theorem shf_no {i : Nat} (h : i ≠ 1 ∧ i ≠ 21 ∧ i ≠ 26 ∧ i ≠ 31) : shf i = false := by
  unfold shf
  rw [beq_ne h.1, beq_ne h.2.1, beq_ne h.2.2.1, beq_ne h.2.2.2]; rfl
theorem MR.of {w : Nat → Nat} {P : Nat → Nat → Bool} {M N : Mm} (h : MR w M) (hF : Fr P M N) (h0 : ∀ j, j < 475 → P 50177 j = false) : MR w N := fun i hi => by rw [(hF _ _ (h0 i hi)).1]; exact h i hi
def nt : List Nat → Option (List Nat)
  | v :: r => if v ≤ 1 then some ((1 - v) :: r) else none
  | [] => none
def bn (s : Nat) : List Nat → Option (List Nat)
  | y :: x :: r => if s = 12 then some ((x + y) :: r) else if s = 13 then some ((if x < y then 1 else 0) :: r) else if s = 14 then some ((if y < x then 1 else 0) :: r) else if s = 16 then some ((if x + y = 2 then 1 else 0) :: r) else if s = 17 then some ((if 0 < x + y then 1 else 0) :: r) else none
  | _ => none
/-- one step on the values, the last one first -/
def stp (l T f b s n : Nat) (st : List Nat) : Option (List Nat) :=
  if s = 11 then some (n :: st) else if s = 10 then some (b :: st) else if s = 0 then some (l :: st) else if s = 1 then some (T :: st) else if s = 2 then some (f :: st) else if s = 15 then nt st else bn s st
theorem bn_c {s y x : Nat} {r : List Nat} : bn s (y :: x :: r) = if s = 12 then some ((x + y) :: r) else if s = 13 then some ((if x < y then 1 else 0) :: r) else if s = 14 then some ((if y < x then 1 else 0) :: r) else if s = 16 then some ((if x + y = 2 then 1 else 0) :: r) else if s = 17 then some ((if 0 < x + y then 1 else 0) :: r) else none := rfl
theorem nt_c {v : Nat} {r : List Nat} : nt (v :: r) = if v ≤ 1 then some ((1 - v) :: r) else none := rfl
theorem bn_in {s : Nat} {st st' : List Nat} (h : bn s st = some st') : ∃ y x r v, st = y :: x :: r ∧ st' = v :: r ∧ v ≤ x + y + 1 ∧ (v ≤ x + y ∨ False) := by
  match st, h with
  | [], h => cases h
  | [_], h => cases h
  | y :: x :: r, h =>
    rw [bn_c] at h
    refine ⟨y, x, r, ?_⟩
    split at h
    · cases h; exact ⟨_, rfl, rfl, by omega, Or.inl (by omega)⟩
    · split at h
      · cases h; refine ⟨_, rfl, rfl, ?_, Or.inl ?_⟩ <;> split <;> omega
      · split at h
        · cases h; refine ⟨_, rfl, rfl, ?_, Or.inl ?_⟩ <;> split <;> omega
        · split at h
          · cases h; refine ⟨_, rfl, rfl, ?_, Or.inl ?_⟩ <;> split <;> omega
          · split at h
            · cases h; refine ⟨_, rfl, rfl, ?_, Or.inl ?_⟩ <;> split <;> omega
            · cases h
theorem nt_in {st st' : List Nat} (h : nt st = some st') : ∃ v r, st = v :: r ∧ v ≤ 1 ∧ st' = (1 - v) :: r := by
  match st, h with
  | [], h => cases h
  | v :: r, h =>
    rw [nt_c] at h
    split at h
    · exact ⟨v, r, rfl, by assumption, (Option.some.inj h).symm⟩
    · cases h
def rn (l T f b : Nat) : List (Nat × Nat) → List Nat → Option (List Nat)
  | [], st => some st
  | (s, n) :: cs, st => match stp l T f b s n st with
    | some st => rn l T f b cs st
    | none => none
/-- the values lie in the row, the first lowest -/
def SK (N : Mm) : List Nat → Prop
  | [] => True
  | v :: r => N.1 50189 r.length = nI v ∧ SK N r
theorem SK.put {N : Mm} {i : Nat} {x : Int32} : ∀ {st : List Nat}, SK N st → st.length ≤ i → SK (sI N 50189 i x) st
  | [], _, _ => trivial
  | v :: r, h, hi => ⟨by rw [sI_v, if_neg (by simp only [List.length_cons] at hi; omega)]; exact h.1, SK.put h.2 (by simp only [List.length_cons] at hi; omega)⟩
def aVal (k _ : Nat) : Bool := Nat.beq k 50189
theorem stp_in {l T f b s n : Nat} {st st' : List Nat} (h : stp l T f b s n st = some st') : (∃ v, st' = v :: st ∧ (v = n ∨ v = b ∨ v = l ∨ v = T ∨ v = f)) ∨ nt st = some st' ∨ bn s st = some st' := by
  unfold stp at h
  split at h
  · exact Or.inl ⟨n, (Option.some.inj h).symm, by omega⟩
  · split at h
    · exact Or.inl ⟨b, (Option.some.inj h).symm, by omega⟩
    · split at h
      · exact Or.inl ⟨l, (Option.some.inj h).symm, by omega⟩
      · split at h
        · exact Or.inl ⟨T, (Option.some.inj h).symm, by omega⟩
        · split at h
          · exact Or.inl ⟨f, (Option.some.inj h).symm, by omega⟩
          · split at h
            · exact Or.inr (Or.inl h)
            · exact Or.inr (Or.inr h)
theorem stp_len {l T f b s n : Nat} {st st' : List Nat} (h : stp l T f b s n st = some st') : st'.length ≤ st.length + 1 := by
  rcases stp_in h with ⟨v, rfl, -⟩ | h | h
  · simp
  · obtain ⟨v, r, rfl, -, rfl⟩ := nt_in h; simp
  · obtain ⟨y, x, r, v, rfl, rfl, -⟩ := bn_in h; simp only [List.length_cons]; omega
theorem stp_sum {l T f b s n : Nat} {st st' : List Nat} (hl : l ≤ 7) (hT : T ≤ 7) (hf : f ≤ 2) (hb : b ≤ 1) (hn : n ≤ 99) (h : stp l T f b s n st = some st') : st'.sum ≤ st.sum + 100 := by
  rcases stp_in h with ⟨v, rfl, hv⟩ | h | h
  · simp only [List.sum_cons]; omega
  · obtain ⟨v, r, rfl, -, rfl⟩ := nt_in h; simp only [List.sum_cons]; omega
  · obtain ⟨y, x, r, v, rfl, rfl, h1, -⟩ := bn_in h; simp only [List.sum_cons]; omega
/-- a line of draw q -/
def LNE (M : Mm) (q n num : Nat) (cs : List (Nat × Nat)) : Prop := ∃ lo, (lo + cs.length ≤ 400 ∧ M.1 50177 (476 + 831 * q + 3 * n) = nI num ∧ M.1 50177 (476 + 831 * q + 3 * n + 1) = nI lo ∧ M.1 50177 (476 + 831 * q + 3 * n + 2) = nI (lo + cs.length)) ∧ ∀ i c, cs[i]? = some c → (M.1 50177 (506 + 831 * q + 2 * (lo + i)) = nI c.1 ∧ M.1 50177 (506 + 831 * q + 2 * (lo + i) + 1) = nI c.2) ∧ c.1 ≤ 17 ∧ c.2 ≤ 99
def DRW (M : Mm) (q : Nat) (lines : List (Nat × List (Nat × Nat))) : Prop := M.1 50177 (475 + 831 * q) = nI lines.length ∧ lines.length ≤ 10 ∧ ∀ n x, lines[n]? = some x → x.1 ≤ 3 ∧ LNE M q n x.1 x.2
def hld (l T f b : Nat) (cs : List (Nat × Nat)) : Bool := match rn l T f b cs [] with
  | some [] => true
  | some (v :: _) => Nat.beq v 1
  | none => false
def sml (l T f b : Nat) : List (Nat × List (Nat × Nat)) → Nat
  | [] => 0
  | x :: r => if hld l T f b x.2 = true then x.1 else sml l T f b r
def WFC (cs : List (Nat × Nat)) : Prop := ∀ l T f b, l ≤ 7 → T ≤ 7 → f ≤ 2 → b ≤ 1 → ∃ st, rn l T f b cs [] = some st ∧ st.length ≤ 1
def WFL (lines : List (Nat × List (Nat × Nat))) : Prop := ∀ x ∈ lines, WFC x.2
section HO
variable {d : Nat} {M : Mm} {w : Nat → Nat}
theorem c134 (h : MR w M) : SC (d + 1) 134 [.ref 768] M (fun vs N => vs = [.int (nI (w 0))] ∧ N = M) :=
  sC (by decide) rfl (go_in (e134_0 ⟨nI_in2 (by decide) (by decide), rfl, by rw [nI_c (by decide), h.n (by decide) rfl], rfl⟩))
theorem c135 (h : MR w M) : SC (d + 1) 135 [.ref 768] M (fun vs N => vs = [.int (nI (w 8))] ∧ N = M) :=
  sC (by decide) rfl (go_in (e135_0 ⟨nI_in2 (by decide) (by decide), rfl, by rw [nI_c (by decide), h.n (by decide) rfl], rfl⟩))
theorem c174 (h : MR w M) : SC (d + 1) 174 [.ref 768] M (fun vs N => vs = [.int (nI (w 10))] ∧ N = M) :=
  sC (by decide) rfl (go_in (e174_0 ⟨nI_in2 (by decide) (by decide), rfl, by rw [nI_c (by decide), h.n (by decide) rfl], rfl⟩))
theorem c136 (h : MR w M) : SC (d + 1) 136 [.ref 768] M (fun vs N => vs = [.int (nI (w 2 + w 3 + w 4 + w 5))] ∧ N = M) :=
  sC (by decide) rfl (go_in (e136_0 ⟨nI_in2 (by decide) (by decide), nI_in2 (by decide) (by decide), nI_in2 (by decide) (by decide), nI_in2 (by decide) (by decide), rfl, by rw [nI_c (a := 2) (by decide), nI_c (a := 3) (by decide), nI_c (a := 4) (by decide), nI_c (a := 5) (by decide), h.n (i := 2) (by decide) rfl, h.n (i := 3) (by decide) rfl, h.n (i := 4) (by decide) rfl, h.n (i := 5) (by decide) rfl, nI_add, nI_add, nI_add], rfl⟩))
theorem c157 {q : Nat} : SC (d + 1) 157 [.int (nI q)] M (fun vs N => vs = [.int (nI (475 + 831 * q))] ∧ N = M) :=
  sC (by decide) rfl (go_in (e157_0 ⟨rfl, by rw [nI_mul, nI_add], rfl⟩))
theorem c158 {q n : Nat} : SC (d + 2) 158 [.int (nI q), .int (nI n)] M (fun vs N => vs = [.int (nI (476 + 831 * q + 3 * n))] ∧ N = M) := by
  refine sC (by decide) rfl (go_in (e158_0 (useC c157 fun vs N h => ?_)))
  obtain ⟨rfl, rfl⟩ := h
  exact e158_4 ⟨rfl, by rw [nI_add, nI_mul, nI_add, show 475 + 831 * q + 1 + 3 * n = 476 + 831 * q + 3 * n by omega], rfl⟩
set_option maxHeartbeats 4000000 in
theorem c169 (hw : MR w M) (hb : WB w) {q n num l f b : Nat} {cs : List (Nat × Nat)} (hq : q ≤ 6) (hn : n < 10) (hL : LNE M q n num cs) (hl : l ≤ 7) (hf : f ≤ 2) (hbb : b ≤ 1) {fst : List Nat} (hr : rn l (w 0) f b cs [] = some fst) (h1 : fst.length ≤ 1) :
    SC (d + 3) 169 [.ref 768, .int (nI q), .int (nI n), .int (nI l), .int (nI f), .int (nI b)] M (fun vs N => vs = [.int (nI (cond (hld l (w 0) f b cs) 1 0))] ∧ Fr aVal M N) := by
  obtain ⟨lo, ⟨hlo, g0, g1, g2⟩, hc⟩ := hL
  have w0 := (wb_w hb).1
  refine sC (by decide) rfl (go_in (e169_0 (useC c158 fun vs N h => ?_)))
  obtain ⟨rfl, rfl⟩ := h
  refine e169_8 ⟨by rw [nI_add]; exact nI_in2 (by omega) (by decide), ?_⟩
  rw [nI_add, nI_c (by omega), g1]
  have ho : ∀ N', Fr aVal N N' → ∀ j, N'.1 50177 j = N.1 50177 j := fun N' hF j => (hF _ _ rfl).1
  have loop : ∀ k (o2 o9 o10 o11 o12 : Option Value) j st N', j + k = cs.length → Fr aVal N N' → SK N' st → st.length ≤ j → st.sum ≤ 100 * j → rn l (w 0) f b (cs.drop j) st = some fst →
      WM (d + 2) 169 (fun vs N' => vs = [.int (nI (cond (hld l (w 0) f b cs) 1 0))] ∧ Fr aVal N N') 21 [some (.ref 768), some (.int (nI q)), o2, some (.int (nI l)), some (.int (nI f)), some (.int (nI b)), some (.int (nI st.length)), some (.int (nI (476 + 831 * q + 3 * n))), some (.int (nI (lo + j))), o9, o10, o11, o12] [] N' := by
    intro k
    induction k with
    | zero =>
      intro o2 o9 o10 o11 o12 j st N' hj hF hS h2 h3 h4
      have hj : j = cs.length := by omega
      subst hj
      rw [List.drop_length] at h4
      have h5 : st = fst := Option.some.inj h4
      subst h5
      refine go_in (e169_21 ⟨by rw [nI_add]; exact nI_in2 (by omega) (by decide), br_t ?_ (go_in (e169_323 ?_))⟩)
      · rw [nI_add, nI_c (by omega), ho N' hF, g2]; exact nI_le (Nat.le_refl _) (by omega)
      · have yes : hld l (w 0) f b cs = true → WM (d + 2) 169 (fun vs N' => vs = [.int (nI (cond (hld l (w 0) f b cs) 1 0))] ∧ Fr aVal N N') 338 [some (.ref 768), none, none, none, none, none, some (.int (nI st.length)), none, none, none, none, none, none] [] N' := fun e => go_in (e169_338 (go_in (e169_343 ⟨Or.inr rfl, rfl, by rw [e]; rfl, hF⟩)))
        have no : hld l (w 0) f b cs = false → WM (d + 2) 169 (fun vs N' => vs = [.int (nI (cond (hld l (w 0) f b cs) 1 0))] ∧ Fr aVal N N') 342 [some (.ref 768), none, none, none, none, none, some (.int (nI st.length)), none, none, none, none, none, none] [] N' := fun e => go_in (e169_342 (go_in (e169_343 ⟨Or.inl rfl, rfl, by rw [e]; rfl, hF⟩)))
        cases st with
        | nil => exact br_t (by rfl) (yes (by unfold hld; rw [hr]))
        | cons v r =>
          cases r with
          | cons u r => simp at h1
          | nil =>
            have hv : v ≤ 100 * cs.length := by simpa using h3
            have e0 : N'.1 50189 0 = nI v := hS.1
            have hh : hld l (w 0) f b cs = Nat.beq v 1 := by unfold hld; rw [hr]
            refine br_f (by show ¬ nI 1 = 0; decide) ⟨nI_in2 (by decide) (by decide), ?_⟩
            rw [nI_c (by decide), e0]
            refine ⟨fun e => no ?_, fun e => yes ?_⟩
            · rw [nI_eq (by omega) (by decide)] at e
              rw [hh]; exact beq_ne e
            · rw [nI_eq (by omega) (by decide)] at e
              rw [hh, e]; rfl
    | succ k ih =>
      intro o2 o9 o10 o11 o12 j st N' hj hF hS h2 h3 h4
      have hjl : j < cs.length := by omega
      obtain ⟨c, hcj⟩ : ∃ c, cs[j]? = some c := ⟨cs[j], List.getElem?_eq_getElem hjl⟩
      obtain ⟨s, nn⟩ := c
      obtain ⟨⟨m1, m2⟩, m3, m4⟩ := hc j _ hcj
      have m1 : N'.1 50177 (506 + 831 * q + 2 * (lo + j)) = nI s := by rw [ho N' hF]; exact m1
      have m2 : N'.1 50177 (506 + 831 * q + 2 * (lo + j) + 1) = nI nn := by rw [ho N' hF]; exact m2
      have hdr : cs.drop j = (s, nn) :: cs.drop (j + 1) := by
        rw [List.drop_eq_getElem_cons hjl]
        rw [List.getElem?_eq_getElem hjl] at hcj
        rw [Option.some.inj hcj]
      rw [hdr] at h4
      unfold rn at h4
      split at h4 <;> first | cases h4; done | skip
      rename_i st1 hst
      have hl1 := stp_len hst
      have hs1 := stp_sum hl w0 hf hbb m4 hst
      have hwN : MR w N' := hw.of hF (fun j _ => rfl)
      -- on with the next step
      have next : ∀ (o2 o9 o10 o11 o12 : Option Value) N2, Fr aVal N N2 → SK N2 st1 → WM (d + 2) 169 (fun vs N' => vs = [.int (nI (cond (hld l (w 0) f b cs) 1 0))] ∧ Fr aVal N N') 317 [some (.ref 768), some (.int (nI q)), o2, some (.int (nI l)), some (.int (nI f)), some (.int (nI b)), some (.int (nI st1.length)), some (.int (nI (476 + 831 * q + 3 * n))), some (.int (nI (lo + j))), o9, o10, o11, o12] [] N2 := by
        intro o2 o9 o10 o11 o12 N2 hF2 hS2
        refine go_in (e169_317 ?_)
        rw [nI_s]
        exact ih _ _ _ _ _ (j + 1) st1 N2 (by omega) hF2 hS2 (by omega) (by omega) h4
      have push : ∀ (o2 o9 o10 o11 o12 : Option Value) v, st1 = v :: st → WM (d + 2) 169 (fun vs N' => vs = [.int (nI (cond (hld l (w 0) f b cs) 1 0))] ∧ Fr aVal N N') 140 [some (.ref 768), some (.int (nI q)), o2, some (.int (nI l)), some (.int (nI f)), some (.int (nI b)), some (.int (nI st.length)), some (.int (nI (476 + 831 * q + 3 * n))), some (.int (nI (lo + j))), o9, o10, o11, o12] [.int (nI v), .int (nI st.length), .ref 50189] N' := by
        intro o2 o9 o10 o11 o12 v e
        refine go_in (e169_140 ⟨nI_in2 (by omega) (by decide), ?_⟩)
        rw [nI_s, nI_c (by omega), show st.length + 1 = st1.length by rw [e]; rfl]
        exact next _ _ _ _ _ _ (hF.sI rfl) (by rw [e]; exact ⟨by rw [sI_at], hS.put (Nat.le_refl _)⟩)
      have two : ∀ (o2 o9 o10 o11 o12 : Option Value) v y x r, st = y :: x :: r → st1 = v :: r → WM (d + 2) 169 (fun vs N' => vs = [.int (nI (cond (hld l (w 0) f b cs) 1 0))] ∧ Fr aVal N N') 316 [some (.ref 768), some (.int (nI q)), o2, some (.int (nI l)), some (.int (nI f)), some (.int (nI b)), some (.int (nI (r.length + 1))), some (.int (nI (476 + 831 * q + 3 * n))), some (.int (nI (lo + j))), o9, o10, o11, o12] [.int (nI v), .int (nI r.length), .ref 50189] N' := by
        intro o2 o9 o10 o11 o12 v y x r e1 e2
        have hrl : r.length + 2 = st.length := by rw [e1]; rfl
        refine go_in (e169_316 ⟨nI_in2 (by omega) (by decide), ?_⟩)
        rw [nI_c (by omega), show r.length + 1 = st1.length by rw [e2]; rfl]
        refine next _ _ _ _ _ _ (hF.sI rfl) ?_
        rw [e2]
        rw [e1] at hS
        exact ⟨by rw [sI_at], hS.2.2.put (Nat.le_refl _)⟩
      -- the last ones: a number, or 0 and 1
      have lst : ∀ (o2 o9 o12 : Option Value) v y x r, s ≠ 12 → v ≤ 1 → st = y :: x :: r → st1 = v :: r → WM (d + 2) 169 (fun vs N' => vs = [.int (nI (cond (hld l (w 0) f b cs) 1 0))] ∧ Fr aVal N N') 281 [some (.ref 768), some (.int (nI q)), o2, some (.int (nI l)), some (.int (nI f)), some (.int (nI b)), some (.int (nI (r.length + 1))), some (.int (nI (476 + 831 * q + 3 * n))), some (.int (nI (lo + j))), some (.int (nI s)), some (.int (nI x)), some (.int (nI y)), o12] [.int (nI v)] N' := by
        intro o2 o9 o12 v y x r hs hv e1 e2
        have hrl : r.length + 2 = st.length := by rw [e1]; rfl
        refine go_in (e169_281 ⟨fun _ => ?_, fun e => absurd ((nI_eq (by omega) (by decide)).mp e) hs⟩)
        rw [nI_sub (by omega), Nat.add_sub_cancel]
        refine go_in (e169_306 ⟨fun e => ?_, fun e => ?_⟩)
        · rw [show (0 : Int32) = nI 0 from rfl, nI_eq (by omega) (by decide)] at e
          exact go_in (e169_315 (two _ _ _ _ _ 0 y x r e1 (by rw [e2, e])))
        · rw [show (0 : Int32) = nI 0 from rfl, nI_eq (by omega) (by decide)] at e
          exact two _ _ _ _ _ 1 y x r e1 (by rw [e2, show v = 1 by omega])
      refine go_in (e169_21 ⟨by rw [nI_add]; exact nI_in2 (by omega) (by decide), br_f ?_ (useC (upC (c157 (d := d)) (by omega)) fun vs N2 h => ?_)⟩)
      · rw [nI_add, nI_c (by omega), ho N' hF, g2]; exact nI_ge (by omega) (by omega)
      · obtain ⟨rfl, rfl⟩ := h
        have ei : nI (475 + 831 * q) + nI 31 + nI 2 * nI (lo + j) = nI (506 + 831 * q + 2 * (lo + j)) := by rw [nI_add, nI_mul, nI_add, show 475 + 831 * q + 31 + 2 * (lo + j) = 506 + 831 * q + 2 * (lo + j) by omega]
        refine e169_43 ?_
        rw [ei, nI_c (by omega), m1]
        refine ⟨nI_in2 (by omega) (by decide), fun e => ?_, fun e => ⟨fun e2 => ?_, fun e2 => ?_⟩⟩
        · -- beyond 11
          rw [nI_ltI (by decide) (by omega)] at e
          refine go_in (e169_147 ⟨fun e3 => ?_, fun e3 => ?_⟩)
          · rw [nI_eq (by omega) (by decide)] at e3
            unfold stp at hst
            rw [if_neg (by omega), if_neg (by omega), if_neg (by omega), if_neg (by omega), if_neg (by omega), if_neg e3] at hst
            obtain ⟨y, x, r, vv, rfl, -, -, -⟩ := bn_in hst
            rw [bn_c] at hst
            · skip
              simp only [List.length_cons] at h2
              simp only [List.sum_cons] at h3
              have ex : N2.1 50189 r.length = nI x := hS.2.1
              have ey : N2.1 50189 (r.length + 1) = nI y := hS.1
              have t1 : nI (y :: x :: r).length + Int32.ofInt (-1) = nI (r.length + 1) := by
                rw [show Int32.ofInt (-1) = iz (-1) from rfl, iz_n, iz_add, iz_n]
                congr 1
                simp only [List.length_cons]
                omega
              have t2 : nI (r.length + 1) - nI 1 = nI r.length := by rw [nI_sub (by omega), Nat.add_sub_cancel]
              refine go_in (e169_177 ?_)
              rw [t1, t2, nI_c (by omega), nI_c (by omega), ex, ey]
              refine ⟨nI_in2 (by omega) (by decide), nI_in2 (by omega) (by decide), fun f1 => ?_, fun f1 => ⟨fun f2 => ?_, fun f2 => ?_⟩⟩
              · rw [nI_eq (by omega) (by decide)] at f1
                refine go_in (e169_222 ⟨fun f2 => ?_, fun f2 => ⟨fun f3 => ?_, fun f3 => ?_⟩⟩)
                · rw [nI_eq (by omega) (by decide)] at f2
                  refine go_in (e169_244 ⟨fun f3 => ?_, fun f3 => ⟨fun f4 => ?_, fun f4 => ?_⟩⟩)
                  · rw [nI_eq (by omega) (by decide)] at f3
                    by_cases s12 : s = 12
                    · rw [if_pos s12] at hst
                      have v0 : ∀ z, WM (d + 2) 169 (fun vs N' => vs = [.int (nI (cond (hld l (w 0) f b cs) 1 0))] ∧ Fr aVal N N') 281 [some (.ref 768), some (.int (nI q)), none, some (.int (nI l)), some (.int (nI f)), some (.int (nI b)), some (.int (nI (r.length + 1))), some (.int (nI (476 + 831 * q + 3 * n))), some (.int (nI (lo + j))), some (.int (nI s)), some (.int (nI x)), some (.int (nI y)), none] [.int z] N2 := by
                        intro z
                        refine go_in (e169_281 ⟨fun e => absurd (by rw [s12]) e, fun _ => ?_⟩)
                        rw [nI_add, t2]
                        exact two _ _ _ _ _ (x + y) y x r rfl (Option.some.inj hst).symm
                      refine go_in (e169_268 ⟨fun f4 => go_in (e169_280 (v0 _)), fun f4 => v0 _⟩)
                    · rw [if_neg s12, if_neg f1, if_neg f2, if_neg f3] at hst
                      by_cases s17 : s = 17
                      · rw [if_pos s17] at hst
                        refine go_in (e169_268 ⟨fun f4 => ?_, fun f4 => ?_⟩)
                        · rw [nI_add, show (0 : Int32) = nI 0 from rfl, nI_leI (by omega) (by decide)] at f4
                          rw [if_neg (by omega)] at hst
                          exact go_in (e169_280 (lst none none none 0 y x r s12 (by omega) rfl (Option.some.inj hst).symm))
                        · rw [nI_add, show (0 : Int32) = nI 0 from rfl, nI_leI (by omega) (by decide)] at f4
                          rw [if_pos (by omega)] at hst
                          exact lst none none none 1 y x r s12 (by omega) rfl (Option.some.inj hst).symm
                      · rw [if_neg s17] at hst; cases hst
                  · rw [nI_eq (by omega) (by decide)] at f3
                    rw [nI_add, nI_eq (by omega) (by decide)] at f4
                    rw [if_neg (by omega), if_neg (by omega), if_neg (by omega), if_pos f3, if_neg f4] at hst
                    exact go_in (e169_264 (lst none none none 0 y x r (by omega) (by omega) rfl (Option.some.inj hst).symm))
                  · rw [nI_eq (by omega) (by decide)] at f3
                    rw [nI_add, nI_eq (by omega) (by decide)] at f4
                    rw [if_neg (by omega), if_neg (by omega), if_neg (by omega), if_pos f3, if_pos f4] at hst
                    exact lst none none none 1 y x r (by omega) (by omega) rfl (Option.some.inj hst).symm
                · rw [nI_eq (by omega) (by decide)] at f2
                  rw [nI_leI (by omega) (by omega)] at f3
                  rw [if_neg (by omega), if_neg (by omega), if_pos f2, if_neg (by omega)] at hst
                  exact go_in (e169_240 (lst none none none 0 y x r (by omega) (by omega) rfl (Option.some.inj hst).symm))
                · rw [nI_eq (by omega) (by decide)] at f2
                  rw [nI_leI (by omega) (by omega)] at f3
                  rw [if_neg (by omega), if_neg (by omega), if_pos f2, if_pos (by omega)] at hst
                  exact lst none none none 1 y x r (by omega) (by omega) rfl (Option.some.inj hst).symm
              · rw [nI_eq (by omega) (by decide)] at f1
                rw [nI_leI (by omega) (by omega)] at f2
                rw [if_neg (by omega), if_pos f1, if_neg (by omega)] at hst
                exact go_in (e169_218 (lst none none none 0 y x r (by omega) (by omega) rfl (Option.some.inj hst).symm))
              · rw [nI_eq (by omega) (by decide)] at f1
                rw [nI_leI (by omega) (by omega)] at f2
                rw [if_neg (by omega), if_pos f1, if_pos (by omega)] at hst
                exact lst none none none 1 y x r (by omega) (by omega) rfl (Option.some.inj hst).symm
          · rw [nI_eq (by omega) (by decide)] at e3
            unfold stp at hst
            rw [if_neg (by omega), if_neg (by omega), if_neg (by omega), if_neg (by omega), if_neg (by omega), if_pos e3] at hst
            obtain ⟨v, r, rfl, hv1, -⟩ := nt_in hst
            rw [nt_c] at hst
            · simp only [List.length_cons] at h2
              have t2 : nI (v :: r).length - nI 1 = nI r.length := by rw [nI_sub (by simp), List.length_cons, Nat.add_sub_cancel]
              by_cases hv : v ≤ 1
              · rw [if_pos hv] at hst
                have ev : N2.1 50189 r.length = nI v := hS.1
                rw [t2, nI_c (by omega), ev, nI_sub hv, show (v :: r).length = st1.length by rw [← Option.some.inj hst]; rfl]
                refine ⟨nI_in2 (by omega) (by decide), nI_in2 (by omega) (by decide), next _ _ _ _ _ _ (hF.sI rfl) ?_⟩
                rw [← Option.some.inj hst]
                exact ⟨by rw [sI_at], hS.2.put (Nat.le_refl _)⟩
              · rw [if_neg hv] at hst; cases hst
        · -- level, top, farm, broken
          rw [nI_ltI (by decide) (by omega)] at e
          rw [nI_eq (by omega) (by decide)] at e2
          unfold stp at hst
          rw [if_neg e2] at hst
          refine go_in (e169_96 ⟨fun e3 => ?_, fun e3 => ?_⟩)
          · rw [nI_eq (by omega) (by decide)] at e3
            rw [if_neg e3] at hst
            refine go_in (e169_116 ⟨fun e4 => ?_, fun e4 => ?_⟩)
            · rw [show (0 : Int32) = nI 0 from rfl, nI_eq (by omega) (by decide)] at e4
              rw [if_neg e4] at hst
              refine go_in (e169_125 ⟨fun e5 => ?_, fun e5 => ?_⟩)
              · rw [nI_eq (by omega) (by decide)] at e5
                rw [if_neg e5] at hst
                by_cases s2 : s = 2
                · rw [if_pos s2] at hst
                  exact go_in (e169_138 (push _ _ _ _ _ f (Option.some.inj hst).symm))
                · rw [if_neg s2, if_neg (by omega)] at hst
                  obtain ⟨y, x, r, vv, rfl, -, -, -⟩ := bn_in hst
                  rw [bn_c, if_neg (by omega), if_neg (by omega), if_neg (by omega), if_neg (by omega), if_neg (by omega)] at hst
                  cases hst
              · rw [nI_eq (by omega) (by decide)] at e5
                rw [if_pos e5] at hst
                refine useC (upC (c134 (d := d) hwN) (by omega)) fun vs N3 h => ?_
                obtain ⟨rfl, rfl⟩ := h
                exact e169_135 (push _ _ _ _ _ (w 0) (Option.some.inj hst).symm)
            · rw [show (0 : Int32) = nI 0 from rfl, nI_eq (by omega) (by decide)] at e4
              rw [if_pos e4] at hst
              exact push _ _ _ _ _ l (Option.some.inj hst).symm
          · rw [nI_eq (by omega) (by decide)] at e3
            rw [if_pos e3] at hst
            refine ⟨fun e4 => ?_, fun e4 => ?_⟩
            · rw [show (0 : Int32) = nI 0 from rfl, nI_eq (by omega) (by decide)] at e4
              subst e4
              exact go_in (e169_112 (push _ _ _ _ _ 0 (Option.some.inj hst).symm))
            · rw [show (0 : Int32) = nI 0 from rfl, nI_eq (by omega) (by decide)] at e4
              have hb1 : b = 1 := by omega
              subst hb1
              exact push _ _ _ _ _ 1 (Option.some.inj hst).symm
        · -- a number
          rw [nI_eq (by omega) (by decide)] at e2
          unfold stp at hst
          rw [if_pos e2] at hst
          refine useC (upC (c157 (d := d)) (by omega)) fun vs N3 h => ?_
          obtain ⟨rfl, rfl⟩ := h
          refine e169_82 ⟨?_, ?_⟩
          · rw [ei, nI_add]; exact nI_in2 (by omega) (by decide)
          · rw [ei, nI_add, nI_c (by omega), m2]
            exact push _ _ _ _ _ nn (Option.some.inj hst).symm
  exact loop cs.length _ _ _ _ _ 0 [] N (by omega) Fr.rf trivial (Nat.le_refl _) (Nat.le_refl _) (by rw [List.drop_zero]; exact hr)
end HO
