/-! Laws of the small machine. -/
def MoC (C C' : CT) : Prop := ∀ (k : Nat) (as : List Value) (M : Mm) (Q Q' : List Value → Mm → Prop), (∀ vs N, Q vs N → Q' vs N) → C k as M Q → C' k as M Q'
def MoT (T T' : TT) : Prop := ∀ (k : Nat) (as : List Value) (M : Mm) (Q Q' : Nat → Mm → Prop), (∀ E N, Q E N → Q' E N) → T k as M Q → T' k as M Q'
theorem cond_mk {b : Bool} {P : Prop} (h1 : b = true) (h2 : P) : cond b P False := by subst h1; exact h2
set_option maxHeartbeats 4000000 in
theorem exN_mono {i : Instr} {st : List Value} {k k' : List Value → Prop} (h : ∀ st, k st → k' st) (hx : exN i st k) : exN i st k' := by
  unfold exN at hx
  split at hx <;> (try split at hx) <;> first | exact hx.elim | exact h _ hx | exact ⟨hx.1, h _ hx.2⟩
set_option maxHeartbeats 4000000 in
theorem exM_mono {i : Instr} {st : List Value} {M : Mm} {k k' : List Value → Mm → Prop} (h : ∀ st N, k st N → k' st N) (hx : exM i st M k) : exM i st M k' := by
  unfold exM at hx
  split at hx <;> (try split at hx) <;> first
    | exact hx.elim
    | exact cond_mk (cond_true hx).1 (h _ _ (cond_true hx).2)
    | exact cond_mk (cond_true hx).1 ⟨(cond_true hx).2.1, h _ _ (cond_true hx).2.2⟩
    | exact cond_mk (cond_true hx).1 ⟨(cond_true hx).2.1, (cond_true hx).2.2.1, h _ _ (cond_true hx).2.2.2⟩
    | exact ⟨hx.1, h _ _ hx.2⟩
theorem br_mono {c : Jvm.ClassFile.Cond} {x y : Int32} {A A' B B' : Prop} (hA : A → A') (hB : B → B') (h : br c x y A B) : br c x y A' B' := by
  cases c <;> exact ⟨fun q => hA (h.1 q), fun q => hB (h.2 q)⟩
theorem swt_mono {x : Int32} {K K' : Nat → Prop} {Dd Dd' : Prop} (hK : ∀ t, K t → K' t) (hD : Dd → Dd') : ∀ (ts : List Int) (lo : Nat), swt x K lo ts Dd → swt x K' lo ts Dd'
  | [], _, h => hD h
  | t :: ts, lo, h => ⟨fun q => hK _ (h.1 q), fun q => swt_mono hK hD ts (lo + 1) (h.2 q)⟩
theorem thr_mono {g : Nat} {P P' : Nat → Prop} (h : ∀ g, P g → P' g) (hx : thr g P) : thr g P' := by
  cases g with
  | zero => exact hx
  | succ g => exact h g hx
theorem rcq_mono {r : Nat} {as : List Value} {P P' : Prop} (h : P → P') (hx : rcq r as P) : rcq r as P' := by
  unfold rcq at hx ⊢
  split at hx
  · exact h hx
  · split at hx <;> first | exact hx.elim | exact ⟨hx.1, h hx.2⟩
  · split at hx <;> first | exact hx.elim | exact ⟨hx.1, h hx.2⟩
  · split at hx <;> first | exact hx.elim | exact cond_mk (cond_true hx).1 (h (cond_true hx).2)
section MO
variable {C C' : CT} {T T' : TT} {R R' : RT} {K K' : KT} {Hd Hd' : HT}
set_option maxHeartbeats 4000000 in
theorem exC_mono (hC : MoC C C') (hT : MoT T T') (hR : ∀ e vs g M, R e vs g M → R' e vs g M) (hK : ∀ g t L st M, K g t L st M → K' g t L st M) (hH : ∀ g E L M, Hd g E L M → Hd' g E L M)
    {i : Instr} {g : Nat} {L : Lo} {st : List Value} {M : Mm} {k k' : kT} (h : ∀ g L st M, k g L st M → k' g L st M) (hx : exC C T R K Hd i g L st M k) : exC C' T' R' K' Hd' i g L st M k' := by
  unfold exC at hx
  split at hx
  · split at hx <;> first | exact hx.elim | skip
    rename_i hv
    unfold exC
    dsimp only
    rw [hv]
    exact h _ _ _ _ hx
  · split at hx <;> first | exact hx.elim | skip
    rename_i hv
    unfold exC
    dsimp only
    rw [hv]
    exact h _ _ _ _ hx
  · split at hx <;> first | exact hx.elim | skip
    rename_i hv
    unfold exC
    dsimp only
    rw [hv]
    exact h _ _ _ _ hx
  · split at hx <;> first | exact hx.elim | exact h _ _ _ _ hx
  · split at hx <;> first | exact hx.elim | exact h _ _ _ _ hx
  · split at hx <;> first | exact hx.elim | exact h _ _ _ _ hx
  · split at hx <;> first | exact hx.elim | skip
    rename_i hv
    unfold exC
    dsimp only
    rw [hv]
    exact h _ _ _ _ hx
  · exact hK _ _ _ _ _ hx
  · exact hK _ _ _ _ _ hx
  · split at hx <;> first | exact hx.elim | exact br_mono (hK _ _ _ _ _) (h _ _ _ _) hx
  · split at hx <;> first | exact hx.elim | exact br_mono (hK _ _ _ _ _) (h _ _ _ _) hx
  · split at hx <;> first | exact hx.elim | skip
    rename_i k t _ _ _ _
    cases k
    · exact ⟨hx.1, fun q => hK _ _ _ _ _ (hx.2.1 q), fun q => h _ _ _ _ (hx.2.2 q)⟩
    · exact ⟨hx.1, fun q => hK _ _ _ _ _ (hx.2.1 q), fun q => h _ _ _ _ (hx.2.2 q)⟩
  · split at hx <;> first | exact hx.elim | exact swt_mono (fun t => hK _ _ _ _ _) (hK _ _ _ _ _) _ _ hx
  · split at hx <;> first | exact hx.elim | skip
    rename_i hp
    unfold exC
    dsimp only
    rw [hp]
    exact cond_mk (cond_true hx).1 (rcq_mono (hC _ _ _ _ _ (fun vs N => h _ _ _ _)) (cond_true hx).2)
  · split at hx <;> first | exact hx.elim | skip
    rename_i hp
    unfold exC
    dsimp only
    rw [hp]
    exact cond_mk (cond_true hx).1 (thr_mono (fun g => hC _ _ _ _ _ (fun vs N => h _ _ _ _)) (cond_true hx).2)
  · split at hx <;> first | exact hx.elim | skip
    rename_i hp
    unfold exC
    dsimp only
    rw [hp]
    exact cond_mk (cond_true hx).1 (rcq_mono (fun q => q.imp (hC _ _ _ _ _ (fun vs N => h _ _ _ _)) (thr_mono (fun g => hT _ _ _ _ _ (fun E N => hH _ _ _ _)))) (cond_true hx).2)
  · split at hx <;> first | exact hx.elim | exact hR _ _ _ _ hx
  · split at hx <;> first | exact hx.elim | exact ⟨hx.1, hR _ _ _ _ hx.2⟩
  · split at hx <;> first | exact hx.elim | exact hR _ _ _ _ hx
  · split at hx <;> first | exact hx.elim | exact ⟨hx.1, hR _ _ _ _ hx.2⟩
  · split at hx <;> first | exact hx.elim | exact hR _ _ _ _ hx
  · split at hx <;> first | exact hx.elim | exact thr_mono (fun g => hR _ _ _ _) hx
  · exact hx.elim
theorem wpl_mono (hC : MoC C C') (hT : MoT T T') (hR : ∀ e vs g M, R e vs g M → R' e vs g M) (hK : ∀ g t L st M, K g t L st M → K' g t L st M) (hH : ∀ g E L M, Hd g E L M → Hd' g E L M) :
    ∀ (is : List Ins) (g : Nat) (L : Lo) (st : List Value) (M : Mm), wpl C T R K Hd is g L st M → wpl C' T' R' K' Hd' is g L st M
  | [], _, _, _, _, h => h
  | (0, i) :: is, g, L, st, M, h => exN_mono (fun st => wpl_mono hC hT hR hK hH is g L st M) h
  | (1, i) :: is, g, L, st, M, h => exM_mono (fun st N => wpl_mono hC hT hR hK hH is g L st N) h
  | (_ + 2, i) :: is, g, L, st, M, h => exC_mono hC hT hR hK hH (wpl_mono hC hT hR hK hH is) h
theorem blk_mono (hC : MoC C C') (hT : MoT T T') (hR : ∀ e vs g M, R e vs g M → R' e vs g M) {hd hd' : KT → HT} (hhd : ∀ g E L M, hd K g E L M → hd' K' g E L M) {tx : Tx} (hK : ∀ g t L st M, K g t L st M → K' g t L st M) {g pc : Nat} {L : Lo} {st : List Value} {M : Mm} (h : blk C T R hd tx K g pc L st M) : blk C' T' R' hd' tx K' g pc L st M := by
  unfold blk at h ⊢
  split at h
  · exact wpl_mono hC hT hR hK hhd _ _ _ _ _ h
  · exact h.elim
/-- a block's text may be used -/
theorem Wp_in (hC : MoC C C) (hT : MoT T T) {hd : KT → HT} (hhd : ∀ K K' : KT, (∀ g t L st M, K g t L st M → K' g t L st M) → ∀ g E L M, hd K g E L M → hd K' g E L M) {tx : Tx} {g pc : Nat} {L : Lo} {st : List Value} {M : Mm} (h : blk C T R hd tx (Wp C T R hd tx) g pc L st M) : Wp C T R hd tx g pc L st M := by
  intro K hK
  have hle : ∀ g t L st M, Wp C T R hd tx g t L st M → K g t L st M := fun g t L st M q => q K hK
  exact hK _ _ _ _ _ (blk_mono hC hT (fun _ _ _ _ q => q) (hhd _ _ hle) hle h)
theorem Wp_mono (hC : MoC C C') (hT : MoT T T') (hR : ∀ e vs g M, R e vs g M → R' e vs g M) {hd hd' : KT → HT} (hhd : ∀ K : KT, ∀ g E L M, hd K g E L M → hd' K g E L M) {tx : Tx} {g pc : Nat} {L : Lo} {st : List Value} {M : Mm} (h : Wp C T R hd tx g pc L st M) : Wp C' T' R' hd' tx g pc L st M := by
  intro K hK
  exact h K (fun g pc L st M q => hK _ _ _ _ _ (blk_mono hC hT hR (hhd K) (fun _ _ _ _ _ q => q) q))
end MO
/-- answers of a method that returns; of one that throws; of the law's wrappers, which catch -/
def RP (Q : List Value → Mm → Prop) : RT := fun e vs _ M => e = 0 ∧ Q vs M
def RE (Q : Nat → Mm → Prop) : RT := fun e _ _ M => e ≠ 0 ∧ e < 5 ∧ Q (e - 1) M
def hdN : KT → HT := fun _ _ _ _ _ => False
def hdE (Q : Nat → Mm → Prop) : KT → HT := fun _ _ E _ M => E < 4 ∧ Q E M
def ctE (E : Nat) : Nat := cond (Nat.beq E 0) 13 (cond (Nat.beq E 1) 36 (cond (Nat.beq E 2) 26 109))
/-- the row of a table that takes E -/
def hcf (ct : Nat) : Nat → List (Nat × Nat × Nat × Nat) → Option Nat
  | _, [] => none
  | v, (_, _, _, t) :: r => cond (Nat.beq t ct) (some v) (hcf ct (v + 1) r)
def hdc (k E : Nat) : Option Nat := hcf (ctE E) 1 (hhOf k)
def hdW (k : Nat) (Q : List Value → Mm → Prop) : KT → HT := fun _ _ E _ M => match hdc k E with
  | some v => Q [.int (nI v)] M
  | none => False
def hdC (k : Nat) (Q : List Value → Mm → Prop) : KT → HT := cond (Nat.blt k 234) hdN (hdW k Q)
/-- String's three on the texts -/
def orc (k : Nat) (as : List Value) (M : Mm) (Q : List Value → Mm → Prop) : Prop := match as with
  | [.ref t] => isS t = true ∧ ((k = 1001 ∧ Q [.int (nI (str t).length)] M) ∨ (k = 1002 ∧ Q [.int (cond (str t).isEmpty 1 0)] M))
  | [.ref t, .int i] => isS t = true ∧ k = 1003 ∧ vp_in i (str t).length ∧ Q [.int (nI ((str t).getD i.toNatClampNeg 0))] M
  | _ => False
/-- the arguments fit the locals -/
def aOK : List Value → Nat → Bool
  | [], _ => true
  | .int _ :: t, n + 1 => aOK t n
  | .ref _ :: t, n + 1 => aOK t n
  | .long _ :: t, n + 2 => aOK t n
  | _, _ => false
def semC (C : CT) (T : TT) : CT := fun k as M Q => (1001 ≤ k ∧ orc k as M Q) ∨ (k < 264 ∧ aOK as (mlOf k) = true ∧ Wp C T (RP Q) (hdC k Q) (txOf k) (gOf k) 0 (entL as (mlOf k)) [] M)
def semT (C : CT) (T : TT) : TT := fun k as M Q => k < 234 ∧ k ≠ 127 ∧ owOf k = 11 ∧ aOK as (mlOf k) = true ∧ Wp C T (RE Q) (hdE Q) (txOf k) 1 0 (entL as (mlOf k)) [] M
def sem : Nat → CT × TT
  | 0 => (fun k as M Q => 1001 ≤ k ∧ orc k as M Q, fun _ _ _ _ => False)
  | d + 1 => (semC (sem d).1 (sem d).2, semT (sem d).1 (sem d).2)
theorem orc_mono {k : Nat} {as : List Value} {M : Mm} {Q Q' : List Value → Mm → Prop} (h : ∀ vs N, Q vs N → Q' vs N) (hx : orc k as M Q) : orc k as M Q' := by
  unfold orc at hx ⊢
  split at hx
  · exact ⟨hx.1, hx.2.imp (fun q => ⟨q.1, h _ _ q.2⟩) (fun q => ⟨q.1, h _ _ q.2⟩)⟩
  · exact ⟨hx.1, hx.2.1, hx.2.2.1, h _ _ hx.2.2.2⟩
  · exact hx.elim
theorem hdW_mono {k : Nat} {Q Q' : List Value → Mm → Prop} (h : ∀ vs N, Q vs N → Q' vs N) (K : KT) (g E : Nat) (L : Lo) (M : Mm) (hx : hdW k Q K g E L M) : hdW k Q' K g E L M := by
  unfold hdW at hx ⊢
  split at hx
  · exact h _ _ hx
  · exact hx.elim
theorem hdC_mono {k : Nat} {Q Q' : List Value → Mm → Prop} (h : ∀ vs N, Q vs N → Q' vs N) (K : KT) (g E : Nat) (L : Lo) (M : Mm) (hx : hdC k Q K g E L M) : hdC k Q' K g E L M := by
  unfold hdC at hx ⊢
  cases hb : Nat.blt k 234 with
  | true => rw [hb] at hx; exact hx.elim
  | false => rw [hb] at hx; exact hdW_mono h K g E L M hx
theorem semC_mono {C C' : CT} {T T' : TT} (hC : MoC C C') (hT : MoT T T') : MoC (semC C T) (semC C' T') := fun k as M Q Q' h hx => by
  rcases hx with hx | hx
  · exact Or.inl ⟨hx.1, orc_mono h hx.2⟩
  · exact Or.inr ⟨hx.1, hx.2.1, Wp_mono hC hT (fun e vs g N q => ⟨q.1, h _ _ q.2⟩) (fun K => hdC_mono h K) hx.2.2⟩
theorem semT_mono {C C' : CT} {T T' : TT} (hC : MoC C C') (hT : MoT T T') : MoT (semT C T) (semT C' T') := fun k as M Q Q' h hx =>
  ⟨hx.1, hx.2.1, hx.2.2.1, hx.2.2.2.1, Wp_mono hC hT (fun e vs g N q => ⟨q.1, q.2.1, h _ _ q.2.2⟩) (fun K g E L M q => ⟨q.1, h _ _ q.2⟩) hx.2.2.2.2⟩
theorem sem_mono : ∀ d, MoC (sem d).1 (sem d).1 ∧ MoT (sem d).2 (sem d).2
  | 0 => ⟨fun _ _ _ _ _ h hx => ⟨hx.1, orc_mono h hx.2⟩, fun _ _ _ _ _ _ hx => hx⟩
  | d + 1 => ⟨semC_mono (sem_mono d).1 (sem_mono d).2, semT_mono (sem_mono d).1 (sem_mono d).2⟩
theorem sem_succ : ∀ d, MoC (sem d).1 (sem (d + 1)).1 ∧ MoT (sem d).2 (sem (d + 1)).2
  | 0 => ⟨fun _ _ _ _ _ h hx => Or.inl ⟨hx.1, orc_mono h hx.2⟩, fun _ _ _ _ _ _ hx => hx.elim⟩
  | d + 1 => ⟨semC_mono (sem_succ d).1 (sem_succ d).2, semT_mono (sem_succ d).1 (sem_succ d).2⟩
theorem sem_le (d : Nat) : ∀ n, MoC (sem d).1 (sem (d + n)).1 ∧ MoT (sem d).2 (sem (d + n)).2
  | 0 => sem_mono d
  | n + 1 => ⟨fun k as M Q Q' h hx => (sem_succ (d + n)).1 k as M Q' Q' (fun _ _ q => q) ((sem_le d n).1 k as M Q Q' h hx), fun k as M Q Q' h hx => (sem_succ (d + n)).2 k as M Q' Q' (fun _ _ q => q) ((sem_le d n).2 k as M Q Q' h hx)⟩
theorem hdN_ok : ∀ K K' : KT, (∀ g t L st M, K g t L st M → K' g t L st M) → ∀ g E L M, hdN K g E L M → hdN K' g E L M := fun _ _ _ _ _ _ _ q => q
theorem hdC_ok {k : Nat} {Q : List Value → Mm → Prop} : ∀ K K' : KT, (∀ g t L st M, K g t L st M → K' g t L st M) → ∀ g E L M, hdC k Q K g E L M → hdC k Q K' g E L M := by
  intro K K' _ g E L M q
  unfold hdC at q ⊢
  cases hb : Nat.blt k 234 with
  | true => rw [hb] at q; exact q.elim
  | false => rw [hb] at q; exact q
theorem hdE_ok {Q : Nat → Mm → Prop} : ∀ K K' : KT, (∀ g t L st M, K g t L st M → K' g t L st M) → ∀ g E L M, hdE Q K g E L M → hdE Q K' g E L M := fun _ _ _ _ _ _ _ q => q
