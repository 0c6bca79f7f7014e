/-! What is told keeps the bounds. -/
section WBU
variable {w : Nat → Nat}
theorem WB_well (hb : WB w) {a b : Nat} (h : 1 ≤ a ∧ a ≤ 7) (h2 : b ≤ 8) : WB (up (up w 0 a) 1 b) := by
  unfold WB at hb ⊢
  simp (disch := omega) only [up_n, up_e]
  exact ⟨⟨h.1, h.2, h2⟩, hb.2⟩
theorem WB_rain (hb : WB w) {a b c e : Nat} (h : a ≤ 4 ∧ b ≤ 4 ∧ c ≤ 4 ∧ e ≤ 4) (h2 : 1 ≤ a + b + c + e ∧ a + b + c + e ≤ 4) : WB (up (up (up (up w 2 a) 3 b) 4 c) 5 e) := by
  unfold WB at hb ⊢
  obtain ⟨h0, -, hb⟩ := hb
  have hj : ∀ j, j < 4 → up (up (up (up w 2 a) 3 b) 4 c) 5 e (2 + j) ≤ 4 := fun j hj => by
    obtain rfl | rfl | rfl | rfl : j = 0 ∨ j = 1 ∨ j = 2 ∨ j = 3 := by omega
    · show up (up (up (up w 2 a) 3 b) 4 c) 5 e 2 ≤ 4
      simp (disch := omega) only [up_n, up_e]
      omega
    · show up (up (up (up w 2 a) 3 b) 4 c) 5 e 3 ≤ 4
      simp (disch := omega) only [up_n, up_e]
      omega
    · show up (up (up (up w 2 a) 3 b) 4 c) 5 e 4 ≤ 4
      simp (disch := omega) only [up_n, up_e]
      omega
    · show up (up (up (up w 2 a) 3 b) 4 c) 5 e 5 ≤ 4
      simp (disch := omega) only [up_n, up_e]
      omega
  refine ⟨?_, ⟨hj, ?_⟩, ?_⟩
  · simp (disch := omega) only [up_n, up_e]
    exact h0
  · simp (disch := omega) only [up_n, up_e]
    exact h2
  · simp (disch := omega) only [up_n, up_e]
    exact hb
theorem WB_years (hb : WB w) {p q : Nat} (h : 1 ≤ p ∧ p < q ∧ q ≤ 5) : WB (up (up w 6 p) 7 q) := by
  unfold WB at hb ⊢
  have hj : ∀ j, j < 4 → up (up w 6 p) 7 q (2 + j) ≤ 4 := fun j hj => by
    simp (disch := omega) only [up_n]
    exact hb.2.1.1 j hj
  refine ⟨?_, ⟨hj, ?_⟩, ?_⟩
  · simp (disch := omega) only [up_n, up_e]
    exact hb.1
  · simp (disch := omega) only [up_n, up_e]
    exact hb.2.1.2
  · simp (disch := omega) only [up_n, up_e]
    exact ⟨h, hb.2.2.2⟩
theorem WB_beside (hb : WB w) {a b c : Nat} (h : a ≤ 7 ∧ b ≤ a ∧ c ≤ 3) : WB (up (up (up w 14 a) 15 b) 16 c) := by
  unfold WB at hb ⊢
  have hj : ∀ j, j < 4 → up (up (up w 14 a) 15 b) 16 c (2 + j) ≤ 4 := fun j hj => by
    simp (disch := omega) only [up_n]
    exact hb.2.1.1 j hj
  refine ⟨?_, ⟨hj, ?_⟩, ?_⟩
  · simp (disch := omega) only [up_n, up_e]
    exact hb.1
  · simp (disch := omega) only [up_n, up_e]
    exact hb.2.1.2
  · simp (disch := omega) only [up_n, up_e]
    exact ⟨hb.2.2.1, hb.2.2.2.1, h, hb.2.2.2.2.2⟩
theorem WB_force (hb : WB w) {r : Nat} (h : r < w 9) : WB (up w 10 r) := by
  unfold WB at hb ⊢
  have hj : ∀ j, j < 4 → up w 10 r (2 + j) ≤ 4 := fun j hj => by
    simp (disch := omega) only [up_n]
    exact hb.2.1.1 j hj
  refine ⟨?_, ⟨hj, ?_⟩, ?_⟩
  · simp (disch := omega) only [up_n, up_e]
    exact hb.1
  · simp (disch := omega) only [up_n, up_e]
    exact hb.2.1.2
  · simp (disch := omega) only [up_n, up_e]
    exact ⟨hb.2.2.1, ⟨hb.2.2.2.1.1, hb.2.2.2.1.2.1, h, hb.2.2.2.1.2.2.2⟩, hb.2.2.2.2⟩
theorem WB_draw (hb : WB w) (h : w 11 < 6) : WB (up w 11 (w 11 + 1)) := by
  unfold WB at hb ⊢
  have hj : ∀ j, j < 4 → up w 11 (w 11 + 1) (2 + j) ≤ 4 := fun j hj => by
    simp (disch := omega) only [up_n]
    exact hb.2.1.1 j hj
  refine ⟨?_, ⟨hj, ?_⟩, ?_⟩
  · simp (disch := omega) only [up_n, up_e]
    exact hb.1
  · simp (disch := omega) only [up_n, up_e]
    exact hb.2.1.2
  · simp (disch := omega) only [up_n, up_e]
    refine ⟨hb.2.2.1, ⟨hb.2.2.2.1.1, hb.2.2.2.1.2.1, hb.2.2.2.1.2.2.1, by omega, hb.2.2.2.1.2.2.2.2⟩, hb.2.2.2.2.1, fun f hf => ?_, hb.2.2.2.2.2.2⟩
    have := hb.2.2.2.2.2.1 f hf
    exact ⟨this.1, this.2.1, by have := this.2.2; omega⟩
theorem WB_by (hb : WB w) {f0 v : Nat} (hf0 : f0 < w 8) (hv : v ≤ w 11) : WB (up w (21 + 5 * f0) v) := by
  obtain ⟨w0, w8, w9⟩ := wb_w hb
  have w12 : w 12 ≤ 6 := hb.2.2.2.1.2.2.2.2.1
  unfold WB at hb ⊢
  have hj : ∀ j, j < 4 → up w (21 + 5 * f0) v (2 + j) ≤ 4 := fun j hj => by
    simp (disch := omega) only [up_n]
    exact hb.2.1.1 j hj
  refine ⟨?_, ⟨hj, ?_⟩, ?_, ?_, ?_, ?_, ?_, ?_, ?_⟩
  · simp (disch := omega) only [up_n]
    exact hb.1
  · simp (disch := omega) only [up_n]
    exact hb.2.1.2
  · simp (disch := omega) only [up_n]
    exact hb.2.2.1
  · simp (disch := omega) only [up_n]
    exact hb.2.2.2.1
  · simp (disch := omega) only [up_n]
    exact hb.2.2.2.2.1
  · intro f hf
    have hf : f < w 8 := by
      simp (disch := omega) only [up_n] at hf
      exact hf
    have h := hb.2.2.2.2.2.1 f hf
    by_cases e : f = f0
    · subst e
      simp (disch := omega) only [up_n, up_e]
      exact ⟨h.1, h.2.1, hv⟩
    · simp (disch := omega) only [up_n]
      exact h
  · intro r hr
    have hr : r < w 9 := by
      simp (disch := omega) only [up_n] at hr
      exact hr
    simp (disch := omega) only [up_n]
    exact hb.2.2.2.2.2.2.1 r hr
  · intro b hb'
    simp (disch := omega) only [up_n] at hb' ⊢
    exact hb.2.2.2.2.2.2.2.1 b hb'
  · intro j hj
    simp (disch := omega) only [up_n] at hj ⊢
    exact hb.2.2.2.2.2.2.2.2 j hj
def fmW (w : Nat → Nat) (a b c e : Nat) : Nat → Nat := up (up (up (up (up (up w (17 + 5 * w 8) a) (18 + 5 * w 8) b) (19 + 5 * w 8) c) (20 + 5 * w 8) e) (21 + 5 * w 8) 0) 8 (w 8 + 1)
theorem WB_farm (hb : WB w) {a b c e : Nat} (h8 : w 8 < 3) (h : a ≤ 99 ∧ b ≤ 99 ∧ c ≤ 99 ∧ e ≤ 9) : WB (fmW w a b c e) := by
  obtain ⟨w0, w8, w9⟩ := wb_w hb
  have w12 : w 12 ≤ 6 := hb.2.2.2.1.2.2.2.2.1
  have w8' : fmW w a b c e 8 = w 8 + 1 := up_e _ _ _
  have e9 : fmW w a b c e 9 = w 9 := by unfold fmW; simp (disch := omega) only [up_n]
  have e11 : fmW w a b c e 11 = w 11 := by unfold fmW; simp (disch := omega) only [up_n]
  have e12 : fmW w a b c e 12 = w 12 := by unfold fmW; simp (disch := omega) only [up_n]
  have e13 : fmW w a b c e 13 = w 13 := by unfold fmW; simp (disch := omega) only [up_n]
  unfold WB at hb ⊢
  have hj : ∀ j, j < 4 → fmW w a b c e (2 + j) ≤ 4 := fun j hj => by
    unfold fmW
    simp (disch := omega) only [up_n]
    exact hb.2.1.1 j hj
  refine ⟨?_, ⟨hj, ?_⟩, ?_, ?_, ?_, ?_, ?_, ?_, ?_⟩
  · unfold fmW
    simp (disch := omega) only [up_n]
    exact hb.1
  · unfold fmW
    simp (disch := omega) only [up_n]
    exact hb.2.1.2
  · unfold fmW
    simp (disch := omega) only [up_n]
    exact hb.2.2.1
  · unfold fmW
    simp (disch := omega) only [up_n, up_e]
    exact ⟨h8, hb.2.2.2.1.2⟩
  · unfold fmW
    simp (disch := omega) only [up_n]
    exact hb.2.2.2.2.1
  · intro f hf
    rw [w8'] at hf
    rw [e11]
    unfold fmW
    by_cases e : f = w 8
    · subst e
      simp (disch := omega) only [up_n, up_e]
      exact ⟨⟨h.1, h.2.1, h.2.2.1⟩, h.2.2.2, by omega⟩
    · simp (disch := omega) only [up_n]
      exact hb.2.2.2.2.2.1 f (by omega)
  · intro r hr
    rw [e9] at hr
    unfold fmW
    simp (disch := omega) only [up_n]
    exact hb.2.2.2.2.2.2.1 r hr
  · intro b' hb'
    rw [e12] at hb'
    rw [w8']
    unfold fmW
    simp (disch := omega) only [up_n]
    have := hb.2.2.2.2.2.2.2.1 b' hb'
    exact ⟨this.1, by have := this.2.1; omega, this.2.2⟩
  · intro j hj
    rw [e13] at hj
    unfold fmW
    simp (disch := omega) only [up_n]
    exact hb.2.2.2.2.2.2.2.2 j hj
def ruW (w : Nat → Nat) (a b c e f : Nat) : Nat → Nat := up (up (up (up (up (up w (32 + 5 * w 9 + 0) a) (32 + 5 * w 9 + 1) b) (32 + 5 * w 9 + 2) c) (32 + 5 * w 9 + 3) e) (32 + 5 * w 9 + 4) f) 9 (w 9 + 1)
theorem WB_rule (hb : WB w) {a b c e f : Nat} (h9 : w 9 < 5) (h : a ≤ 9 ∧ b ≤ 7 ∧ c ≤ 3 ∧ e ≤ 99 ∧ f ≤ 4) : WB (ruW w a b c e f) := by
  obtain ⟨w0, w8, w9⟩ := wb_w hb
  have w12 : w 12 ≤ 6 := hb.2.2.2.1.2.2.2.2.1
  have w9' : ruW w a b c e f 9 = w 9 + 1 := up_e _ _ _
  have e8 : ruW w a b c e f 8 = w 8 := by unfold ruW; simp (disch := omega) only [up_n]
  have e11 : ruW w a b c e f 11 = w 11 := by unfold ruW; simp (disch := omega) only [up_n]
  have e12 : ruW w a b c e f 12 = w 12 := by unfold ruW; simp (disch := omega) only [up_n]
  have e13 : ruW w a b c e f 13 = w 13 := by unfold ruW; simp (disch := omega) only [up_n]
  unfold WB at hb ⊢
  have hj : ∀ j, j < 4 → ruW w a b c e f (2 + j) ≤ 4 := fun j hj => by
    unfold ruW
    simp (disch := omega) only [up_n]
    exact hb.2.1.1 j hj
  refine ⟨?_, ⟨hj, ?_⟩, ?_, ?_, ?_, ?_, ?_, ?_, ?_⟩
  · unfold ruW
    simp (disch := omega) only [up_n]
    exact hb.1
  · unfold ruW
    simp (disch := omega) only [up_n]
    exact hb.2.1.2
  · unfold ruW
    simp (disch := omega) only [up_n]
    exact hb.2.2.1
  · unfold ruW
    simp (disch := omega) only [up_n, up_e]
    exact ⟨hb.2.2.2.1.1, ⟨by omega, h9⟩, by have := hb.2.2.2.1.2.2.1; omega, hb.2.2.2.1.2.2.2⟩
  · unfold ruW
    simp (disch := omega) only [up_n]
    exact hb.2.2.2.2.1
  · intro f' hf
    rw [e8] at hf
    rw [e11]
    unfold ruW
    simp (disch := omega) only [up_n]
    exact hb.2.2.2.2.2.1 f' hf
  · intro r hr
    rw [w9'] at hr
    unfold ruW
    by_cases e : r = w 9
    · subst e
      simp (disch := omega) only [up_n, up_e]
      exact ⟨⟨h.1, h.2.1, h.2.2.1⟩, h.2.2.2.1, h.2.2.2.2⟩
    · simp (disch := omega) only [up_n]
      exact hb.2.2.2.2.2.2.1 r (by omega)
  · intro b' hb'
    rw [e12] at hb'
    rw [e8]
    unfold ruW
    simp (disch := omega) only [up_n]
    exact hb.2.2.2.2.2.2.2.1 b' hb'
  · intro j hj
    rw [e13] at hj
    unfold ruW
    simp (disch := omega) only [up_n]
    exact hb.2.2.2.2.2.2.2.2 j hj
def bkW (w : Nat → Nat) (a b c : Nat) : Nat → Nat := up (up (up (up w (57 + 3 * w 12) a) (58 + 3 * w 12) b) (59 + 3 * w 12) c) 12 (w 12 + 1)
theorem WB_broken (hb : WB w) {a b c : Nat} (h12 : w 12 < 6) (h : a ≤ 99 ∧ b < w 8 ∧ c ≤ 3) : WB (bkW w a b c) := by
  obtain ⟨w0, w8, w9⟩ := wb_w hb
  have w12' : bkW w a b c 12 = w 12 + 1 := up_e _ _ _
  have e8 : bkW w a b c 8 = w 8 := by unfold bkW; simp (disch := omega) only [up_n]
  have e9 : bkW w a b c 9 = w 9 := by unfold bkW; simp (disch := omega) only [up_n]
  have e11 : bkW w a b c 11 = w 11 := by unfold bkW; simp (disch := omega) only [up_n]
  have e13 : bkW w a b c 13 = w 13 := by unfold bkW; simp (disch := omega) only [up_n]
  unfold WB at hb ⊢
  have hj : ∀ j, j < 4 → bkW w a b c (2 + j) ≤ 4 := fun j hj => by
    unfold bkW
    simp (disch := omega) only [up_n]
    exact hb.2.1.1 j hj
  refine ⟨?_, ⟨hj, ?_⟩, ?_, ?_, ?_, ?_, ?_, ?_, ?_⟩
  · unfold bkW
    simp (disch := omega) only [up_n]
    exact hb.1
  · unfold bkW
    simp (disch := omega) only [up_n]
    exact hb.2.1.2
  · unfold bkW
    simp (disch := omega) only [up_n]
    exact hb.2.2.1
  · unfold bkW
    simp (disch := omega) only [up_n, up_e]
    exact ⟨hb.2.2.2.1.1, hb.2.2.2.1.2.1, hb.2.2.2.1.2.2.1, hb.2.2.2.1.2.2.2.1, h12, hb.2.2.2.1.2.2.2.2.2⟩
  · unfold bkW
    simp (disch := omega) only [up_n]
    exact hb.2.2.2.2.1
  · intro f' hf
    rw [e8] at hf
    rw [e11]
    unfold bkW
    simp (disch := omega) only [up_n]
    exact hb.2.2.2.2.2.1 f' hf
  · intro r hr
    rw [e9] at hr
    unfold bkW
    simp (disch := omega) only [up_n]
    exact hb.2.2.2.2.2.2.1 r hr
  · intro b' hb'
    rw [w12'] at hb'
    rw [e8]
    unfold bkW
    by_cases e : b' = w 12
    · subst e
      simp (disch := omega) only [up_n, up_e]
      exact h
    · simp (disch := omega) only [up_n]
      exact hb.2.2.2.2.2.2.2.1 b' (by omega)
  · intro j hj
    rw [e13] at hj
    unfold bkW
    simp (disch := omega) only [up_n]
    exact hb.2.2.2.2.2.2.2.2 j hj
def rwW (w : Nat → Nat) (n : Nat) (t : Nat → Nat) (i : Nat) : Nat := if i = 13 then n else if 75 ≤ i ∧ i < 75 + n then t (i - 75) else w i
theorem rwW_n {w : Nat → Nat} {n : Nat} {t : Nat → Nat} {i : Nat} (h : i ≠ 13) (h2 : i < 75) : rwW w n t i = w i := by
  unfold rwW
  rw [if_neg h, if_neg (by omega)]
theorem WB_row (hb : WB w) {n : Nat} {t : Nat → Nat} (hn : n ≤ 400) (ht : ∀ j, j < n → t j ≤ 3) : WB (rwW w n t) := by
  obtain ⟨w0, w8, w9⟩ := wb_w hb
  have w12 : w 12 ≤ 6 := hb.2.2.2.1.2.2.2.2.1
  have e8 : rwW w n t 8 = w 8 := rwW_n (by decide) (by decide)
  have e9 : rwW w n t 9 = w 9 := rwW_n (by decide) (by decide)
  have e11 : rwW w n t 11 = w 11 := rwW_n (by decide) (by decide)
  have e12 : rwW w n t 12 = w 12 := rwW_n (by decide) (by decide)
  have e13 : rwW w n t 13 = n := if_pos rfl
  unfold WB at hb ⊢
  have hj : ∀ j, j < 4 → rwW w n t (2 + j) ≤ 4 := fun j hj => by
    rw [rwW_n (by omega) (by omega)]
    exact hb.2.1.1 j hj
  refine ⟨?_, ⟨hj, ?_⟩, ?_, ?_, ?_, ?_, ?_, ?_, ?_⟩
  · simp (disch := omega) only [rwW_n]
    exact hb.1
  · simp (disch := omega) only [rwW_n]
    exact hb.2.1.2
  · simp (disch := omega) only [rwW_n]
    exact hb.2.2.1
  · rw [e13]
    simp (disch := omega) only [rwW_n]
    exact ⟨hb.2.2.2.1.1, hb.2.2.2.1.2.1, hb.2.2.2.1.2.2.1, hb.2.2.2.1.2.2.2.1, w12, hn⟩
  · simp (disch := omega) only [rwW_n]
    exact hb.2.2.2.2.1
  · intro f' hf
    rw [e8] at hf
    simp (disch := omega) only [rwW_n]
    exact hb.2.2.2.2.2.1 f' hf
  · intro r hr
    rw [e9] at hr
    simp (disch := omega) only [rwW_n]
    exact hb.2.2.2.2.2.2.1 r hr
  · intro b' hb'
    rw [e12] at hb'
    simp (disch := omega) only [rwW_n]
    exact hb.2.2.2.2.2.2.2.1 b' hb'
  · intro j hj
    rw [e13] at hj
    unfold rwW
    rw [if_neg (by omega), if_pos (by omega)]
    exact ht _ (by omega)
end WBU
