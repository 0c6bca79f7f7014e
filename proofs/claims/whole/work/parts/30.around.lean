/-! THE SURROUNDINGS: what a state must hold beside the heap's cells; and the memory's instructions. -/
def BIG : List Cond := lw_tbl.filter goodWord
theorem big_of {w : Cond} (h : w ∈ lw_tbl) (g : goodWord w = true) : w ∈ BIG := List.mem_filter.mpr ⟨h, g⟩
theorem tbl_of {w : Cond} (h : w ∈ tables_1) : w ∈ lw_tbl := List.mem_append_right _ h
theorem big_good {w : Cond} (h : w ∈ BIG) : goodWord w = true := (List.mem_filter.mp h).2
theorem clA : ∀ c, c < 13 → vwCl[c]? = some (on c, txc c, nfL.getD c 0) := by
  intro c h
  rcases (show c = 0 ∨ c = 1 ∨ c = 2 ∨ c = 3 ∨ c = 4 ∨ c = 5 ∨ c = 6 ∨ c = 7 ∨ c = 8 ∨ c = 9 ∨ c = 10 ∨ c = 11 ∨ c = 12 by omega) with h | h | h | h | h | h | h | h | h | h | h | h | h <;> subst h <;> rfl
theorem clW0 : ∀ w ∈ u_ws RX0 TX0 12, w ∈ lw_tbl := by decide +kernel
theorem clW1 : ∀ w ∈ u_ws RX1 TX1 8, w ∈ lw_tbl := by decide +kernel
theorem clW2 : ∀ w ∈ u_ws RX2 TX2 3, w ∈ lw_tbl := by decide +kernel
theorem clW3 : ∀ w ∈ u_ws RX3 TX3 11, w ∈ lw_tbl := by decide +kernel
theorem clW4 : ∀ w ∈ u_ws RX4 TX4 6, w ∈ lw_tbl := by decide +kernel
theorem clW5 : ∀ w ∈ u_ws RX5 TX5 3, w ∈ lw_tbl := by decide +kernel
theorem clW6 : ∀ w ∈ u_ws RX6 TX6 2, w ∈ lw_tbl := by decide +kernel
theorem clW8 : ∀ w ∈ u_ws RX8 TX8 19, w ∈ lw_tbl := by decide +kernel
theorem clW9 : ∀ w ∈ u_ws RX9 TX9 11, w ∈ lw_tbl := by decide +kernel
theorem clW10 : ∀ w ∈ u_ws RX10 TX10 15, w ∈ lw_tbl := by decide +kernel
theorem clW11 : ∀ w ∈ u_ws RX11 TX11 12, w ∈ lw_tbl := by decide +kernel
theorem clW12 : ∀ w ∈ u_ws RX12 TX12 41, w ∈ lw_tbl := by decide +kernel
theorem u_ws_good {C : String} {T : u_T} {N : Nat} : ∀ w ∈ u_ws C T N, goodWord w = true := by
  intro w h
  obtain ⟨k, -, rfl⟩ := List.mem_map.mp h
  unfold u_lay
  split <;> rfl
theorem clW : ∀ c, c < 13 → ∀ w ∈ u_ws (on c) (txc c) (nfL.getD c 0), w ∈ BIG := by
  intro c h w hw
  refine big_of ?_ (u_ws_good w hw)
  rcases (show c = 0 ∨ c = 1 ∨ c = 2 ∨ c = 3 ∨ c = 4 ∨ c = 5 ∨ c = 6 ∨ c = 7 ∨ c = 8 ∨ c = 9 ∨ c = 10 ∨ c = 11 ∨ c = 12 by omega) with h | h | h | h | h | h | h | h | h | h | h | h | h <;> subst h
  · exact clW0 w hw
  · exact clW1 w hw
  · exact clW2 w hw
  · exact clW3 w hw
  · exact clW4 w hw
  · exact clW5 w hw
  · exact clW6 w hw
  · cases hw
  · exact clW8 w hw
  · exact clW9 w hw
  · exact clW10 w hw
  · exact clW11 w hw
  · exact clW12 w hw
theorem clT : ∀ c, c < 13 → ∀ k, k < nfL.getD c 0 → parseFieldDescriptor (txc c k).2.2.1 = some (tyc c k) := by
  intro c h
  rcases (show c = 0 ∨ c = 1 ∨ c = 2 ∨ c = 3 ∨ c = 4 ∨ c = 5 ∨ c = 6 ∨ c = 7 ∨ c = 8 ∨ c = 9 ∨ c = 10 ∨ c = 11 ∨ c = 12 by omega) with h | h | h | h | h | h | h | h | h | h | h | h | h <;> subst h
  · exact tyX0_ok
  · exact tyX1_ok
  · exact tyX2_ok
  · exact tyX3_ok
  · exact tyX4_ok
  · exact tyX5_ok
  · exact tyX6_ok
  · intro k hk; exact absurd hk (Nat.not_lt_zero k)
  · exact tyX8_ok
  · exact tyX9_ok
  · exact tyX10_ok
  · exact tyX11_ok
  · exact tyX12_ok
theorem clN : ∀ c, c < 13 → ∀ a, a < nfL.getD c 0 → ∀ b, b < nfL.getD c 0 → a ≠ b → (txc c a).2.1 ≠ (txc c b).2.1 := by
  intro c h
  rcases (show c = 0 ∨ c = 1 ∨ c = 2 ∨ c = 3 ∨ c = 4 ∨ c = 5 ∨ c = 6 ∨ c = 7 ∨ c = 8 ∨ c = 9 ∨ c = 10 ∨ c = 11 ∨ c = 12 by omega) with h | h | h | h | h | h | h | h | h | h | h | h | h <;> subst h
  · exact nmX0
  · exact nmX1
  · exact nmX2
  · exact nmX3
  · exact nmX4
  · exact nmX5
  · exact nmX6
  · intro a ha; exact absurd ha (Nat.not_lt_zero a)
  · exact nmX8
  · exact nmX9
  · exact nmX10
  · exact nmX11
  · exact nmX12
theorem clF0 : ∀ c, c < 13 → ∀ k, k < nfL.getD c 0 → fk c k = 0 → tyc c k = .int ∧ (txc c k).2.2.2 = false := by decide +kernel
theorem clF1 : ∀ c, c < 13 → ∀ k, k < nfL.getD c 0 → fk c k = 1 → tyc c k = .long ∧ (txc c k).2.2.2 = false := by decide +kernel
theorem clF5 : ∀ c, c < 13 → ∀ k, k < nfL.getD c 0 → fk c k = 5 → tyc c k = .boolean ∧ (txc c k).2.2.2 = false := by decide +kernel
theorem clF4 : ∀ c, c < 13 → ∀ k, k < nfL.getD c 0 → fk c k = 4 → tyc c k = .object "WellPumps$Thing" ∧ (txc c k).2.2.2 = false := by decide +kernel
def AB (base : Nat) : Nat → Prop := fun q => base ≤ q
def msL : List String := ["draw", "if", "not", "broken", "level", "top", "farm", "and", "or"]
/-- the texts of the exceptions -/
def thT : List (Nat × String) := [(146, "the text is wrong"), (334, "a run tells no such thing"), (348, "there is no such one"), (351, "the number is none"), (355, "there are no more")]
/-- the enum, its texts, the statics that hold for good -/
def STK (ad : Nat → Nat) (base : Nat) (U : State) : Prop :=
  va_En "WellPumps$Thing" "LWellPumps$Thing;" enL [] (fun i => ad (70100 + i)) (AB base) U U.heap ∧
  va_Ef 18 "WellPumps$Thing" "spelling" "Ljava/lang/String;" (fun i => .ref (ad (70200 + i))) (fun i => ad (70100 + i)) (AB base) U U.heap ∧
  (va_Z "WellPumps$Thing" "ALL" "[LWellPumps$Thing;" (.ref (ad 70003)) (AB base) U U.heap ∧ va_T (.object "WellPumps$Thing") (ad 70003) 18 (fun j => .ref (ad (70100 + j))) (AB base) U U.heap) ∧
  (va_Z "WellPumps" "WEIGHTS" "[I" (.ref (ad 70002)) (AB base) U U.heap ∧ va_T .int (ad 70002) 18 (fun j => .int (nI (weiL.getD j 0))) (AB base) U U.heap) ∧
  (∀ i, i < 27 → va_O "java/lang/String" (ad (70200 + i)) (AB base) U U.heap ∧ va_OF "java/lang/String" "coder" "B" (.int 0) (ad (70200 + i)) (AB base) U U.heap ∧ va_OF "java/lang/String" "value" "[B" (.ref (ad (70300 + i))) (ad (70200 + i)) (AB base) U U.heap ∧ va_T .byte (ad (70300 + i)) (strL.getD i []).length (fun j => .int (nI ((strL.getD i []).getD j 0))) (AB base) U U.heap) ∧
  va_Z "java/lang/String" "COMPACT_STRINGS" "Z" (.int 1) (AB base) U U.heap ∧
  va_Zq "jdk/internal/util/Preconditions" "SIOOBE_FORMATTER" "Ljava/util/function/BiFunction;" (AB base) U U.heap ∧
  vx_Zq Bundle.tN "UNASSIGNED_STACK" Bundle.steD (AB base) U U.heap ∧ vx_Zq Bundle.tN "SUPPRESSED_SENTINEL" Bundle.listD (AB base) U U.heap
def isBad (w : Cond) : Bool := match w with
  | .castable _ _ => true
  | .declares _ => true
  | _ => false
def badL : List Cond := tables_1.filter isBad
theorem badL_to {s U : State} (hW : s.WarmedH U.vm) (h : ∀ w ∈ badL, va_Nw w s) : ∀ w ∈ badL, va_Nw w U := by
  intro w hw
  have h1 := h w hw
  have h2 := (List.mem_filter.mp hw).2
  unfold isBad at h2
  split at h2
  · exact va_Nw.warmC hW h1
  · exact va_Nw.warmD hW h1
  · cases h2
def exN4 : List String := ["java/lang/IllegalArgumentException", "java/lang/IndexOutOfBoundsException", "java/lang/UnsupportedOperationException", "java/util/NoSuchElementException"]
/-- none of the four is another -/
def NCK (U : State) : Prop := ∀ i, i < 4 → ∀ j, j < 4 → i ≠ j → va_Nc (exN4.getD i "") (exN4.getD j "") U
/-- what the tables say beside the good words -/
def WRK (ad : Nat → Nat) (U : State) : Prop :=
  (∀ e ∈ lsS, vk_R (on e.1) e.2.1 (msL.getD (e.2.2.1 - 70218) "") (ad e.2.2.1) U) ∧
  (∀ e ∈ thT, ∃ sa, vk_R RX11 e.1 e.2 sa U) ∧
  va_Nw (.methodLinkNest RX2 86 yX11_isMore RX11) U ∧ (∀ w ∈ badL, va_Nw w U) ∧ NCK U
def KOK (D : va_G) (cs : cid) (ad : Nat → Nat) (L : Nat) (xs : Nat → Int32) (base : Nat) (U : State) : Prop :=
  va_K D vwCl (tysO cs) U ∧ STK ad base U ∧ WRK ad U ∧ (va_X (ad 70001) L xs U U.heap ∧ ad 70001 < base ∧ base ≤ U.heap.size)
theorem STK.to {ad : Nat → Nat} {base : Nat} {s U : State} (h : STK ad base s) (hW : s.WarmedH U.vm) (hk : ∀ a : Nat, a < s.heap.size → ¬ AB base a → U.heap[a]? = s.heap[a]?) : STK ad base U := by
  obtain ⟨h1, h2, ⟨h3, h4⟩, ⟨h5, h6⟩, h7, h8, h9, h10, h11⟩ := h
  have hv := hW.alike
  refine ⟨va_En.moved hv (h1.kept hk), va_Ef.moved hv (h2.kept hk), ⟨va_Z.moved hv (h3.kept hk), va_T.moved hv (h4.kept hk)⟩, ⟨va_Z.moved hv (h5.kept hk), va_T.moved hv (h6.kept hk)⟩, fun i hi => ?_, va_Z.moved hv (h8.kept hk), va_Zq.moved hv (h9.kept hk), vx_Zq.moved hv (h10.kept hk), vx_Zq.moved hv (h11.kept hk)⟩
  obtain ⟨q1, q2, q3, q4⟩ := h7 i hi
  exact ⟨va_O.moved hv (q1.kept hk), va_OF.moved hv (q2.kept hk), va_OF.moved hv (q3.kept hk), va_T.moved hv (q4.kept hk)⟩
theorem WRK.to {ad : Nat → Nat} {s U : State} (h : WRK ad s) (hW : s.WarmedH U.vm) : WRK ad U :=
  ⟨fun e he => (h.1 e he).warm hW, fun e he => (h.2.1 e he).imp fun _ q => q.warm hW, va_Nw.warmM hW h.2.2.1, badL_to hW h.2.2.2.1, fun i hi j hj hij => va_Nc.moved hW.alike (h.2.2.2.2 i hi j hj hij)⟩
theorem KOK.to {D : va_G} {cs : cid} {ad : Nat → Nat} {L : Nat} {xs : Nat → Int32} {base : Nat} {s U : State} {locs : List Loc} (h : KOK D cs ad L xs base s) (hW : s.WarmedH U.vm) (hS : va_S (AB base) s.heap U.heap locs) : KOK D cs ad L xs base U := by
  obtain ⟨h1, h2, h3, h4, h5, h6⟩ := h
  exact ⟨va_K.moved hW.alike h1, h2.to hW hS.2.1, h3.to hW, va_X.moved hW.alike (h4.kept (hS.2.1 _ (Nat.lt_of_lt_of_le h5 h6) (Nat.not_le.mpr h5))), h5, Nat.le_trans h6 hS.1⟩
theorem KOK.blind {D : va_G} {cs : cid} {ad : Nat → Nat} {L : Nat} {xs : Nat → Int32} {base : Nat} {U : State} {g : JFrame} {mk : MethodId} {a : Array Value} (h : KOK D cs ad L xs base U) : KOK D cs ad L xs base (U.calling g mk a) :=
  KOK.to (s := U) (U := U.calling g mk a) (locs := []) h (State.WarmedH.refl U) va_S.rf
