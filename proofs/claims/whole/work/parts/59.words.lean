/-! The start: what the Statement's words give. -/
def flA : Cond → List Cond → List Cond
  | .and a b, acc => flA a (flA b acc)
  | c, acc => c :: acc
theorem flA_ok {args : Array Value} {s : State} : ∀ (c : Cond) (acc : List Cond), c.before args s = true → (∀ w ∈ acc, w.before args s = true) → ∀ w ∈ flA c acc, w.before args s = true := by
  intro c
  induction c with
  | and a b iha ihb =>
    intro acc h hacc
    rw [Cond.before_and, Bool.and_eq_true] at h
    exact iha _ h.1 (ihb _ h.2 hacc)
  | _ => intro acc h hacc; exact List.forall_mem_cons.mpr ⟨h, hacc⟩
def NWL : List Cond := flA (Jvm.Cond.and given_1 narrow_1) []
theorem nw_of {args : Array Value} {s : State} (h : (Jvm.Cond.and given_1 narrow_1).before args s = true) : ∀ w ∈ NWL, w.before args s = true := flA_ok _ [] h (fun w hw => by cases hw)
theorem mem_ix {w : Cond} {i : Nat} (h : NWL[i]? = some w) : w ∈ NWL := List.mem_of_getElem? h
def txT : List (String × Nat) := [("WellPumps$Thing", 109), ("WellPumps$Thing", 109), ("WellPumps$Thing", 109), ("WellPumps$Thing", 117), ("WellPumps$Thing", 120), ("WellPumps$Thing", 123), ("WellPumps$Thing", 126), ("WellPumps$Thing", 129), ("WellPumps$Thing", 132), ("WellPumps$Thing", 135), ("WellPumps$Thing", 138), ("WellPumps$Thing", 141), ("WellPumps$Thing", 144), ("WellPumps$Thing", 147), ("WellPumps$Thing", 150), ("WellPumps$Thing", 153), ("WellPumps$Thing", 156), ("WellPumps$Thing", 159), ("WellPumpsModel", 199), ("WellPumpsModel", 205), ("WellPumpsModel", 179), ("WellPumpsModel", 187), ("WellPumpsModel", 152), ("WellPumpsModel", 154), ("WellPumpsModel", 156), ("WellPumpsModel", 192), ("WellPumpsModel", 197)]
def txTm (i : Nat) : Term := .string (txT.getD i ("", 0)).1 (txT.getD i ("", 0)).2
def enTm (i : Nat) : Term := .static "WellPumps$Thing" (enL.getD i "") "LWellPumps$Thing;"
def alTm : Term := .static "WellPumps$Thing" "ALL" "[LWellPumps$Thing;"
def weTm : Term := .static "WellPumps" "WEIGHTS" "[I"
def xI : List Nat := [511, 511, 511, 515, 524, 610, 602, 531, 544, 563, 555, 573, 539, 597, 582, 587, 592, 617, 443, 451, 457, 464, 474, 483, 490, 498, 505]
theorem nw_x0 : ∀ i, i < 27 → NWL[xI.getD i 0]? = some (.exactly (txTm i) "java/lang/String") := by decide +kernel
theorem nw_x (i : Nat) (h : i < 27) : .exactly (txTm i) "java/lang/String" ∈ NWL := mem_ix (nw_x0 i h)
def cI2 : List Nat := [512, 512, 512, 516, 525, 611, 603, 532, 545, 564, 556, 574, 540, 598, 583, 588, 593, 618, 444, 452, 458, 465, 475, 484, 491, 499, 506]
theorem nw_c0 : ∀ i, i < 27 → NWL[cI2.getD i 0]? = some (.eq (.field (txTm i) "java/lang/String" "coder" "B") (.int 0)) := by decide +kernel
theorem nw_c (i : Nat) (h : i < 27) : .eq (.field (txTm i) "java/lang/String" "coder" "B") (.int 0) ∈ NWL := mem_ix (nw_c0 i h)
def aI2 : List Nat := [513, 513, 513, 517, 526, 612, 604, 533, 546, 565, 557, 575, 541, 599, 584, 589, 594, 619, 445, 453, 459, 466, 476, 485, 492, 500, 507]
theorem nw_a0 : ∀ i, i < 27 → NWL[aI2.getD i 0]? = some (.arrayOf (.field (txTm i) "java/lang/String" "value" "[B") .byte) := by decide +kernel
theorem nw_a (i : Nat) (h : i < 27) : .arrayOf (.field (txTm i) "java/lang/String" "value" "[B") .byte ∈ NWL := mem_ix (nw_a0 i h)
def lI2 : List Nat := [514, 514, 514, 518, 527, 613, 605, 534, 547, 566, 558, 576, 542, 600, 585, 590, 595, 620, 446, 454, 460, 467, 477, 486, 493, 501, 508]
theorem nw_l0 : ∀ i, i < 27 → NWL[lI2.getD i 0]? = some (.eq (.length (.field (txTm i) "java/lang/String" "value" "[B")) (.int (Int32.ofNat (strL.getD i []).length))) := by decide +kernel
theorem nw_l (i : Nat) (h : i < 27) : .eq (.length (.field (txTm i) "java/lang/String" "value" "[B")) (.int (Int32.ofNat (strL.getD i []).length)) ∈ NWL := mem_ix (nw_l0 i h)
def eI2 : List (List Nat) := [[], [], [], [519, 520, 521, 522], [528, 529], [614, 615], [606, 607, 608], [535, 536, 537], [548, 549, 550, 551, 552, 553], [567, 568, 569, 570, 571], [559, 560, 561], [577, 578, 579, 580], [543], [601], [586], [591], [596], [621], [447, 448, 449, 450], [455, 456], [461, 462, 463], [468, 469, 470, 471, 472, 473], [478, 479, 480, 481, 482], [487, 488, 489], [494, 495, 496, 497], [502, 503, 504], [509, 510]]
theorem nw_e0 : ∀ i, i < 27 → ∀ j, j < (strL.getD i []).length → NWL[(eI2.getD i []).getD j 0]? = some (.eq (.elem (.field (txTm i) "java/lang/String" "value" "[B") (.int (Int32.ofNat j))) (.int (nI ((strL.getD i []).getD j 0)))) := by decide +kernel
theorem nw_e (i : Nat) (h : i < 27) (j : Nat) (hj : j < (strL.getD i []).length) : .eq (.elem (.field (txTm i) "java/lang/String" "value" "[B") (.int (Int32.ofNat j))) (.int (nI ((strL.getD i []).getD j 0))) ∈ NWL := mem_ix (nw_e0 i h j hj)
theorem nw_tl : ∀ i, i < 27 → (strL.getD i []).length < 2 ^ 31 := by decide +kernel
def sI2 : List Nat := [4, 30, 34, 67, 73, 223, 205, 80, 97, 118, 107, 130, 88, 188, 143, 157, 172, 242]
theorem nw_sx0 : ∀ i, i < 18 → NWL[sI2.getD i 0]? = some (.exactly (enTm i) "WellPumps$Thing") := by decide +kernel
theorem nw_sx (i : Nat) (h : i < 18) : .exactly (enTm i) "WellPumps$Thing" ∈ NWL := mem_ix (nw_sx0 i h)
theorem nw_sl : ∀ i, i < 18 → .laysStatic "WellPumps$Thing" (enL.getD i "") "LWellPumps$Thing;" ∈ lw_tbl := by decide +kernel
def pI2 : List Nat := [6, 32, 36, 69, 75, 225, 207, 82, 99, 120, 109, 132, 90, 190, 145, 159, 174, 244]
theorem nw_sp0 : ∀ i, i < 18 → NWL[pI2.getD i 0]? = some (.eq (.field (enTm i) "WellPumps$Thing" "spelling" "Ljava/lang/String;") (txTm i)) := by decide +kernel
theorem nw_sp (i : Nat) (h : i < 18) : .eq (.field (enTm i) "WellPumps$Thing" "spelling" "Ljava/lang/String;") (txTm i) ∈ NWL := mem_ix (nw_sp0 i h)
def dI0 : List (Nat × Nat × Nat) := [(0, 1, 33), (0, 2, 37), (0, 3, 70), (0, 4, 76), (0, 5, 226), (0, 6, 208), (0, 7, 83), (0, 8, 100), (0, 9, 121), (0, 10, 110), (0, 11, 133), (0, 12, 91), (0, 13, 191), (0, 14, 146), (0, 15, 160), (0, 16, 175), (0, 17, 245), (1, 2, 38), (1, 3, 71), (1, 4, 77), (1, 5, 227), (1, 6, 209), (1, 7, 84), (1, 8, 101), (1, 9, 122), (1, 10, 111), (1, 11, 134), (1, 12, 92), (1, 13, 192), (1, 14, 147), (1, 15, 161), (1, 16, 176), (1, 17, 246), (2, 3, 72), (2, 4, 78), (2, 5, 228), (2, 6, 210), (2, 7, 85), (2, 8, 102), (2, 9, 123), (2, 10, 112), (2, 11, 135), (2, 12, 93), (2, 13, 193), (2, 14, 148), (2, 15, 162), (2, 16, 177), (2, 17, 247), (3, 4, 79), (3, 5, 229), (3, 6, 211)]
def dI1 : List (Nat × Nat × Nat) := [(3, 7, 86), (3, 8, 103), (3, 9, 124), (3, 10, 113), (3, 11, 136), (3, 12, 94), (3, 13, 194), (3, 14, 149), (3, 15, 163), (3, 16, 178), (3, 17, 248), (4, 5, 230), (4, 6, 212), (4, 7, 87), (4, 8, 104), (4, 9, 125), (4, 10, 114), (4, 11, 137), (4, 12, 95), (4, 13, 195), (4, 14, 150), (4, 15, 164), (4, 16, 179), (4, 17, 249), (5, 17, 261), (6, 5, 241), (6, 17, 260), (7, 5, 231), (7, 6, 213), (7, 8, 105), (7, 9, 126), (7, 10, 115), (7, 11, 138), (7, 12, 96), (7, 13, 196), (7, 14, 151), (7, 15, 165), (7, 16, 180), (7, 17, 250), (8, 5, 233), (8, 6, 215), (8, 9, 128), (8, 10, 117), (8, 11, 140), (8, 13, 198), (8, 14, 153), (8, 15, 167), (8, 16, 182), (8, 17, 252), (9, 5, 235), (9, 6, 217)]
def dI2 : List (Nat × Nat × Nat) := [(9, 11, 142), (9, 13, 200), (9, 14, 155), (9, 15, 169), (9, 16, 184), (9, 17, 254), (10, 5, 234), (10, 6, 216), (10, 9, 129), (10, 11, 141), (10, 13, 199), (10, 14, 154), (10, 15, 168), (10, 16, 183), (10, 17, 253), (11, 5, 236), (11, 6, 218), (11, 13, 201), (11, 14, 156), (11, 15, 170), (11, 16, 185), (11, 17, 255), (12, 5, 232), (12, 6, 214), (12, 8, 106), (12, 9, 127), (12, 10, 116), (12, 11, 139), (12, 13, 197), (12, 14, 152), (12, 15, 166), (12, 16, 181), (12, 17, 251), (13, 5, 240), (13, 6, 222), (13, 17, 259), (14, 5, 237), (14, 6, 219), (14, 13, 202), (14, 15, 171), (14, 16, 186), (14, 17, 256), (15, 5, 238), (15, 6, 220), (15, 13, 203), (15, 16, 187), (15, 17, 257), (16, 5, 239), (16, 6, 221), (16, 13, 204), (16, 17, 258)]
theorem nw_sd0 : ∀ e ∈ dI0, NWL[e.2.2]? = some (.not (.eq (enTm e.1) (enTm e.2.1))) := by decide +kernel
theorem nw_sd1 : ∀ e ∈ dI1, NWL[e.2.2]? = some (.not (.eq (enTm e.1) (enTm e.2.1))) := by decide +kernel
theorem nw_sd2 : ∀ e ∈ dI2, NWL[e.2.2]? = some (.not (.eq (enTm e.1) (enTm e.2.1))) := by decide +kernel
theorem nw_sdc : ∀ i, i < 18 → ∀ j, j < 18 → i ≠ j → (dI0 ++ (dI1 ++ dI2)).any (fun e => (Nat.beq e.1 i && Nat.beq e.2.1 j) || (Nat.beq e.1 j && Nat.beq e.2.1 i)) = true := by decide +kernel
theorem nw_sd (i : Nat) (hi : i < 18) (j : Nat) (hj : j < 18) (hij : i ≠ j) : .not (.eq (enTm i) (enTm j)) ∈ NWL ∨ .not (.eq (enTm j) (enTm i)) ∈ NWL := by
  obtain ⟨e, he, h⟩ := List.any_eq_true.mp (nw_sdc i hi j hj hij)
  have hm : .not (.eq (enTm e.1) (enTm e.2.1)) ∈ NWL := by
    rcases List.mem_append.mp he with q | q
    · exact mem_ix (nw_sd0 e q)
    · rcases List.mem_append.mp q with q | q
      · exact mem_ix (nw_sd1 e q)
      · exact mem_ix (nw_sd2 e q)
  rw [Bool.or_eq_true] at h
  rcases h with h | h
  · have h2 := and2 h
    rw [beqN h2.1, beqN h2.2] at hm
    exact Or.inl hm
  · have h2 := and2 h
    rw [beqN h2.1, beqN h2.2] at hm
    exact Or.inr hm
def alI2 : List Nat := [44, 45, 46, 47, 48, 49, 50, 51, 52, 53, 54, 55, 56, 57, 58, 59, 60, 61]
theorem nw_al0 : ∀ i, i < 18 → NWL[alI2.getD i 0]? = some (.eq (.elem alTm (.int (Int32.ofNat i))) (enTm i)) := by decide +kernel
theorem nw_al (i : Nat) (h : i < 18) : .eq (.elem alTm (.int (Int32.ofNat i))) (enTm i) ∈ NWL := mem_ix (nw_al0 i h)
def weI2 : List Nat := [10, 11, 12, 13, 14, 15, 16, 17, 18, 19, 20, 21, 22, 23, 24, 25, 26, 27]
theorem nw_we0 : ∀ i, i < 18 → NWL[weI2.getD i 0]? = some (.eq (.elem weTm (.int (Int32.ofNat i))) (.int (nI (weiL.getD i 0)))) := by decide +kernel
theorem nw_we (i : Nat) (h : i < 18) : .eq (.elem weTm (.int (Int32.ofNat i))) (.int (nI (weiL.getD i 0))) ∈ NWL := mem_ix (nw_we0 i h)
theorem nw_1 : (.arrayOf alTm (.object "WellPumps$Thing") ∈ NWL ∧ .eq (.length alTm) (.int 18) ∈ NWL) ∧ (.arrayOf weTm .int ∈ NWL ∧ .eq (.length weTm) (.int 18) ∈ NWL) ∧ .eq (.static "java/lang/String" "COMPACT_STRINGS" "Z") (.int 1) ∈ NWL ∧ .isRef (.static "jdk/internal/util/Preconditions" "SIOOBE_FORMATTER" "Ljava/util/function/BiFunction;") ∈ NWL ∧ .isRef (.static "java/lang/Throwable" "UNASSIGNED_STACK" "[Ljava/lang/StackTraceElement;") ∈ NWL ∧ .isRef (.static "java/lang/Throwable" "SUPPRESSED_SENTINEL" "Ljava/util/List;") ∈ NWL := by decide +kernel
theorem nw_2 : (.laysStatic "WellPumps$Thing" "ALL" "[LWellPumps$Thing;" ∈ lw_tbl ∧ .laysStatic "WellPumps" "WEIGHTS" "[I" ∈ lw_tbl) ∧ .laysStatic "java/lang/String" "COMPACT_STRINGS" "Z" ∈ lw_tbl ∧ .laysStatic "jdk/internal/util/Preconditions" "SIOOBE_FORMATTER" "Ljava/util/function/BiFunction;" ∈ lw_tbl ∧ .laysStatic "java/lang/Throwable" "UNASSIGNED_STACK" "[Ljava/lang/StackTraceElement;" ∈ lw_tbl ∧ .laysStatic "java/lang/Throwable" "SUPPRESSED_SENTINEL" "Ljava/util/List;" ∈ lw_tbl := by decide +kernel
theorem nw_3 : (.initialized "WellPumps$Thing" ∈ lw_tbl ∧ .initialized "WellPumps" ∈ lw_tbl) ∧ .initialized "java/lang/String" ∈ lw_tbl ∧ .initialized "jdk/internal/util/Preconditions" ∈ lw_tbl ∧ .initialized "java/lang/Throwable" ∈ lw_tbl := by decide +kernel
theorem nw_nc : ∀ i, i < 4 → ∀ j, j < 4 → i ≠ j → .not (.castable (exN4.getD i "") (exN4.getD j "")) ∈ NWL := by decide +kernel
theorem nw_s : ∀ e ∈ lsS, (70200 ≤ e.2.2.1 ∧ e.2.2.1 < 70227) ∧ txT.getD (e.2.2.1 - 70200) ("", 0) = (on e.1, e.2.1) ∧ .stringRef (on e.1) e.2.1 (msL.getD (e.2.2.1 - 70218) "") ∈ lw_tbl := by decide +kernel
theorem nw_t : ∀ e ∈ thT, .stringRef RX11 e.1 e.2 ∈ lw_tbl ∧ .exactly (.string RX11 e.1) "java/lang/String" ∈ NWL := by decide +kernel
theorem nw_b : ∀ w ∈ badL, w.onTables = true := by decide +kernel
theorem nw_i : ∀ c, c < 13 → .instantiable (on c) (if c = 7 then 4 else nfL.getD c 0) ∈ lw_tbl := by decide +kernel
theorem nw_n : (.methodLinkNest RX11 9 yX6_init RX11 ∈ lw_tbl ∧ .methodLinkNest RX11 37 yX10_init RX11 ∈ lw_tbl) ∧ .arrayOver (.object "WellPumps$Thing") ∈ lw_tbl := by decide +kernel
theorem k_start {args : Array Value} {s : State} (hts : ∀ w ∈ lw_tbl, w.before args s = true) : ∃ (D : va_G) (cs : cid), va_K D vwCl (tysO cs) s := by
  have h0 : ∀ c : Nat, ∃ q : ClassId × (Nat → Nat), c < 13 → u_Kn s (on c) (txc c) (nfL.getD c 0) q.1 q.2 := by
    intro c
    by_cases hc : c < 13
    · obtain ⟨cC, iS, h⟩ := u_known (C := on c) (T := txc c) (N := nfL.getD c 0) (ws := BIG) (fun w hw => hts w (List.mem_filter.mp hw).1) (clW c hc) (hts _ (nw_i c hc))
      exact ⟨(cC, iS), fun _ => h⟩
    · exact ⟨((0 : Nat), fun _ => 0), fun h => absurd h hc⟩
  obtain ⟨f, hf⟩ := Classical.axiomOfChoice h0
  obtain ⟨c1, k1, m1, a1, a2, a3⟩ := Cond.arrayClass_spec (hts _ (ac_ok .int (by decide)).1)
  obtain ⟨c2, k2, m2, b1, b2, b3⟩ := Cond.arrayClass_spec (hts _ (ac_ok .long (by decide)).1)
  obtain ⟨c3, k3, m3, d1, d2, d3⟩ := Cond.arrayClass_spec (hts _ (ac_ok .byte (by decide)).1)
  obtain ⟨comp, c4, k4, f1, -, f2, f3, f4⟩ := Cond.arrayOver_spec (hts _ nw_n.2)
  refine ⟨(fun c => (f c).1, fun c => (f c).2), (c1, c2, c3, c4), fun c q hq => ?_, fun k q hk => ?_⟩
  · have hc : c < 13 := (List.getElem?_eq_some_iff.mp hq).1
    rw [clA c hc] at hq
    cases hq
    exact hf c hc
  · match k, hk with
    | 0, hk => cases hk; exact ⟨fun _ _ => ⟨fun _ h => (by cases h), k1, a2, m1, a3⟩, a1⟩
    | 1, hk => cases hk; exact ⟨fun _ _ => ⟨fun _ h => (by cases h), k2, b2, m2, b3⟩, b1⟩
    | 2, hk => cases hk; exact ⟨fun _ _ => ⟨fun _ h => (by cases h), k3, d2, m3, d3⟩, d1⟩
    | 3, hk => cases hk; exact ⟨fun _ _ => ⟨fun _ h => (by cases h), k4, f2, comp, f3⟩, k4, comp, f2, f3, f1, f4⟩
    | k + 4, hk => simp [tysO] at hk
