/-! String's members on the texts. -/
def PcA (D : va_G) (cs : cid) (ad : Nat → Nat) (L : Nat) (xs : Nat → Int32) (base : Nat) (vs : List Value) (M : Mm) : Array Value → State → Prop := fun v U => v = vs.toArray ∧ HOK D cs ad L xs M U.heap ∧ KOK D cs ad L xs base U
def QcA (D : va_G) (cs : cid) (ad : Nat → Nat) (L : Nat) (xs : Nat → Int32) (base : Nat) (o : Option Value) (M : Mm) : Array Value → State → Outcome → State → Prop := fun _ st o2 t => (o2 = .returned o ∧ HOK D cs ad L xs M t.heap) ∧ va_F (AB base) st t
def rmJ (j : Nat) : Room := { frames := j, cells := 0, slots := 0, locals := 40 * j }
def JX (p : Program) (R : Room) (s : State) (m : MethodId) (args : Array Value) (c : Code) (own : String) (cc : ByteArray) (n : Nat) (D : va_G) (cs : cid) (ad : Nat → Nat) (L : Nat) (xs : Nat → Int32) (base j : Nat) : Prop :=
  p.tables.exec = Jvm.exec ∧ c.code = cc ∧ c.maxLocals = n ∧ (∀ w ∈ BIG, w.before args s = true) ∧ s.vm.findClass own = some m.cls ∧ KOK D cs ad L xs base s ∧ j ≤ R.frames ∧ 40 * j ≤ R.locals
theorem jentry (vs : List Value) (n : Nat) (m : MethodId) (h : (lg_sl vs).length ≤ n) : ∃ ls, entryFrame m vs.toArray n = F0 m 0 ls [] ∧ lv_has ls n (lv_args 0 vs) := ⟨_, lg_entry_eq m vs n, lv_entry vs h⟩
/-- the words of one of them -/
def MJ (y : MethodName) (bytes : ByteArray) (ml : Nat) (ret : Option FieldType) (na : Nat) : Prop := (Cond.code y bytes ml ret ∈ lw_tbl ∧ goodWord (Cond.code y bytes ml ret) = true) ∧ (Cond.initialized y.cls ∈ lw_tbl ∧ goodWord (Cond.initialized y.cls) = true) ∧ (y.cls ≠ "java/lang/invoke/MethodHandle" ∧ y.cls ≠ "java/lang/invoke/VarHandle") ∧ (parseMethodDescriptor y.desc).map (fun d => d.parameters.length) = some na ∧ ml ≤ 3 ∧ plainFor y = true
section JS
variable {p : Program} {l : Launch} {e : Env} {R : Room} {s : State} {m : MethodId} {args : Array Value} {below : List Frame} {meth : Method} {c : Code} {H : Heap} {locs : List Loc} {cl sl : Nat} {Q : State → Prop}
variable {cc : ByteArray} {pc n j : Nat} {ls : Array Slot} {D : va_G} {cs : cid} {ad : Nat → Nat} {L : Nat} {xs : Nat → Int32} {base : Nat} {own : String} {M : Mm}
theorem PcA.blind {vs : List Value} : FrameBlind (PcA D cs ad L xs base vs M) := fun _ _ _ _ h => ⟨h.1, h.2.1, h.2.2.blind⟩
theorem jgo {st0 rest : List Value} {a : Array Value} {o : Option Value} (hr : va_Run p l e R s m args below meth c H locs cl sl 0 0 (F0 m pc ls st0) rest (QcA D cs ad L xs base o M a) (AB base)) (hS : va_S (AB base) s.heap H locs)
    (kk : ∀ (H1 : Heap) (locs1 : List Loc), HOK D cs ad L xs M H1 → va_S (AB base) s.heap H1 locs1 → W p l e R s m args below meth c H1 locs1 cl sl Q (F0 m (pc + 3) ls (o.toList ++ rest))) : W p l e R s m args below meth c H locs cl sl Q (F0 m pc ls st0) := by
  intro T hT X
  obtain ⟨v, st₀, t, T', Lc, h0, X', hL, e1, e2, ⟨⟨hv, hh⟩, hz, hk⟩, st⟩ := hr T hT X
  cases hv
  rw [h0] at hz hk
  have hS1 : va_S (AB base) s.heap T'.heap (locs ++ Lc) := ⟨Nat.le_trans hS.1 (by rw [e1]; exact hz), fun q h1 h2 => by rw [e1, hk q (Nat.lt_of_lt_of_le h1 hS.1) h2]; exact hS.2.1 q h1 h2, fun q hq => by
    rcases List.mem_append.mp hq with h | h
    · exact hS.2.2 q h
    · exact hL q h⟩
  obtain ⟨t2, a1, b1⟩ := kk T'.heap (locs ++ Lc) (by rw [e1]; exact hh) hS1 T' rfl X'
  exact ⟨t2, st t2 a1, b1⟩
theorem jcb (hJ : JX p R s m args c own cc n D cs ad L xs base j) {y : MethodName} {bytes : ByteArray} {ml na k i : Nat} {ret : Option FieldType} (hm : MJ y bytes ml ret na) (hl : Cond.methodLink own k y ∈ BIG) (hi : i + 1 ≤ j) : CallB R s args own k y bytes ml ret (Cond.code y bytes ml ret :: BIG) (rmJ i) 0 0 na := by
  obtain ⟨h1, h2, h3, h4, h5, h6, h7, h8⟩ := hJ
  obtain ⟨m1, m2, m3, m4, m5, m6⟩ := hm
  exact callB_of (ws := Cond.code y bytes ml ret :: BIG) (ws' := BIG) (rm := rmJ i) (mc := 0) (ms := 0) na h4 (good_in _ (big_of m1.1 m1.2)) (Eq.refl _) (Eq.refl _) (Eq.refl _) (h4 _ (big_of m2.1 m2.2)) (h4 _ hl) ⟨m3.1, m3.2, m4⟩ ⟨show i + 1 ≤ R.frames by omega, show 8 + (ml + 11) + 40 * i ≤ R.locals by omega⟩
theorem jpre (hJ : JX p R s m args c own cc n D cs ad L xs base j) {vs : List Value} (hH : HOK D cs ad L xs M H) (hS : va_S (AB base) s.heap H locs) : ∀ U : State, U.heap = H → s.WarmedH U.vm → PcA D cs ad L xs base vs M vs.toArray U := fun U hU hW => ⟨rfl, by rw [hU]; exact hH, hJ.2.2.2.2.2.1.to hW (locs := locs) (by rw [hU]; exact hS)⟩
theorem jcallS (hJ : JX p R s m args c own cc n D cs ad L xs base j) {y : MethodName} {bytes : ByteArray} {ml na k i : Nat} {ret : Option FieldType} {as rest : List Value} {o : Option Value} (hm : MJ y bytes ml ret na) (hl : Cond.methodLink own k y ∈ BIG) (hst : Cond.static y ∈ BIG) (hi : i + 1 ≤ j)
    (hM : Met l y (Cond.code y bytes ml ret :: BIG) (rmJ i) (PcA D cs ad L xs base as M) (QcA D cs ad L xs base o M) 0 0 (AB base)) (hna : as.length = na) (hls : ls.size = n) (h8 : (rest.map fun v => v.category).sum ≤ 8) (hcl : cl ≤ R.cells) (hsl : sl ≤ R.slots)
    (hH : HOK D cs ad L xs M H) (hS : va_S (AB base) s.heap H locs) (hd : decode cc pc = .ok (.invokestatic k, 3))
    (kk : ∀ (H1 : Heap) (locs1 : List Loc), HOK D cs ad L xs M H1 → va_S (AB base) s.heap H1 locs1 → W p l e R s m args below meth c H1 locs1 cl sl Q (F0 m (pc + 3) ls (o.toList ++ rest))) : W p l e R s m args below meth c H locs cl sl Q (F0 m pc ls (as.reverse ++ rest)) := by
  have hcb := jcb hJ hm hl hi
  have hpre := jpre (vs := as) hJ hH hS
  obtain ⟨h1, h2, h3, h4, h5, h6, h7, h8'⟩ := hJ
  exact jgo (va_runS (As := as) (rest := rest) ⟨h1, h2, h3, h5, h4⟩ hM ⟨hcb, h4 _ hst⟩ ⟨PcA.blind, hpre⟩ rfl hna hls rfl (show 2 * 0 + _ ≤ 8 by omega) hd ⟨by omega, by omega⟩) hS kk
theorem jcallV (hJ : JX p R s m args c own cc n D cs ad L xs base j) {y : MethodName} {bytes : ByteArray} {ml na k i b : Nat} {ret : Option FieldType} {as rest : List Value} {o : Option Value} (hm : MJ y bytes ml ret na) (hl : Cond.methodLink own k y ∈ BIG) (hin : Cond.instanceMethod y ∈ BIG) (hse : Cond.selects y.cls y y ∈ BIG) (hi : i + 1 ≤ j)
    (hrc : ∃ cellB : Cell, H[b]? = some cellB ∧ cellB.vm.isStatics = false ∧ s.vm.findClass y.cls = some cellB.cls)
    (hM : Met l y (Cond.code y bytes ml ret :: BIG) (rmJ i) (PcA D cs ad L xs base (.ref b :: as) M) (QcA D cs ad L xs base o M) 0 0 (AB base)) (hna : as.length = na) (hls : ls.size = n) (h8 : (rest.map fun v => v.category).sum ≤ 8) (hcl : cl ≤ R.cells) (hsl : sl ≤ R.slots)
    (hH : HOK D cs ad L xs M H) (hS : va_S (AB base) s.heap H locs) (hd : decode cc pc = .ok (.invokevirtual k, 3))
    (kk : ∀ (H1 : Heap) (locs1 : List Loc), HOK D cs ad L xs M H1 → va_S (AB base) s.heap H1 locs1 → W p l e R s m args below meth c H1 locs1 cl sl Q (F0 m (pc + 3) ls (o.toList ++ rest))) : W p l e R s m args below meth c H locs cl sl Q (F0 m pc ls (as.reverse ++ .ref b :: rest)) := by
  have hcb := jcb hJ hm hl hi
  have hpre := jpre (vs := .ref b :: as) hJ hH hS
  obtain ⟨h1, h2, h3, h4, h5, h6, h7, h8'⟩ := hJ
  exact jgo (va_runV (As := as) (rest := rest) (b := b) ⟨h1, h2, h3, h5, h4⟩ hM ⟨hcb, h4 _ hin, h4 _ hse⟩ ⟨PcA.blind, hrc, hpre⟩ rfl hna hls rfl (show 2 * 0 + _ ≤ 8 by omega) hd ⟨by omega, by omega⟩) hS kk
/-- a field of a text -/
theorem jget (hJ : JX p R s m args c own cc n D cs ad L xs base j) {o nm d : String} {v : Value} {t k : Nat} {rest : List Value} (hO : va_OF o nm d v t (AB base) s s.heap) (hS : va_S (AB base) s.heap H locs) (hl : Cond.fieldLink own k o nm d ∈ BIG) (hd : decode cc pc = .ok (.getfield k, 3))
    (kk : W p l e R s m args below meth c H locs cl sl Q (F0 m (pc + 3) ls (v :: rest))) : W p l e R s m args below meth c H locs cl sl Q (F0 m pc ls (.ref t :: rest)) := by
  obtain ⟨h1, h2, h3, h4, h5, h6, h7, h8'⟩ := hJ
  obtain ⟨cf, kf, fi, f, cell, q1, q2, q3, q4, q5, q6⟩ := hO.kept hS.2.1
  exact W.getf h1 h2 h5 (h4 _ hl) q1 q2 q3 q4 (v := v) q5 rfl rfl hd kk
end JS
theorem jm_0 : MJ yJ0_coder_7d493 cJ0_coder_7d493 1 (some .byte) 0 := by unfold MJ; exact ⟨by decide +kernel, by decide +kernel, by decide +kernel, by decide +kernel, by decide +kernel, by decide +kernel⟩
theorem jm_1 : MJ yJ0_isLatin1_aae02 cJ0_isLatin1_aae02 1 (some .boolean) 0 := by unfold MJ; exact ⟨by decide +kernel, by decide +kernel, by decide +kernel, by decide +kernel, by decide +kernel, by decide +kernel⟩
theorem jm_2 : MJ yJ0_checkIndex_df160 cJ0_checkIndex_df160 2 none 2 := by unfold MJ; exact ⟨by decide +kernel, by decide +kernel, by decide +kernel, by decide +kernel, by decide +kernel, by decide +kernel⟩
theorem jm_3 : MJ yJ1_charAt_3b067 cJ1_charAt_3b067 2 (some .char) 2 := by unfold MJ; exact ⟨by decide +kernel, by decide +kernel, by decide +kernel, by decide +kernel, by decide +kernel, by decide +kernel⟩
theorem jm_4 : MJ yJ3_checkIndex_8e157 cJ3_checkIndex_8e157 3 (some .int) 3 := by unfold MJ; exact ⟨by decide +kernel, by decide +kernel, by decide +kernel, by decide +kernel, by decide +kernel, by decide +kernel⟩
theorem jm_l : ∀ w ∈ [Cond.methodLink RJ0 335 yJ0_coder_7d493, Cond.instanceMethod yJ0_coder_7d493, Cond.selects RJ0 yJ0_coder_7d493 yJ0_coder_7d493, Cond.methodLink RJ0 492 yJ0_isLatin1_aae02, Cond.instanceMethod yJ0_isLatin1_aae02, Cond.selects RJ0 yJ0_isLatin1_aae02 yJ0_isLatin1_aae02, Cond.methodLink RJ0 495 yJ1_charAt_3b067, Cond.static yJ1_charAt_3b067, Cond.methodLink RJ1 9 yJ0_checkIndex_df160, Cond.static yJ0_checkIndex_df160, Cond.methodLink RJ0 1059 yJ3_checkIndex_8e157, Cond.static yJ3_checkIndex_8e157, Cond.fieldLink RJ0 9 "java/lang/String" "value" "[B", Cond.fieldLink RJ0 38 "java/lang/String" "COMPACT_STRINGS" "Z", Cond.fieldLink RJ0 15 "java/lang/String" "coder" "B", Cond.fieldLink RJ0 1053 "jdk/internal/util/Preconditions" "SIOOBE_FORMATTER" "Ljava/util/function/BiFunction;"], w ∈ lw_tbl ∧ goodWord w = true := by decide +kernel
theorem jm_words : (MJ yJ0_coder_7d493 cJ0_coder_7d493 1 (some .byte) 0 ∧ MJ yJ0_isLatin1_aae02 cJ0_isLatin1_aae02 1 (some .boolean) 0 ∧ MJ yJ0_checkIndex_df160 cJ0_checkIndex_df160 2 none 2 ∧ MJ yJ1_charAt_3b067 cJ1_charAt_3b067 2 (some .char) 2 ∧ MJ yJ3_checkIndex_8e157 cJ3_checkIndex_8e157 3 (some .int) 3) ∧ (∀ w ∈ [Cond.methodLink RJ0 335 yJ0_coder_7d493, Cond.instanceMethod yJ0_coder_7d493, Cond.selects RJ0 yJ0_coder_7d493 yJ0_coder_7d493, Cond.methodLink RJ0 492 yJ0_isLatin1_aae02, Cond.instanceMethod yJ0_isLatin1_aae02, Cond.selects RJ0 yJ0_isLatin1_aae02 yJ0_isLatin1_aae02, Cond.methodLink RJ0 495 yJ1_charAt_3b067, Cond.static yJ1_charAt_3b067, Cond.methodLink RJ1 9 yJ0_checkIndex_df160, Cond.static yJ0_checkIndex_df160, Cond.methodLink RJ0 1059 yJ3_checkIndex_8e157, Cond.static yJ3_checkIndex_8e157, Cond.fieldLink RJ0 9 "java/lang/String" "value" "[B", Cond.fieldLink RJ0 38 "java/lang/String" "COMPACT_STRINGS" "Z", Cond.fieldLink RJ0 15 "java/lang/String" "coder" "B", Cond.fieldLink RJ0 1053 "jdk/internal/util/Preconditions" "SIOOBE_FORMATTER" "Ljava/util/function/BiFunction;"], w ∈ lw_tbl ∧ goodWord w = true) := ⟨⟨jm_0, jm_1, jm_2, jm_3, jm_4⟩, jm_l⟩
theorem jw {w : Cond} (h : w ∈ [Cond.methodLink RJ0 335 yJ0_coder_7d493, Cond.instanceMethod yJ0_coder_7d493, Cond.selects RJ0 yJ0_coder_7d493 yJ0_coder_7d493, Cond.methodLink RJ0 492 yJ0_isLatin1_aae02, Cond.instanceMethod yJ0_isLatin1_aae02, Cond.selects RJ0 yJ0_isLatin1_aae02 yJ0_isLatin1_aae02, Cond.methodLink RJ0 495 yJ1_charAt_3b067, Cond.static yJ1_charAt_3b067, Cond.methodLink RJ1 9 yJ0_checkIndex_df160, Cond.static yJ0_checkIndex_df160, Cond.methodLink RJ0 1059 yJ3_checkIndex_8e157, Cond.static yJ3_checkIndex_8e157, Cond.fieldLink RJ0 9 "java/lang/String" "value" "[B", Cond.fieldLink RJ0 38 "java/lang/String" "COMPACT_STRINGS" "Z", Cond.fieldLink RJ0 15 "java/lang/String" "coder" "B", Cond.fieldLink RJ0 1053 "jdk/internal/util/Preconditions" "SIOOBE_FORMATTER" "Ljava/util/function/BiFunction;"]) : w ∈ BIG := big_of (jm_words.2 w h).1 (jm_words.2 w h).2
