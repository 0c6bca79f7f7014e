/-! String's members: their contracts. -/
theorem in_nat {i : Int32} {N : Nat} (h : vp_in i N) (hN : N ≤ 2 ^ 31) : ∃ k, k < N ∧ i = nI k ∧ i.toNatClampNeg = k := by
  have h1 : ¬ i < 0 := fun q => h (Or.inl q)
  have h2 : i.toNatClampNeg < N := Nat.lt_of_not_le (fun q => h (Or.inr q))
  have h3 : i.toNatClampNeg = i.toInt.toNat := rfl
  have h4 : ¬ i.toInt < 0 := by rw [Int32.lt_iff_toInt_lt] at h1; exact h1
  refine ⟨i.toNatClampNeg, h2, ?_, rfl⟩
  apply Int32.toInt_inj.mp
  rw [nI_toInt (by omega)]
  omega
theorem tx_small : ∀ i, i < 27 → (strL.getD i []).length < 16 ∧ ∀ b ∈ strL.getD i [], b < 128 := by decide +kernel
theorem sh_0 : ∀ n, n < 16 → nI n >>> ((0 : Int32) &&& 31) = nI n := by decide +kernel
theorem an_255 : ∀ n, n < 128 → nI n &&& (Int16.ofInt 255).toInt32 = nI n := by decide +kernel
theorem ch_n : ∀ n, n < 128 → ((nI n).toUInt32 % 65536).toInt32 = nI n := by decide +kernel
theorem nar_c : ∀ n, n < 128 → narrow .char (.int (nI n)) = .int (nI n) := by decide +kernel
section JC
variable {l : Launch} {D : va_G} {cs : cid} {ad : Nat → Nat} {L : Nat} {xs : Nat → Int32} {base : Nat} {M : Mm}
theorem jmet {y : MethodName} {bytes : ByteArray} {ml j : Nat} {ret : Option FieldType} {vs : List Value} {o : Option Value} {rm : Room} {Qc : Array Value → State → Outcome → State → Prop} (hr1 : j ≤ rm.frames) (hr2 : 40 * j ≤ rm.locals) (hQ : ∀ a s o2 t, QcA D cs ad L xs base o M a s o2 t → Qc a s o2 t) (hc : Cond.code y bytes ml ret ∈ BIG) (hp : plainFor y = true) (hf : (lg_sl vs).length ≤ ml)
    (body : ∀ {p : Program} {e : Env} {R : Room} {s : State} {m : MethodId} {args : Array Value} {below : List Frame} {meth : Method} {c : Code} {ls : Array Slot}, JX p R s m args c y.cls bytes ml D cs ad L xs base j → meth.sig.returnType = ret → meth.locks = false → lv_has ls ml (lv_args 0 vs) → HOK D cs ad L xs M s.heap → W p l e R s m args below meth c s.heap [] 0 0 (MQ below (QcA D cs ad L xs base o M) args s 0 0 (AB base)) (F0 m 0 ls [])) :
    Met l y (Cond.code y bytes ml ret :: BIG) rm (PcA D cs ad L xs base vs M) Qc 0 0 (AB base) := by
  refine va_MetF hp rfl ?_
  intro p e s m args below meth c s₁ B hml hP
  obtain ⟨hv, hH, hK⟩ := hP
  subst hv
  obtain ⟨ls, e1, e2⟩ := jentry vs ml m hf
  rw [e1]
  intro T hT X
  obtain ⟨t, a1, o, b1, b2, b3, b4⟩ := body (R := (headSpec (Cond.code y bytes ml ret :: BIG) rm).room) ⟨B.exec, B.bytes, hml, fun w hw => atoms_spec (ws := Cond.code y bytes ml ret :: BIG) B.pre w (List.mem_cons_of_mem _ hw), findClass_of_methodNamed B.named, hK, hr1, hr2⟩ B.returns B.notSynchronized e2 hH T hT X
  exact ⟨t, a1, o, b1, b2, hQ _ _ _ _ b3, b4⟩
section JD
variable {p : Program} {e : Env} {R : Room} {s : State} {m : MethodId} {args : Array Value} {below : List Frame} {meth : Method} {c : Code} {H : Heap} {locs : List Loc} {cc : ByteArray} {pc : Nat} {ls : Array Slot}
theorem jret (hx : p.tables.exec = Jvm.exec) (hb : c.code = cc) {ty : FieldType} {v : Int32} (hrt : meth.sig.returnType = some ty) (hlk : meth.locks = false) (hn : narrow ty (.int v) = .int v) (hH : HOK D cs ad L xs M H) (hS : va_S (AB base) s.heap H locs) (hd : decode cc pc = .ok (.ireturn, 1)) :
    W p l e R s m args below meth c H locs 0 0 (MQ below (QcA D cs ad L xs base (some (.int v)) M) args s 0 0 (AB base)) (F0 m pc ls [.int v]) :=
  W.zret hx hb hrt hn (fun t ht _ => ⟨⟨rfl, by rw [ht]; exact hH⟩, hS.F ht⟩) hS.2.2 hd hlk
end JD
theorem j_coder {i j : Nat} (hi : i < 27) : Met l yJ0_coder_7d493 (Cond.code yJ0_coder_7d493 cJ0_coder_7d493 1 (some .byte) :: BIG) (rmJ j) (PcA D cs ad L xs base [.ref (ad (70200 + i))] M) (QcA D cs ad L xs base (some (.int 0)) M) 0 0 (AB base) := by
  have hm := jm_words.1.1
  refine jmet (Nat.le_refl _) (Nat.le_refl _) (fun _ _ _ _ h => h) (big_of hm.1.1 hm.1.2) hm.2.2.2.2.2 (Nat.le_refl _) ?_
  intro p e R s m args below meth c ls hJ hrt hlk hls hH
  have hJ0 := hJ
  obtain ⟨hx, hb, hml, hts, hown, hK, -, -⟩ := hJ
  have hS : va_S (AB base) s.heap s.heap [] := va_S.rf
  refine va_gets hx hb hK.2.1.2.2.2.2.2.1 hS hown (hts _ (jw (w := Cond.fieldLink RJ0 38 "java/lang/String" "COMPACT_STRINGS" "Z") (by decide +kernel))) (fun _ h => h) (by decide +kernel) ?_
  refine lv_if_eq (tgt := 13) hx hb (by decide +kernel : decode cJ0_coder_7d493 3 = .ok (.ifCond .eq 10, 3)) rfl (fun q => absurd q (by decide)) (fun _ => ?_)
  refine lv_aload_n hx hb (by decide +kernel : decode cJ0_coder_7d493 6 = .ok (.aload_n 0, 1)) rfl (lv_at hls 0 rfl) ?_
  refine jget hJ0 (hK.2.1.2.2.2.2.1 i hi).2.1 hS (jw (by decide +kernel)) (by decide +kernel : decode cJ0_coder_7d493 7 = .ok (.getfield 15, 3)) ?_
  refine lv_goto (tgt := 14) hx hb (by decide +kernel : decode cJ0_coder_7d493 10 = .ok (.goto 4, 3)) rfl ?_
  exact jret hx hb hrt hlk rfl hH hS (by decide +kernel)
theorem j_isLatin1 {i j : Nat} (hi : i < 27) : Met l yJ0_isLatin1_aae02 (Cond.code yJ0_isLatin1_aae02 cJ0_isLatin1_aae02 1 (some .boolean) :: BIG) (rmJ j) (PcA D cs ad L xs base [.ref (ad (70200 + i))] M) (QcA D cs ad L xs base (some (.int 1)) M) 0 0 (AB base) := by
  have hm := jm_words.1.2.1
  refine jmet (Nat.le_refl _) (Nat.le_refl _) (fun _ _ _ _ h => h) (big_of hm.1.1 hm.1.2) hm.2.2.2.2.2 (Nat.le_refl _) ?_
  intro p e R s m args below meth c ls hJ hrt hlk hls hH
  have hJ0 := hJ
  obtain ⟨hx, hb, hml, hts, hown, hK, -, -⟩ := hJ
  have hS : va_S (AB base) s.heap s.heap [] := va_S.rf
  refine va_gets hx hb hK.2.1.2.2.2.2.2.1 hS hown (hts _ (jw (w := Cond.fieldLink RJ0 38 "java/lang/String" "COMPACT_STRINGS" "Z") (by decide +kernel))) (fun _ h => h) (by decide +kernel) ?_
  refine lv_if_eq (tgt := 17) hx hb (by decide +kernel : decode cJ0_isLatin1_aae02 3 = .ok (.ifCond .eq 14, 3)) rfl (fun q => absurd q (by decide)) (fun _ => ?_)
  refine lv_aload_n hx hb (by decide +kernel : decode cJ0_isLatin1_aae02 6 = .ok (.aload_n 0, 1)) rfl (lv_at hls 0 rfl) ?_
  refine jget hJ0 (hK.2.1.2.2.2.2.1 i hi).2.1 hS (jw (by decide +kernel)) (by decide +kernel : decode cJ0_isLatin1_aae02 7 = .ok (.getfield 15, 3)) ?_
  refine lv_if_ne (tgt := 17) hx hb (by decide +kernel : decode cJ0_isLatin1_aae02 10 = .ok (.ifCond .ne 7, 3)) rfl (fun q => absurd rfl q) (fun _ => ?_)
  refine lv_iconst hx hb (by decide +kernel : decode cJ0_isLatin1_aae02 13 = .ok (.iconst 1, 1)) rfl ?_
  refine lv_goto (tgt := 18) hx hb (by decide +kernel : decode cJ0_isLatin1_aae02 14 = .ok (.goto 4, 3)) rfl ?_
  exact jret hx hb hrt hlk rfl hH hS (by decide +kernel)
theorem j_check3 {N k j : Nat} {x : Value} (hk : k < N) (hN : N < 2 ^ 31) (hxx : x = .null ∨ ∃ t, x = .ref t) : Met l yJ3_checkIndex_8e157 (Cond.code yJ3_checkIndex_8e157 cJ3_checkIndex_8e157 3 (some .int) :: BIG) (rmJ j) (PcA D cs ad L xs base [.int (nI k), .int (nI N), x] M) (QcA D cs ad L xs base (some (.int (nI k))) M) 0 0 (AB base) := by
  have hm := jm_words.1.2.2.2.2
  refine jmet (Nat.le_refl _) (Nat.le_refl _) (fun _ _ _ _ h => h) (big_of hm.1.1 hm.1.2) hm.2.2.2.2.2 (by rcases hxx with rfl | ⟨t, rfl⟩ <;> exact Nat.le_refl _) ?_
  intro p e R s m args below meth c ls hJ hrt hlk hls hH
  obtain ⟨hx, hb, hml, hts, hown, hK, -, -⟩ := hJ
  have hS : va_S (AB base) s.heap s.heap [] := va_S.rf
  have l0 : ls[0]? = some (.val (.int (nI k))) := lv_at hls 0 rfl
  have l1 : ls[1]? = some (.val (.int (nI N))) := lv_at hls 1 rfl
  refine lv_iload_n hx hb (by decide +kernel : decode cJ3_checkIndex_8e157 0 = .ok (.iload_n 0, 1)) rfl l0 ?_
  refine lv_if_lt (tgt := 9) hx hb (by decide +kernel : decode cJ3_checkIndex_8e157 1 = .ok (.ifCond .lt 8, 3)) rfl (fun q => absurd q (nI_pos (by omega))) (fun _ => ?_)
  refine lv_iload_n hx hb (by decide +kernel : decode cJ3_checkIndex_8e157 4 = .ok (.iload_n 0, 1)) rfl l0 ?_
  refine lv_iload_n hx hb (by decide +kernel : decode cJ3_checkIndex_8e157 5 = .ok (.iload_n 1, 1)) rfl l1 ?_
  refine lv_icmp_lt (tgt := 16) hx hb (by decide +kernel : decode cJ3_checkIndex_8e157 6 = .ok (.if_icmp .lt 10, 3)) rfl (fun _ => ?_) (fun q => absurd (nI_lt hk hN) q)
  refine lv_iload_n hx hb (by decide +kernel : decode cJ3_checkIndex_8e157 16 = .ok (.iload_n 0, 1)) rfl l0 ?_
  exact jret hx hb hrt hlk rfl hH hS (by decide +kernel)
theorem j_check0 {N k j : Nat} (hk : k < N) (hN : N < 2 ^ 31) : Met l yJ0_checkIndex_df160 (Cond.code yJ0_checkIndex_df160 cJ0_checkIndex_df160 2 none :: BIG) (rmJ (j + 1)) (PcA D cs ad L xs base [.int (nI k), .int (nI N)] M) (QcA D cs ad L xs base none M) 0 0 (AB base) := by
  have hm := jm_words.1.2.2.1
  have hm3 := jm_words.1.2.2.2.2
  refine jmet (Nat.le_refl _) (Nat.le_refl _) (fun _ _ _ _ h => h) (big_of hm.1.1 hm.1.2) hm.2.2.2.2.2 (Nat.le_refl _) ?_
  intro p e R s m args below meth c ls hJ hrt hlk hls hH
  have hJ0 := hJ
  obtain ⟨hx, hb, hml, hts, hown, hK, -, -⟩ := hJ
  have hS : va_S (AB base) s.heap s.heap [] := va_S.rf
  refine lv_iload_n hx hb (by decide +kernel : decode cJ0_checkIndex_df160 0 = .ok (.iload_n 0, 1)) rfl (lv_at hls 0 rfl) ?_
  refine lv_iload_n hx hb (by decide +kernel : decode cJ0_checkIndex_df160 1 = .ok (.iload_n 1, 1)) rfl (lv_at hls 1 rfl) ?_
  have fin : ∀ x : Value, (x = .null ∨ ∃ t, x = .ref t) → W p l e R s m args below meth c s.heap [] 0 0 (MQ below (QcA D cs ad L xs base none M) args s 0 0 (AB base)) (F0 m 5 ls [x, .int (nI N), .int (nI k)]) := by
    intro x hxx
    refine jcallS (i := j) (as := [.int (nI k), .int (nI N), x]) (rest := []) (o := some (.int (nI k))) hJ0 hm3 (jw (w := Cond.methodLink RJ0 1059 yJ3_checkIndex_8e157) (by decide +kernel)) (jw (by decide +kernel)) (Nat.le_refl _) (j_check3 hk hN hxx) rfl hls.1 (by decide) (Nat.zero_le _) (Nat.zero_le _) hH hS (by decide +kernel : decode cJ0_checkIndex_df160 5 = .ok (.invokestatic 1059, 3)) ?_
    intro H1 locs1 hH1 hS1
    refine lv_pop hx hb (by decide +kernel : decode cJ0_checkIndex_df160 8 = .ok (.pop, 1)) rfl ?_
    exact W.vret hx hb hrt (fun t ht _ => ⟨⟨rfl, by rw [ht]; exact hH1⟩, hS1.F ht⟩) hS1.2.2 (by decide +kernel) hlk
  rcases hK.2.1.2.2.2.2.2.2.1 with hZ | ⟨t, hZ⟩
  · exact va_gets hx hb hZ hS hown (hts _ (jw (w := Cond.fieldLink RJ0 1053 "jdk/internal/util/Preconditions" "SIOOBE_FORMATTER" "Ljava/util/function/BiFunction;") (by decide +kernel))) (fun _ h => h) (by decide +kernel : decode cJ0_checkIndex_df160 2 = .ok (.getstatic 1053, 3)) (fin _ (Or.inl rfl))
  · exact va_gets hx hb hZ hS hown (hts _ (jw (w := Cond.fieldLink RJ0 1053 "jdk/internal/util/Preconditions" "SIOOBE_FORMATTER" "Ljava/util/function/BiFunction;") (by decide +kernel))) (fun _ h => h) (by decide +kernel : decode cJ0_checkIndex_df160 2 = .ok (.getstatic 1053, 3)) (fin _ (Or.inr ⟨t, rfl⟩))
theorem j_char1 {i k j : Nat} (hi : i < 27) (hk : k < (strL.getD i []).length) : Met l yJ1_charAt_3b067 (Cond.code yJ1_charAt_3b067 cJ1_charAt_3b067 2 (some .char) :: BIG) (rmJ (j + 2)) (PcA D cs ad L xs base [.ref (ad (70300 + i)), .int (nI k)] M) (QcA D cs ad L xs base (some (.int (nI ((strL.getD i []).getD k 0)))) M) 0 0 (AB base) := by
  have hm := jm_words.1.2.2.2.1
  have hm0 := jm_words.1.2.2.1
  obtain ⟨s1, s2⟩ := tx_small i hi
  have hb128 : (strL.getD i []).getD k 0 < 128 := by
    rw [List.getD_eq_getElem?_getD, List.getElem?_eq_getElem hk]
    exact s2 _ (List.getElem_mem hk)
  refine jmet (Nat.le_refl _) (Nat.le_refl _) (fun _ _ _ _ h => h) (big_of hm.1.1 hm.1.2) hm.2.2.2.2.2 (Nat.le_refl _) ?_
  intro p e R s m args below meth c ls hJ hrt hlk hls hH
  have hJ0 := hJ
  obtain ⟨hx, hb, hml, hts, hown, hK, -, -⟩ := hJ
  have hS : va_S (AB base) s.heap s.heap [] := va_S.rf
  have hT := (hK.2.1.2.2.2.2.1 i hi).2.2.2
  have l0 : ls[0]? = some (.val (.ref (ad (70300 + i)))) := lv_at hls 0 rfl
  have l1 : ls[1]? = some (.val (.int (nI k))) := lv_at hls 1 rfl
  have hin : vp_in (nI k) (strL.getD i []).length := fun q => by
    rcases q with q | q
    · exact nI_pos (by omega) q
    · rw [nI_clamp (by omega)] at q; omega
  refine lv_iload_n hx hb (by decide +kernel : decode cJ1_charAt_3b067 0 = .ok (.iload_n 1, 1)) rfl l1 ?_
  refine lv_aload_n hx hb (by decide +kernel : decode cJ1_charAt_3b067 1 = .ok (.aload_n 0, 1)) rfl l0 ?_
  refine va_tlen hx hb hT hS (v := nI (strL.getD i []).length) rfl (by decide +kernel : decode cJ1_charAt_3b067 2 = .ok (.arraylength, 1)) ?_
  refine jcallS (i := j + 1) (as := [.int (nI k), .int (nI (strL.getD i []).length)]) (rest := []) (o := none) hJ0 hm0 (jw (w := Cond.methodLink RJ1 9 yJ0_checkIndex_df160) (by decide +kernel)) (jw (by decide +kernel)) (Nat.le_refl _) (j_check0 hk (by omega)) rfl hls.1 (by decide) (Nat.zero_le _) (Nat.zero_le _) hH hS (by decide +kernel : decode cJ1_charAt_3b067 3 = .ok (.invokestatic 9, 3)) ?_
  intro H1 locs1 hH1 hS1
  refine lv_aload_n hx hb (by decide +kernel : decode cJ1_charAt_3b067 6 = .ok (.aload_n 0, 1)) rfl l0 ?_
  refine lv_iload_n hx hb (by decide +kernel : decode cJ1_charAt_3b067 7 = .ok (.iload_n 1, 1)) rfl l1 ?_
  refine va_tb hx hb hT hS1 hin (v := .int (nI ((strL.getD i []).getD k 0))) (by rw [nI_clamp (by omega)]) (by decide +kernel : decode cJ1_charAt_3b067 8 = .ok (.baload, 1)) ?_
  refine lv_sipush hx hb (by decide +kernel : decode cJ1_charAt_3b067 9 = .ok (.sipush 255, 3)) rfl ?_
  refine lv_iand hx hb (by decide +kernel : decode cJ1_charAt_3b067 12 = .ok (.iand, 1)) ?_
  rw [an_255 _ hb128]
  refine lv_i2c hx hb (by decide +kernel : decode cJ1_charAt_3b067 13 = .ok (.i2c, 1)) (ch_n _ hb128) ?_
  exact jret hx hb hrt hlk (nar_c _ hb128) hH1 hS1 (by decide +kernel)
theorem o_length {i : Nat} {rm : Room} {Qc : Array Value → State → Outcome → State → Prop} (hr1 : 4 ≤ rm.frames) (hr2 : 160 ≤ rm.locals) (hi : i < 27) (hQ : ∀ a s o2 t, QcA D cs ad L xs base (some (.int (nI (strL.getD i []).length))) M a s o2 t → Qc a s o2 t) : Met l yJ0_length_8abf5 (Cond.code yJ0_length_8abf5 cJ0_length_8abf5 1 (some .int) :: BIG) rm (PcA D cs ad L xs base [.ref (ad (70200 + i))] M) Qc 0 0 (AB base) := by
  have hw := orc_mf0 1001 (by decide)
  have hmc := jm_words.1.1
  obtain ⟨s1, s2⟩ := tx_small i hi
  refine jmet (j := 4) hr1 hr2 hQ (y := yJ0_length_8abf5) (big_of hw.1.1 hw.1.2) (by decide +kernel) (Nat.le_refl _) ?_
  intro p e R s m args below meth c ls hJ hrt hlk hls hH
  have hJ0 := hJ
  obtain ⟨hx, hb, hml, hts, hown, hK, -, -⟩ := hJ
  have hS : va_S (AB base) s.heap s.heap [] := va_S.rf
  have hT := hK.2.1.2.2.2.2.1 i hi
  have l0 : ls[0]? = some (.val (.ref (ad (70200 + i)))) := lv_at hls 0 rfl
  refine lv_aload_n hx hb (by decide +kernel : decode cJ0_length_8abf5 0 = .ok (.aload_n 0, 1)) rfl l0 ?_
  refine jget hJ0 hT.2.2.1 hS (jw (by decide +kernel)) (by decide +kernel : decode cJ0_length_8abf5 1 = .ok (.getfield 9, 3)) ?_
  refine va_tlen hx hb hT.2.2.2 hS (v := nI (strL.getD i []).length) rfl (by decide +kernel : decode cJ0_length_8abf5 4 = .ok (.arraylength, 1)) ?_
  refine lv_aload_n hx hb (by decide +kernel : decode cJ0_length_8abf5 5 = .ok (.aload_n 0, 1)) rfl l0 ?_
  refine jcallV (i := 3) (as := []) (b := ad (70200 + i)) (rest := [.int (nI (strL.getD i []).length)]) (o := some (.int 0)) hJ0 hmc (jw (w := Cond.methodLink RJ0 335 yJ0_coder_7d493) (by decide +kernel)) (jw (by decide +kernel)) (jw (by decide +kernel)) (Nat.le_refl _) ?_ (j_coder hi) rfl hls.1 (Nat.le_of_ble_eq_true rfl) (Nat.zero_le _) (Nat.zero_le _) hH hS (by decide +kernel : decode cJ0_length_8abf5 6 = .ok (.invokevirtual 335, 3)) ?_
  · obtain ⟨cell, c1, c2, c3, -⟩ := hT.1
    exact ⟨cell, c1, c2, c3⟩
  intro H1 locs1 hH1 hS1
  refine lv_ishr hx hb (by decide +kernel : decode cJ0_length_8abf5 9 = .ok (.ishr, 1)) ?_
  rw [sh_0 _ s1]
  exact jret hx hb hrt hlk rfl hH1 hS1 (by decide +kernel)
theorem o_isEmpty {i : Nat} {rm : Room} {Qc : Array Value → State → Outcome → State → Prop} (hr1 : 4 ≤ rm.frames) (hr2 : 160 ≤ rm.locals) (hi : i < 27) (hQ : ∀ a s o2 t, QcA D cs ad L xs base (some (.int (cond (strL.getD i []).isEmpty 1 0))) M a s o2 t → Qc a s o2 t) : Met l yJ0_isEmpty_aae02 (Cond.code yJ0_isEmpty_aae02 cJ0_isEmpty_aae02 1 (some .boolean) :: BIG) rm (PcA D cs ad L xs base [.ref (ad (70200 + i))] M) Qc 0 0 (AB base) := by
  have hw := orc_mf0 1002 (by decide)
  obtain ⟨s1, s2⟩ := tx_small i hi
  refine jmet (j := 4) hr1 hr2 hQ (y := yJ0_isEmpty_aae02) (big_of hw.1.1 hw.1.2) (by decide +kernel) (Nat.le_refl _) ?_
  intro p e R s m args below meth c ls hJ hrt hlk hls hH
  have hJ0 := hJ
  obtain ⟨hx, hb, hml, hts, hown, hK, -, -⟩ := hJ
  have hS : va_S (AB base) s.heap s.heap [] := va_S.rf
  have hT := hK.2.1.2.2.2.2.1 i hi
  have l0 : ls[0]? = some (.val (.ref (ad (70200 + i)))) := lv_at hls 0 rfl
  refine lv_aload_n hx hb (by decide +kernel : decode cJ0_isEmpty_aae02 0 = .ok (.aload_n 0, 1)) rfl l0 ?_
  refine jget hJ0 hT.2.2.1 hS (jw (by decide +kernel)) (by decide +kernel : decode cJ0_isEmpty_aae02 1 = .ok (.getfield 9, 3)) ?_
  refine va_tlen hx hb hT.2.2.2 hS (v := nI (strL.getD i []).length) rfl (by decide +kernel : decode cJ0_isEmpty_aae02 4 = .ok (.arraylength, 1)) ?_
  refine lv_if_ne (tgt := 12) hx hb (by decide +kernel : decode cJ0_isEmpty_aae02 5 = .ok (.ifCond .ne 7, 3)) rfl (fun q => ?_) (fun q => ?_)
  · have e : (cond (strL.getD i []).isEmpty 1 0 : Int32) = 0 := by
      cases hl : strL.getD i [] with
      | nil => rw [hl] at q; exact absurd rfl q
      | cons a t => rfl
    rw [e]
    refine lv_iconst hx hb (by decide +kernel : decode cJ0_isEmpty_aae02 12 = .ok (.iconst 0, 1)) rfl ?_
    exact jret hx hb hrt hlk rfl hH hS (by decide +kernel)
  · have e : (cond (strL.getD i []).isEmpty 1 0 : Int32) = 1 := by
      cases hl : strL.getD i [] with
      | nil => rfl
      | cons a t =>
        rw [hl] at q s1
        exact absurd q (nI_ne0 (Nat.succ_pos _) (by omega))
    rw [e]
    refine lv_iconst hx hb (by decide +kernel : decode cJ0_isEmpty_aae02 8 = .ok (.iconst 1, 1)) rfl ?_
    refine lv_goto (tgt := 13) hx hb (by decide +kernel : decode cJ0_isEmpty_aae02 9 = .ok (.goto 4, 3)) rfl ?_
    exact jret hx hb hrt hlk rfl hH hS (by decide +kernel)
theorem o_charAt {i k : Nat} {rm : Room} {Qc : Array Value → State → Outcome → State → Prop} (hr1 : 4 ≤ rm.frames) (hr2 : 160 ≤ rm.locals) (hi : i < 27) (hk : k < (strL.getD i []).length) (hQ : ∀ a s o2 t, QcA D cs ad L xs base (some (.int (nI ((strL.getD i []).getD k 0)))) M a s o2 t → Qc a s o2 t) : Met l yJ0_charAt_5068e (Cond.code yJ0_charAt_5068e cJ0_charAt_5068e 2 (some .char) :: BIG) rm (PcA D cs ad L xs base [.ref (ad (70200 + i)), .int (nI k)] M) Qc 0 0 (AB base) := by
  have hw := orc_mf0 1003 (by decide)
  have hm1 := jm_words.1.2.1
  have hm4 := jm_words.1.2.2.2.1
  obtain ⟨s1, s2⟩ := tx_small i hi
  have hb128 : (strL.getD i []).getD k 0 < 128 := by
    rw [List.getD_eq_getElem?_getD, List.getElem?_eq_getElem hk]
    exact s2 _ (List.getElem_mem hk)
  refine jmet (j := 4) hr1 hr2 hQ (y := yJ0_charAt_5068e) (big_of hw.1.1 hw.1.2) (by decide +kernel) (Nat.le_refl _) ?_
  intro p e R s m args below meth c ls hJ hrt hlk hls hH
  have hJ0 := hJ
  obtain ⟨hx, hb, hml, hts, hown, hK, -, -⟩ := hJ
  have hS : va_S (AB base) s.heap s.heap [] := va_S.rf
  have hT := hK.2.1.2.2.2.2.1 i hi
  have l0 : ls[0]? = some (.val (.ref (ad (70200 + i)))) := lv_at hls 0 rfl
  have l1 : ls[1]? = some (.val (.int (nI k))) := lv_at hls 1 rfl
  refine lv_aload_n hx hb (by decide +kernel : decode cJ0_charAt_5068e 0 = .ok (.aload_n 0, 1)) rfl l0 ?_
  refine jcallV (i := 3) (as := []) (b := ad (70200 + i)) (rest := []) (o := some (.int 1)) hJ0 hm1 (jw (w := Cond.methodLink RJ0 492 yJ0_isLatin1_aae02) (by decide +kernel)) (jw (by decide +kernel)) (jw (by decide +kernel)) (Nat.le_refl _) ?_ (j_isLatin1 hi) rfl hls.1 (by decide) (Nat.zero_le _) (Nat.zero_le _) hH hS (by decide +kernel : decode cJ0_charAt_5068e 1 = .ok (.invokevirtual 492, 3)) ?_
  · obtain ⟨cell, c1, c2, c3, -⟩ := hT.1
    exact ⟨cell, c1, c2, c3⟩
  intro H1 locs1 hH1 hS1
  refine lv_if_eq (tgt := 16) hx hb (by decide +kernel : decode cJ0_charAt_5068e 4 = .ok (.ifCond .eq 12, 3)) rfl (fun q => absurd q (by decide)) (fun _ => ?_)
  refine lv_aload_n hx hb (by decide +kernel : decode cJ0_charAt_5068e 7 = .ok (.aload_n 0, 1)) rfl l0 ?_
  refine jget hJ0 hT.2.2.1 hS1 (jw (by decide +kernel)) (by decide +kernel : decode cJ0_charAt_5068e 8 = .ok (.getfield 9, 3)) ?_
  refine lv_iload_n hx hb (by decide +kernel : decode cJ0_charAt_5068e 11 = .ok (.iload_n 1, 1)) rfl l1 ?_
  refine jcallS (i := 3) (as := [.ref (ad (70300 + i)), .int (nI k)]) (rest := []) (o := some (.int (nI ((strL.getD i []).getD k 0)))) hJ0 hm4 (jw (w := Cond.methodLink RJ0 495 yJ1_charAt_3b067) (by decide +kernel)) (jw (by decide +kernel)) (Nat.le_refl _) (j_char1 (j := 1) hi hk) rfl hls.1 (by decide) (Nat.zero_le _) (Nat.zero_le _) hH1 hS1 (by decide +kernel : decode cJ0_charAt_5068e 12 = .ok (.invokestatic 495, 3)) ?_
  intro H2 locs2 hH2 hS2
  exact jret hx hb hrt hlk (nar_c _ hb128) hH2 hS2 (by decide +kernel)
end JC
/-- String's three on the texts -/
theorem isS_at {r : Nat} (h : isS r = true) : ∃ i, i < 27 ∧ r = 70200 + i ∧ str r = strL.getD i [] := by
  obtain ⟨i, hi, e⟩ := isT_spec h
  refine ⟨i, hi, e, ?_⟩
  unfold str
  rw [e, Nat.add_sub_cancel_left]
theorem orc_con {l : Launch} {D : va_G} {cs : cid} {ad : Nat → Nat} {L : Nat} {xs : Nat → Int32} {base : Nat} : ORC l D cs ad L xs base := by
  intro d k as M Qm hk h
  have r1 : 4 ≤ (rmD d 0).frames := by show 4 ≤ d + 8; omega
  have r2 : 160 ≤ (rmD d 0).locals := by show 160 ≤ 64 * d + 300; omega
  unfold orc at h
  split at h
  · rename_i t
    obtain ⟨i, hi, rfl, e⟩ := isS_at h.1
    rw [e] at h
    rcases h.2 with ⟨rfl, h2⟩ | ⟨rfl, h2⟩
    · exact o_length r1 r2 hi (fun a s o2 t q => ⟨⟨[.int (nI (strL.getD i []).length)], M, q.1.1, Nat.le_refl _, h2, q.1.2⟩, q.2⟩)
    · exact o_isEmpty r1 r2 hi (fun a s o2 t q => ⟨⟨[.int (cond (strL.getD i []).isEmpty 1 0)], M, q.1.1, Nat.le_refl _, h2, q.1.2⟩, q.2⟩)
  · rename_i t x
    obtain ⟨i, hi, rfl, e⟩ := isS_at h.1
    rw [e] at h
    obtain ⟨-, rfl, h2, h3⟩ := h
    have hlen := (tx_small i hi).1
    obtain ⟨k, hk1, hk2, hk3⟩ := in_nat h2 (by omega)
    subst hk2
    rw [hk3] at h3
    exact o_charAt r1 r2 hi hk1 (fun a s o2 t q => ⟨⟨[.int (nI ((strL.getD i []).getD k 0))], M, q.1.1, Nat.le_refl _, h3, q.1.2⟩, q.2⟩)
  · exact h.elim
