/-! The start: the constructors' contracts. -/
def CL : List Nat := [0, 1, 2, 3, 4, 5, 6, 8, 9, 10, 11, 12]
/-- a constructor's contract -/
def CA (l : Launch) (D : va_G) (cs : cid) (base e0 dd : Nat) : Prop := ∀ (c0 : Nat) (as : List Value) (E E' : List AE), c0 ∈ CL → as.length = naI c0 + 1 → as.all (fun v => isRf [v]) = true → am dd c0 as E = some E' → ∀ g : Nat → Nat, g 70100 = e0 →
  Met l (yI c0) (Cond.code (yI c0) (cI c0) (naI c0 + 1) none :: BIG) (rmI (dd + 1) (E'.length - E.length) (sE E' - sE E)) (PcI D cs base e0 g as E) (QcI D cs base g E.length E') (E'.length - E.length) (sE E' - sE E) (AB base)
section AC
variable {p : Program} {l : Launch} {e : Env} {R : Room} {s : State} {m : MethodId} {args : Array Value} {below : List Frame} {meth : Method} {c : Code}
variable {cc : ByteArray} {n dd mc ms : Nat} {D : va_G} {cs : cid} {base e0 own : Nat}
theorem PcI.blind {g : Nat → Nat} {as : List Value} {E : List AE} : FrameBlind (PcI D cs base e0 g as E) := fun _ _ _ _ h => ⟨h.1, h.2.1, KI.to (s := _) (locs := []) h.2.2 (State.WarmedH.refl _) va_S.rf⟩
theorem naI_le : ∀ c ∈ CL, naI c + 1 ≤ 3 := by decide +kernel
theorem nest_w : ∀ e ∈ liL, e.1 = 11 → (e.2.1 = 9 → e.2.2.1 = 6) ∧ (e.2.1 = 37 → e.2.2.1 = 10) := by decide +kernel
theorem av_of (hc : CI p R s m args c own cc n D cs base e0 (dd + 2) mc ms) (hCA : CA l D cs base e0 dd) : AV p l e R s m args below meth c cc n mc ms own D cs base e0 (am dd) := by
  intro Q pc k c0 as st E E1 hk hlen hcal h8 hrf hd
  refine ⟨mono_c (am_mono dd) hcal, fun g ls H locs cl sl he hls hA hS hcl hsl kk => ?_⟩
  have hc0 := hc
  obtain ⟨hx, hb, hml, hts, hown, hK, hfr, hlo, hmc, hms⟩ := hc
  obtain ⟨x, hx1, a1, a2, a3⟩ := lkf_mem hk
  have hst : ((st.map (rz g)).map fun v => v.category).sum ≤ 8 := Nat.le_trans (cats_le (ad := g) st) (Nat.le_of_ble_eq_true h8)
  obtain ⟨r, t, rfl⟩ : ∃ r t, as = .ref r :: t := by
    cases as with
    | nil => cases hb : Nat.beq c0 99 <;> rw [hb] at hlen <;> cases hlen
    | cons v t =>
      have h2 := (and2 (show (isRf [v] && t.all (fun v => isRf [v])) = true from hrf)).1
      unfold isRf at h2
      split at h2
      · rename_i heq; cases heq; exact ⟨_, _, rfl⟩
      · cases h2
  by_cases e99 : c0 = 99
  · subst e99
    have ht : t = [] := by
      have h1 : (Value.ref r :: t).length = 1 := hlen
      cases t with
      | nil => rfl
      | cons a b => simp at h1
    subst ht
    have hE : E = E1 := Option.some.inj hcal
    subst hE
    have hl : Cond.methodLink (on own) k Lib.objectInit ∈ BIG := by
      rcases link_w x hx1 with q | q
      · exfalso
        have := nest_w x hx1 q.1
        rw [a2, a3] at this
        rcases q.2 with q2 | q2
        · have := this.1 (a2 ▸ q2); omega
        · have := this.2 (a2 ▸ q2); omega
      · rw [a1, a2, a3] at q
        exact big_of q.1 q.2
    refine W.objInit hx hb hown (hts _ hl) (hts _ (big_of ob_w.1.1 ob_w.1.2)) (hts _ (big_of ob_w.2.1 ob_w.2.2)) (g := F0 m pc ls (.ref (g r) :: st.map (rz g))) rfl (by rw [hml]; exact hls) rfl hd (by omega) (show 2 * 0 + _ + 12 ≤ R.locals by omega) ?_
    have := kk g H locs (fun _ _ => rfl) hA hS
    rw [Nat.sub_self, Nat.sub_self] at this
    exact this
  · have hCL : c0 ∈ CL := by
      rcases li_c x hx1 with q | q
      · exact absurd (a3 ▸ q) e99
      · rw [a3] at q; exact q
    have hb99 : Nat.beq c0 99 = false := by
      cases hb : Nat.beq c0 99 with
      | true => exact absurd (beqN hb) e99
      | false => rfl
    rw [hb99] at hcal hlen
    have hcal : am dd c0 (.ref r :: t) E = some E1 := hcal
    have hlen : (Value.ref r :: t).length = naI c0 + 1 := hlen
    have hM := hCA c0 _ E E1 hCL hlen hrf hcal g he
    obtain ⟨w1, w2, w3, w4, w5, w6, w7⟩ := ctor_w c0 hCL
    have hplain : (yI c0).cls ≠ "java/lang/invoke/MethodHandle" ∧ (yI c0).cls ≠ "java/lang/invoke/VarHandle" := by
      have : ∀ c ∈ CL, (yI c).cls ≠ "java/lang/invoke/MethodHandle" ∧ (yI c).cls ≠ "java/lang/invoke/VarHandle" := by decide +kernel
      exact this c0 hCL
    have hna := naI_le c0 hCL
    have hpre : PreS s H (PcI D cs base e0 g (.ref r :: t) E) (.ref (g r) :: t.map (rz g)) := ⟨PcI.blind, fun U hU hW => ⟨rfl, by rw [hU]; exact hA, hK.to hW (locs := locs) (by rw [hU]; exact hS)⟩⟩
    have room : (rmI (dd + 1) (E1.length - E.length) (sE E1 - sE E)).frames + 1 ≤ R.frames ∧ 8 + (naI c0 + 1 + 11) + (rmI (dd + 1) (E1.length - E.length) (sE E1 - sE E)).locals ≤ R.locals := ⟨show dd + 1 + 1 ≤ R.frames by omega, show 8 + (naI c0 + 1 + 11) + (40 * (dd + 1) + 10) ≤ R.locals by omega⟩
    have fin : va_Run p l e R s m args below meth c H locs cl sl (E1.length - E.length) (sE E1 - sE E) (F0 m pc ls (((Value.ref r :: t).reverse ++ st).map (rz g))) (st.map (rz g)) (QcI D cs base g E.length E1 (Value.ref (g r) :: t.map (rz g)).toArray) (AB base) → W p l e R s m args below meth c H locs cl sl Q (F0 m pc ls (((Value.ref r :: t).reverse ++ st).map (rz g))) := by
      intro hr T hT X
      obtain ⟨v, st₀, t2, T', Lc, h0, X', hL, e1, e2, ⟨⟨hv, g', hg', hA'⟩, hz, hkk⟩, stp⟩ := hr T hT X
      cases hv
      rw [h0] at hz hkk
      have hS1 : va_S (AB base) s.heap T'.heap (locs ++ Lc) := ⟨Nat.le_trans hS.1 (by rw [e1]; exact hz), fun q h1 h2 => by rw [e1, hkk q (Nat.lt_of_lt_of_le h1 hS.1) h2]; exact hS.2.1 q h1 h2, fun q hq => by
        rcases List.mem_append.mp hq with h | h
        · exact hS.2.2 q h
        · exact hL q h⟩
      obtain ⟨t3, a4, b4⟩ := kk g' T'.heap (locs ++ Lc) hg' (by rw [e1]; exact hA') hS1 T' rfl X'
      exact ⟨t3, stp t3 a4, b4⟩
    refine fin ?_
    by_cases hn : own = 11 ∧ (k = 9 ∨ k = 37)
    · have hnest : va_Nw (.methodLinkNest (on own) k (yI c0) RX11) s := by
        obtain ⟨o1, o2⟩ := hn
        have hnw := nest_w x hx1 (a1 ▸ o1)
        rw [a2, a3] at hnw
        subst o1
        rcases o2 with rfl | rfl
        · have := hnw.1 rfl; subst this; exact hK.2.2.2.1.1
        · have := hnw.2 rfl; subst this; exact hK.2.2.2.1.2
      exact va_runIN (As := t.map (rz g)) (b := g r) (n := naI c0) ⟨hx, hb, hml, hown, hts⟩ hM ⟨va_cnB (ws' := BIG) (naI c0) hts (good_in _ (big_of w1.1 w1.2)) (Eq.refl _) (Eq.refl _) (Eq.refl _) hnest (hts _ (big_of w2.1 w2.2)) ⟨hplain.1, hplain.2, w7⟩ room, w6, hts _ (big_of w3.1 w3.2)⟩ hpre rfl (by rw [List.length_map]; simpa using hlen) hls (by simp [rz]) (show 2 * 0 + _ ≤ 8 by omega) hd ⟨by omega, by omega⟩
    · have hl : Cond.methodLink (on own) k (yI c0) ∈ BIG := by
        rcases link_w x hx1 with q | q
        · exact absurd ⟨a1 ▸ q.1, a2 ▸ q.2⟩ hn
        · rw [a1, a2, a3] at q
          unfold yJ at q
          rw [hb99] at q
          exact big_of q.1 q.2
      exact va_runI (As := t.map (rz g)) (b := g r) (n := naI c0) ⟨hx, hb, hml, hown, hts⟩ hM ⟨callB_of (ws := Cond.code (yI c0) (cI c0) (naI c0 + 1) none :: BIG) (ws' := BIG) (rm := rmI (dd + 1) (E1.length - E.length) (sE E1 - sE E)) (naI c0) hts (good_in _ (big_of w1.1 w1.2)) (Eq.refl _) (Eq.refl _) (Eq.refl _) (hts _ (big_of w2.1 w2.2)) (hts _ hl) ⟨hplain.1, hplain.2, w7⟩ room, w6, hts _ (big_of w3.1 w3.2)⟩ hpre rfl (by rw [List.length_map]; simpa using hlen) hls (by simp [rz]) (show 2 * 0 + _ ≤ 8 by omega) hd ⟨by omega, by omega⟩
end AC
