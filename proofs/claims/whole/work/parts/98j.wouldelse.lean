/-! The judge: the class's, who would do else. -/
def s18 (wa : Nat → Nat → Nat → Nat) (b f l n : Nat) : Nat := if b = 1 ∨ wa 0 l f < n then 1 else 0
def eUY (y : Nat → Nat) (k : Int) (p q : Nat) (wa : Nat → Nat → Nat → Nat) (s : Nat) : Int := dY y p q (loY y k (wa s)) * ((q : Int) * (y 6 : Int))
def eXY (y : Nat → Nat) (k : Int) (p q : Nat) (fo : Nat → Nat → Nat → Int) (wa : Nat → Nat → Nat → Nat) (s : Nat) (V : Nat → Nat) (f l : Nat) : Int := fo f l (gt V (l - y 3) f) * dY y p q (loY y k (wa s)) * ((q : Int) * (y 6 : Int)) + (p : Int) * aws y (uY y p q (loY y k (wa s)) (paY y fo (wa s) f)) (lowS y k V l) 4
def eBY (y : Nat → Nat) (k : Int) (p q : Nat) (fo : Nat → Nat → Nat → Int) (wa : Nat → Nat → Nat → Nat) (b f l n : Nat) : Bool := decide (n ≠ wa b l f ∧ uY y p q (loY y k (wa b)) (paY y fo (wa b) f) l * eUY y k p q wa (s18 wa b f l n) < eXY y k p q fo wa (s18 wa b f l n) (V1 (wa b l) f n) f l * dY y p q (loY y k (wa b)))
def JS (y : Nat → Nat) (k : Int) (p q : Nat) (fo : Nat → Nat → Nat → Int) (wa : Nat → Nat → Nat → Nat) (N : Mm) : Prop := YC y k fo wa N ∧ SLV 0 y p q (loY y k (wa 0)) (paY y fo (wa 0)) N ∧ SLV 1 y p q (loY y k (wa 1)) (paY y fo (wa 1)) N
theorem aPB_640 : ∀ j, j < 7 → aPumpBy 640 j = false := by decide
theorem SLV.of0 {y : Nat → Nat} {p q : Nat} {lo : Nat → Nat} {pay : Nat → Nat → Int} {M N : Mm} (h : SLV 0 y p q lo pay M) (hF : Fr aPumpBy M N) : SLV 0 y p q lo pay N := by
  obtain ⟨C, ⟨a, b, c⟩, e, g⟩ := h
  exact ⟨C, ⟨by rw [(hF 0 10 rfl).2.1]; exact a, by rw [(hF 0 11 rfl).2.1]; exact b, by rw [(hF 0 9 rfl).2.1]; exact c⟩, e, fun f hf l hl => by rw [(hF (1032 + 64 * 0) _ rfl).2.1]; exact g f hf l hl⟩
theorem SLV.of1 {y : Nat → Nat} {p q : Nat} {lo : Nat → Nat} {pay : Nat → Nat → Int} {M N : Mm} (h : SLV 1 y p q lo pay M) (hF : Fr aPumpBy M N) : SLV 1 y p q lo pay N := by
  obtain ⟨C, ⟨a, b, c⟩, e, g⟩ := h
  exact ⟨C, ⟨by rw [(hF 1 10 rfl).2.1]; exact a, by rw [(hF 1 11 rfl).2.1]; exact b, by rw [(hF 1 9 rfl).2.1]; exact c⟩, e, fun f hf l hl => by rw [(hF (1032 + 64 * 1) _ rfl).2.1]; exact g f hf l hl⟩
theorem JS.of {y : Nat → Nat} {k : Int} {p q : Nat} {fo : Nat → Nat → Nat → Int} {wa : Nat → Nat → Nat → Nat} {M N : Mm} (h : JS y k p q fo wa M) (hF : Fr aPumpBy M N) : JS y k p q fo wa N := ⟨h.1.of hF aPB_640 (fun j => rfl) (fun j => rfl) (fun j => rfl), h.2.1.of0 hF, h.2.2.of1 hF⟩
section EB
variable {y : Nat → Nat} {k : Int} {p q : Nat} {fo : Nat → Nat → Nat → Int} {wa : Nat → Nat → Nat → Nat}
theorem eUY_bd (hb : YB y k) (hpq : p < q) (hq : q ≤ 5) (s : Nat) : 0 < eUY y k p q wa s ∧ eUY y k p q wa s ≤ 512000000000 := by
  obtain ⟨e1, e2⟩ := RY_20 hb hpq hq
  obtain ⟨d1, d2⟩ := dY_bd hb hpq hq (loY y k (wa s))
  exact ⟨Int.mul_pos d1 e1, (bd_mul (show bd 25600000000 (dY y p q (loY y k (wa s))) from ⟨by omega, d2⟩) (show bd 20 ((q : Int) * (y 6 : Int)) from ⟨by omega, e2⟩)).2⟩
theorem paY_bd (hfo : ∀ f l n, f < y 2 → l ≤ y 0 → n < 4 → bd 2448 (fo f l n)) (hwa3 : ∀ b l f, wa b l f ≤ 3) {s f : Nat} (hf : f < y 2) : ∀ i, i < y 0 + 1 → bd 2448 (paY y fo (wa s) f i) := fun i hi => by
  have h1 : gt (wa s i) (i - y 3) f ≤ wa s i f := gt_le
  have h2 := hwa3 s i f
  exact hfo f i _ hf (by omega) (by omega)
theorem eXY_bd (hb : YB y k) (hpq : p < q) (hq : q ≤ 5) (hfo : ∀ f l n, f < y 2 → l ≤ y 0 → n < 4 → bd 2448 (fo f l n)) (hwa3 : ∀ b l f, wa b l f ≤ 3) {s : Nat} {V : Nat → Nat} (hV : ∀ g, V g ≤ 3) {f l : Nat} (hf : f < y 2) (hl : l ≤ y 0) : bd 101523456000000000 (eXY y k p q fo wa s V f l) := by
  obtain ⟨e1, e2⟩ := RY_20 hb hpq hq
  obtain ⟨d1, d2⟩ := dY_bd hb hpq hq (loY y k (wa s))
  have hg : gt V (l - y 3) f ≤ V f := gt_le
  have hg2 := hV f
  have h1 := bd_mul (bd_mul (hfo f l (gt V (l - y 3) f) hf hl (by omega)) (show bd 25600000000 (dY y p q (loY y k (wa s))) from ⟨by omega, d2⟩)) (show bd 20 ((q : Int) * (y 6 : Int)) from ⟨by omega, e2⟩)
  have h2 := aws_bd (y := y) (fun r hr => y_part hb r hr) (R := uY y p q (loY y k (wa s)) (paY y fo (wa s) f)) (X := 1253376000000000) (fun j hj => uY_bd hb hpq hq _ (paY_bd hfo hwa3 hf) (show j < y 0 + 1 by omega)) (lowS y k V l) 4 (by omega)
  have h3 := bd_mul (bd_n (show p ≤ 5 by omega)) h2
  exact bd_le (bd_add h1 h3) (by decide)
end EB
section WE00
variable {d : Nat} {M : Mm} {y : Nat → Nat} {k : Int} {p q : Nat} {fo : Nat → Nat → Nat → Int} {wa : Nat → Nat → Nat → Nat}
set_option maxHeartbeats 1000000 in
theorem we18_00 (hb : YB y k) (hp : p < q) (hq : q ≤ 5) (hwa3 : ∀ b l f, wa b l f ≤ 3) (hfo : ∀ f l n, f < y 2 → l ≤ y 0 → n < 4 → bd 2448 (fo f l n)) {f l n : Nat} (hf : f < y 2) (hl : l ≤ y 0) (hn : n < 4) {t : Bool} {N : Mm} (hF : Fr aPumpBy M N) (hJ : JS y k p q fo wa N) (hv : ∀ g, g < y 2 → g ≠ f → N.1 41995 g = nI (wa 0 l g)) (hs : s18 wa 0 f l n = 0)
    (next : ∀ (o3 o9 o10 o11 : Option Value) N', Fr aPumpBy M N' → (∀ g, g < y 2 → g ≠ f → N'.1 41995 g = nI (wa 0 l g)) → eBY y k p q fo wa 0 f l n = false → WM (d + 5) 18 (fun vs N => vs = [.int (nI (cond t 1 0))] ∧ Fr aPumpBy M N) 156 [some (.ref 128), some (.int (nI f)), some (.int (nI l)), o3, some (.ref 0), some (.long (lz (uY y p q (loY y k (wa 0)) (paY y fo (wa 0) f) l))), none, some (.int (nI (wa 0 l f))), some (.int (nI n)), o9, o10, o11] [] N')
    (hit : eBY y k p q fo wa 0 f l n = true → t = true) (o3 o9 o10 o11 : Option Value) : WM (d + 5) 18 (fun vs N => vs = [.int (nI (cond t 1 0))] ∧ Fr aPumpBy M N) 76 [some (.ref 128), some (.int (nI f)), some (.int (nI l)), o3, some (.ref 0), some (.long (lz (uY y p q (loY y k (wa 0)) (paY y fo (wa 0) f) l))), none, some (.int (nI (wa 0 l f))), some (.int (nI n)), o9, o10, o11] [.ref 0] N := by
  have h2 := hb.2.1.1
  have h0 := hb.1.2.1
  refine go_in (e18_76_2 ⟨nI_in2 (by omega) (by decide), ?_⟩)
  rw [nI_c (by omega)]
  have hF1 : Fr aPumpBy M (sI N 41995 f (nI n)) := hF.sI rfl
  have hJ1 : JS y k p q fo wa (sI N 41995 f (nI n)) := hJ.of (Fr.rf.sI rfl)
  have hV3 := V1_le (v := wa 0 l) (f := f) (n := n) (fun g => hwa3 0 l g) (by omega)
  have hWV : WV y (V1 (wa 0 l) f n) (sI N 41995 f (nI n)) := fun g hg => by
    rw [sI_v]
    unfold V1
    by_cases e : g = f
    · subst e; rw [if_pos ⟨rfl, rfl⟩, if_pos rfl]
    · rw [if_neg (by omega), if_neg e]; exact hv g hg e
  refine useC (upC (c69 (d := d) hJ1.1.1 hb hWV hV3 (show l ≤ 7 by omega)) (by omega)) fun vs N2 h => ?_
  obtain ⟨rfl, hF2, hg, h13, -⟩ := h
  have hF2' : Fr aPumpBy (sI N 41995 f (nI n)) N2 := hF2.up fun k j q => by unfold aPumpBy; rw [q]; exact Bool.or_true _
  have hF3 : Fr aPumpBy M N2 := hF1.tr hF2'
  have hJ2 := hJ1.of hF2'
  have hv2 : ∀ g, g < y 2 → g ≠ f → N2.1 41995 g = nI (wa 0 l g) := fun g hg e => by
    rw [(hF2 41995 g rfl).1, sI_v, if_neg (by omega)]; exact hv g hg e
  have hgl : gt (V1 (wa 0 l) f n) (l - y 3) f ≤ V1 (wa 0 l) f n f := gt_le
  have hgl2 := hV3 f
  refine e18_97_2 (useC (upC (c70 (d := d) hb hJ2.1.2.1 hf hl (n := gt (V1 (wa 0 l) f n) (l - y 3) f) (by omega) (hg f hf)) (by omega)) fun vs N3 h => ?_)
  obtain ⟨rfl, rfl⟩ := h
  refine e18_109_2 ?_
  rw [h13]
  obtain ⟨C, hS, hhb, hu⟩ := hJ2.2.1
  obtain ⟨C', hS', hhb', hu'⟩ := hJ2.2.1
  have hlow : lowS y k (V1 (wa 0 l) f n) l ≤ 7 := by
    unfold lowS
    have := lw_le (v := V1 (wa 0 l) f n) (a := l - y 3) (l := l) (y 2)
    omega
  have hfo1 := hfo f l (gt (V1 (wa 0 l) f n) (l - y 3) f) hf hl (by omega)
  refine useC (upC (c5_0 (d := d) hJ2.1.1 hb hS (show f < 3 by omega) (hu f hf) (bd_i32 (bd_le hfo1 (by decide))) hlow) (by omega)) fun vs N4 h => ?_
  obtain ⟨rfl, rfl⟩ := h
  have eX : fo f l (gt (V1 (wa 0 l) f n) (l - y 3) f) * hbv C p ((q : Int) * (y 6 : Int)) (y 0 + 1) * ((q : Int) * (y 6 : Int)) + (p : Int) * aws y (uY y p q (loY y k (wa 0)) (paY y fo (wa 0) f)) (lowS y k (V1 (wa 0 l) f n) l) 4 = eXY y k p q fo wa 0 (V1 (wa 0 l) f n) f l := by
    unfold eXY hbv
    rw [hhb]
  have e9 : N4.2.1 0 9 = lz (dY y p q (loY y k (wa 0))) := by rw [hS.2.2, hhb]
  have e11 : N4.2.1 0 11 = lz ((q : Int) * (y 6 : Int)) := hS.2.1
  have e9' : N4.2.1 0 9 = lz (dY y p q (loY y k (wa 0))) := by rw [hS'.2.2, hhb']
  rw [eX]
  have hw3 := hwa3 0 l f
  refine e18_119_2 ⟨fun e => ?_, fun e => ?_⟩
  · refine next _ _ _ _ _ hF3 hv2 ?_
    rw [iz_n, iz_n, iz_eq ⟨by omega, by omega⟩ ⟨by omega, by omega⟩] at e
    exact decide_eq_false fun z => z.1 (by omega)
  · have hne : n ≠ wa 0 l f := fun z => e (by rw [← z])
    rw [e9, e11, lz_mul]
    have hX := eXY_bd (s := 0) hb hp hq hfo hwa3 hV3 hf hl
    have hU := eUY_bd (wa := wa) hb hp hq 0
    have hu2 := uY_bd hb hp hq (loY y k (wa 0)) (paY_bd hfo hwa3 hf) (show l < y 0 + 1 by omega) (pay := paY y fo (wa 0) f)
    have hd2 := dY_bd hb hp hq (loY y k (wa 0))
    have hE : eBY y k p q fo wa 0 f l n = decide (uY y p q (loY y k (wa 0)) (paY y fo (wa 0) f) l * eUY y k p q wa 0 < eXY y k p q fo wa 0 (V1 (wa 0 l) f n) f l * dY y p q (loY y k (wa 0))) := by
      unfold eBY
      rw [hs]
      simp only [ne_eq, hne, not_false_eq_true, true_and]
    refine useC (upC (c127 (d := d) (a := eXY y k p q fo wa 0 (V1 (wa 0 l) f n) f l) (b := eUY y k p q wa 0) (c := uY y p q (loY y k (wa 0)) (paY y fo (wa 0) f) l) (e := dY y p q (loY y k (wa 0))) (t := eBY y k p q fo wa 0 f l n) hU.1 hd2.1 (i64_of hX (by decide)) ⟨by omega, by omega⟩ (i64_of hu2 (by decide)) ⟨by omega, by omega⟩ (by rw [hE, decide_eq_true_iff])) (by omega)) fun vs N5 h => ?_
    obtain ⟨rfl, rfl⟩ := h
    cases ht : eBY y k p q fo wa 0 f l n with
    | false => exact e18_151_2 ⟨fun _ => next _ _ _ _ _ hF3 hv2 ht, fun z => absurd rfl z⟩
    | true =>
      refine e18_151_2 ⟨fun z => absurd z (by decide), fun _ => ⟨Or.inr rfl, ?_⟩⟩
      rw [hit ht]
      exact ⟨rfl, rfl, hF3⟩
end WE00
section WE01
variable {d : Nat} {M : Mm} {y : Nat → Nat} {k : Int} {p q : Nat} {fo : Nat → Nat → Nat → Int} {wa : Nat → Nat → Nat → Nat}
set_option maxHeartbeats 1000000 in
theorem we18_01 (hb : YB y k) (hp : p < q) (hq : q ≤ 5) (hwa3 : ∀ b l f, wa b l f ≤ 3) (hfo : ∀ f l n, f < y 2 → l ≤ y 0 → n < 4 → bd 2448 (fo f l n)) {f l n : Nat} (hf : f < y 2) (hl : l ≤ y 0) (hn : n < 4) {t : Bool} {N : Mm} (hF : Fr aPumpBy M N) (hJ : JS y k p q fo wa N) (hv : ∀ g, g < y 2 → g ≠ f → N.1 41995 g = nI (wa 0 l g)) (hs : s18 wa 0 f l n = 1)
    (next : ∀ (o3 o9 o10 o11 : Option Value) N', Fr aPumpBy M N' → (∀ g, g < y 2 → g ≠ f → N'.1 41995 g = nI (wa 0 l g)) → eBY y k p q fo wa 0 f l n = false → WM (d + 5) 18 (fun vs N => vs = [.int (nI (cond t 1 0))] ∧ Fr aPumpBy M N) 156 [some (.ref 128), some (.int (nI f)), some (.int (nI l)), o3, some (.ref 0), some (.long (lz (uY y p q (loY y k (wa 0)) (paY y fo (wa 0) f) l))), none, some (.int (nI (wa 0 l f))), some (.int (nI n)), o9, o10, o11] [] N')
    (hit : eBY y k p q fo wa 0 f l n = true → t = true) (o3 o9 o10 o11 : Option Value) : WM (d + 5) 18 (fun vs N => vs = [.int (nI (cond t 1 0))] ∧ Fr aPumpBy M N) 76 [some (.ref 128), some (.int (nI f)), some (.int (nI l)), o3, some (.ref 0), some (.long (lz (uY y p q (loY y k (wa 0)) (paY y fo (wa 0) f) l))), none, some (.int (nI (wa 0 l f))), some (.int (nI n)), o9, o10, o11] [.ref 1] N := by
  have h2 := hb.2.1.1
  have h0 := hb.1.2.1
  refine go_in (e18_76 ⟨nI_in2 (by omega) (by decide), ?_⟩)
  rw [nI_c (by omega)]
  have hF1 : Fr aPumpBy M (sI N 41995 f (nI n)) := hF.sI rfl
  have hJ1 : JS y k p q fo wa (sI N 41995 f (nI n)) := hJ.of (Fr.rf.sI rfl)
  have hV3 := V1_le (v := wa 0 l) (f := f) (n := n) (fun g => hwa3 0 l g) (by omega)
  have hWV : WV y (V1 (wa 0 l) f n) (sI N 41995 f (nI n)) := fun g hg => by
    rw [sI_v]
    unfold V1
    by_cases e : g = f
    · subst e; rw [if_pos ⟨rfl, rfl⟩, if_pos rfl]
    · rw [if_neg (by omega), if_neg e]; exact hv g hg e
  refine useC (upC (c69 (d := d) hJ1.1.1 hb hWV hV3 (show l ≤ 7 by omega)) (by omega)) fun vs N2 h => ?_
  obtain ⟨rfl, hF2, hg, h13, -⟩ := h
  have hF2' : Fr aPumpBy (sI N 41995 f (nI n)) N2 := hF2.up fun k j q => by unfold aPumpBy; rw [q]; exact Bool.or_true _
  have hF3 : Fr aPumpBy M N2 := hF1.tr hF2'
  have hJ2 := hJ1.of hF2'
  have hv2 : ∀ g, g < y 2 → g ≠ f → N2.1 41995 g = nI (wa 0 l g) := fun g hg e => by
    rw [(hF2 41995 g rfl).1, sI_v, if_neg (by omega)]; exact hv g hg e
  have hgl : gt (V1 (wa 0 l) f n) (l - y 3) f ≤ V1 (wa 0 l) f n f := gt_le
  have hgl2 := hV3 f
  refine e18_97 (useC (upC (c70 (d := d) hb hJ2.1.2.1 hf hl (n := gt (V1 (wa 0 l) f n) (l - y 3) f) (by omega) (hg f hf)) (by omega)) fun vs N3 h => ?_)
  obtain ⟨rfl, rfl⟩ := h
  refine e18_109 ?_
  rw [h13]
  obtain ⟨C, hS, hhb, hu⟩ := hJ2.2.2
  obtain ⟨C', hS', hhb', hu'⟩ := hJ2.2.1
  have hlow : lowS y k (V1 (wa 0 l) f n) l ≤ 7 := by
    unfold lowS
    have := lw_le (v := V1 (wa 0 l) f n) (a := l - y 3) (l := l) (y 2)
    omega
  have hfo1 := hfo f l (gt (V1 (wa 0 l) f n) (l - y 3) f) hf hl (by omega)
  refine useC (upC (c5_1 (d := d) hJ2.1.1 hb hS (show f < 3 by omega) (hu f hf) (bd_i32 (bd_le hfo1 (by decide))) hlow) (by omega)) fun vs N4 h => ?_
  obtain ⟨rfl, rfl⟩ := h
  have eX : fo f l (gt (V1 (wa 0 l) f n) (l - y 3) f) * hbv C p ((q : Int) * (y 6 : Int)) (y 0 + 1) * ((q : Int) * (y 6 : Int)) + (p : Int) * aws y (uY y p q (loY y k (wa 1)) (paY y fo (wa 1) f)) (lowS y k (V1 (wa 0 l) f n) l) 4 = eXY y k p q fo wa 1 (V1 (wa 0 l) f n) f l := by
    unfold eXY hbv
    rw [hhb]
  have e9 : N4.2.1 1 9 = lz (dY y p q (loY y k (wa 1))) := by rw [hS.2.2, hhb]
  have e11 : N4.2.1 1 11 = lz ((q : Int) * (y 6 : Int)) := hS.2.1
  have e9' : N4.2.1 0 9 = lz (dY y p q (loY y k (wa 0))) := by rw [hS'.2.2, hhb']
  rw [eX]
  have hw3 := hwa3 0 l f
  refine e18_119 ⟨fun e => ?_, fun e => ?_⟩
  · refine next _ _ _ _ _ hF3 hv2 ?_
    rw [iz_n, iz_n, iz_eq ⟨by omega, by omega⟩ ⟨by omega, by omega⟩] at e
    exact decide_eq_false fun z => z.1 (by omega)
  · have hne : n ≠ wa 0 l f := fun z => e (by rw [← z])
    rw [e9, e11, e9', lz_mul]
    have hX := eXY_bd (s := 1) hb hp hq hfo hwa3 hV3 hf hl
    have hU := eUY_bd (wa := wa) hb hp hq 1
    have hu2 := uY_bd hb hp hq (loY y k (wa 0)) (paY_bd hfo hwa3 hf) (show l < y 0 + 1 by omega) (pay := paY y fo (wa 0) f)
    have hd2 := dY_bd hb hp hq (loY y k (wa 0))
    have hE : eBY y k p q fo wa 0 f l n = decide (uY y p q (loY y k (wa 0)) (paY y fo (wa 0) f) l * eUY y k p q wa 1 < eXY y k p q fo wa 1 (V1 (wa 0 l) f n) f l * dY y p q (loY y k (wa 0))) := by
      unfold eBY
      rw [hs]
      simp only [ne_eq, hne, not_false_eq_true, true_and]
    refine useC (upC (c127 (d := d) (a := eXY y k p q fo wa 1 (V1 (wa 0 l) f n) f l) (b := eUY y k p q wa 1) (c := uY y p q (loY y k (wa 0)) (paY y fo (wa 0) f) l) (e := dY y p q (loY y k (wa 0))) (t := eBY y k p q fo wa 0 f l n) hU.1 hd2.1 (i64_of hX (by decide)) ⟨by omega, by omega⟩ (i64_of hu2 (by decide)) ⟨by omega, by omega⟩ (by rw [hE, decide_eq_true_iff])) (by omega)) fun vs N5 h => ?_
    obtain ⟨rfl, rfl⟩ := h
    cases ht : eBY y k p q fo wa 0 f l n with
    | false => exact e18_151 ⟨fun _ => next _ _ _ _ _ hF3 hv2 ht, fun z => absurd rfl z⟩
    | true =>
      refine e18_151 ⟨fun z => absurd z (by decide), fun _ => ⟨Or.inr rfl, ?_⟩⟩
      rw [hit ht]
      exact ⟨rfl, rfl, hF3⟩
end WE01
section WE11
variable {d : Nat} {M : Mm} {y : Nat → Nat} {k : Int} {p q : Nat} {fo : Nat → Nat → Nat → Int} {wa : Nat → Nat → Nat → Nat}
set_option maxHeartbeats 1000000 in
theorem we18_11 (hb : YB y k) (hp : p < q) (hq : q ≤ 5) (hwa3 : ∀ b l f, wa b l f ≤ 3) (hfo : ∀ f l n, f < y 2 → l ≤ y 0 → n < 4 → bd 2448 (fo f l n)) {f l n : Nat} (hf : f < y 2) (hl : l ≤ y 0) (hn : n < 4) {t : Bool} {N : Mm} (hF : Fr aPumpBy M N) (hJ : JS y k p q fo wa N) (hv : ∀ g, g < y 2 → g ≠ f → N.1 41995 g = nI (wa 1 l g)) (hs : s18 wa 1 f l n = 1)
    (next : ∀ (o3 o9 o10 o11 : Option Value) N', Fr aPumpBy M N' → (∀ g, g < y 2 → g ≠ f → N'.1 41995 g = nI (wa 1 l g)) → eBY y k p q fo wa 1 f l n = false → WM (d + 5) 18 (fun vs N => vs = [.int (nI (cond t 1 0))] ∧ Fr aPumpBy M N) 156 [some (.ref 128), some (.int (nI f)), some (.int (nI l)), o3, some (.ref 1), some (.long (lz (uY y p q (loY y k (wa 1)) (paY y fo (wa 1) f) l))), none, some (.int (nI (wa 1 l f))), some (.int (nI n)), o9, o10, o11] [] N')
    (hit : eBY y k p q fo wa 1 f l n = true → t = true) (o3 o9 o10 o11 : Option Value) : WM (d + 5) 18 (fun vs N => vs = [.int (nI (cond t 1 0))] ∧ Fr aPumpBy M N) 76 [some (.ref 128), some (.int (nI f)), some (.int (nI l)), o3, some (.ref 1), some (.long (lz (uY y p q (loY y k (wa 1)) (paY y fo (wa 1) f) l))), none, some (.int (nI (wa 1 l f))), some (.int (nI n)), o9, o10, o11] [.ref 1] N := by
  have h2 := hb.2.1.1
  have h0 := hb.1.2.1
  refine go_in (e18_76_1 ⟨nI_in2 (by omega) (by decide), ?_⟩)
  rw [nI_c (by omega)]
  have hF1 : Fr aPumpBy M (sI N 41995 f (nI n)) := hF.sI rfl
  have hJ1 : JS y k p q fo wa (sI N 41995 f (nI n)) := hJ.of (Fr.rf.sI rfl)
  have hV3 := V1_le (v := wa 1 l) (f := f) (n := n) (fun g => hwa3 1 l g) (by omega)
  have hWV : WV y (V1 (wa 1 l) f n) (sI N 41995 f (nI n)) := fun g hg => by
    rw [sI_v]
    unfold V1
    by_cases e : g = f
    · subst e; rw [if_pos ⟨rfl, rfl⟩, if_pos rfl]
    · rw [if_neg (by omega), if_neg e]; exact hv g hg e
  refine useC (upC (c69 (d := d) hJ1.1.1 hb hWV hV3 (show l ≤ 7 by omega)) (by omega)) fun vs N2 h => ?_
  obtain ⟨rfl, hF2, hg, h13, -⟩ := h
  have hF2' : Fr aPumpBy (sI N 41995 f (nI n)) N2 := hF2.up fun k j q => by unfold aPumpBy; rw [q]; exact Bool.or_true _
  have hF3 : Fr aPumpBy M N2 := hF1.tr hF2'
  have hJ2 := hJ1.of hF2'
  have hv2 : ∀ g, g < y 2 → g ≠ f → N2.1 41995 g = nI (wa 1 l g) := fun g hg e => by
    rw [(hF2 41995 g rfl).1, sI_v, if_neg (by omega)]; exact hv g hg e
  have hgl : gt (V1 (wa 1 l) f n) (l - y 3) f ≤ V1 (wa 1 l) f n f := gt_le
  have hgl2 := hV3 f
  refine e18_97_1 (useC (upC (c70 (d := d) hb hJ2.1.2.1 hf hl (n := gt (V1 (wa 1 l) f n) (l - y 3) f) (by omega) (hg f hf)) (by omega)) fun vs N3 h => ?_)
  obtain ⟨rfl, rfl⟩ := h
  refine e18_109_1 ?_
  rw [h13]
  obtain ⟨C, hS, hhb, hu⟩ := hJ2.2.2
  obtain ⟨C', hS', hhb', hu'⟩ := hJ2.2.2
  have hlow : lowS y k (V1 (wa 1 l) f n) l ≤ 7 := by
    unfold lowS
    have := lw_le (v := V1 (wa 1 l) f n) (a := l - y 3) (l := l) (y 2)
    omega
  have hfo1 := hfo f l (gt (V1 (wa 1 l) f n) (l - y 3) f) hf hl (by omega)
  refine useC (upC (c5_1 (d := d) hJ2.1.1 hb hS (show f < 3 by omega) (hu f hf) (bd_i32 (bd_le hfo1 (by decide))) hlow) (by omega)) fun vs N4 h => ?_
  obtain ⟨rfl, rfl⟩ := h
  have eX : fo f l (gt (V1 (wa 1 l) f n) (l - y 3) f) * hbv C p ((q : Int) * (y 6 : Int)) (y 0 + 1) * ((q : Int) * (y 6 : Int)) + (p : Int) * aws y (uY y p q (loY y k (wa 1)) (paY y fo (wa 1) f)) (lowS y k (V1 (wa 1 l) f n) l) 4 = eXY y k p q fo wa 1 (V1 (wa 1 l) f n) f l := by
    unfold eXY hbv
    rw [hhb]
  have e9 : N4.2.1 1 9 = lz (dY y p q (loY y k (wa 1))) := by rw [hS.2.2, hhb]
  have e11 : N4.2.1 1 11 = lz ((q : Int) * (y 6 : Int)) := hS.2.1
  have e9' : N4.2.1 1 9 = lz (dY y p q (loY y k (wa 1))) := by rw [hS'.2.2, hhb']
  rw [eX]
  have hw3 := hwa3 1 l f
  refine e18_119_1 ⟨fun e => ?_, fun e => ?_⟩
  · refine next _ _ _ _ _ hF3 hv2 ?_
    rw [iz_n, iz_n, iz_eq ⟨by omega, by omega⟩ ⟨by omega, by omega⟩] at e
    exact decide_eq_false fun z => z.1 (by omega)
  · have hne : n ≠ wa 1 l f := fun z => e (by rw [← z])
    rw [e9, e11, lz_mul]
    have hX := eXY_bd (s := 1) hb hp hq hfo hwa3 hV3 hf hl
    have hU := eUY_bd (wa := wa) hb hp hq 1
    have hu2 := uY_bd hb hp hq (loY y k (wa 1)) (paY_bd hfo hwa3 hf) (show l < y 0 + 1 by omega) (pay := paY y fo (wa 1) f)
    have hd2 := dY_bd hb hp hq (loY y k (wa 1))
    have hE : eBY y k p q fo wa 1 f l n = decide (uY y p q (loY y k (wa 1)) (paY y fo (wa 1) f) l * eUY y k p q wa 1 < eXY y k p q fo wa 1 (V1 (wa 1 l) f n) f l * dY y p q (loY y k (wa 1))) := by
      unfold eBY
      rw [hs]
      simp only [ne_eq, hne, not_false_eq_true, true_and]
    refine useC (upC (c127 (d := d) (a := eXY y k p q fo wa 1 (V1 (wa 1 l) f n) f l) (b := eUY y k p q wa 1) (c := uY y p q (loY y k (wa 1)) (paY y fo (wa 1) f) l) (e := dY y p q (loY y k (wa 1))) (t := eBY y k p q fo wa 1 f l n) hU.1 hd2.1 (i64_of hX (by decide)) ⟨by omega, by omega⟩ (i64_of hu2 (by decide)) ⟨by omega, by omega⟩ (by rw [hE, decide_eq_true_iff])) (by omega)) fun vs N5 h => ?_
    obtain ⟨rfl, rfl⟩ := h
    cases ht : eBY y k p q fo wa 1 f l n with
    | false => exact e18_151_1 ⟨fun _ => next _ _ _ _ _ hF3 hv2 ht, fun z => absurd rfl z⟩
    | true =>
      refine e18_151_1 ⟨fun z => absurd z (by decide), fun _ => ⟨Or.inr rfl, ?_⟩⟩
      rw [hit ht]
      exact ⟨rfl, rfl, hF3⟩
end WE11
