/-! MATHEMATICS: the characteristic polynomial, its adjugate, and its traces (Faddeev, LeVerrier). -/
def dl (i j : Nat) : Int := if i = j then 1 else 0
theorem dl_s (i : Nat) : dl i i = 1 := if_pos rfl
theorem dl_n {i j : Nat} (h : i ≠ j) : dl i j = 0 := if_neg h
theorem sm_dl (z : Nat → Int) (i : Nat) : ∀ n, sm (fun j => dl i j * z j) n = if i < n then z i else 0
  | 0 => rfl
  | n + 1 => by
    show sm (fun j => dl i j * z j) n + dl i n * z n = _
    rw [sm_dl z i n]
    by_cases h : i < n
    · rw [if_pos h, if_pos (by omega), dl_n (by omega)]; omega
    · rw [if_neg h]
      by_cases e : i = n
      · subst e; rw [dl_s, if_pos (by omega)]; omega
      · rw [dl_n e, if_neg (by omega)]; omega
def AX (W : Nat → Nat → Int) (x : Int) (i c : Nat) : Int := -W i c + dl i c * x
/-- a row told otherwise -/
def rowR (A : Nat → Nat → Int) (i : Nat) (y : Nat → Int) (k c : Nat) : Int := if k = i then y c else A k c
theorem rowR_v (A : Nat → Nat → Int) (i : Nat) (y : Nat → Int) (k c : Nat) : rowR A i y k c = if k = i then y c else A k c := rfl
theorem colR_v (A : Nat → Nat → Int) (j : Nat) (b : Nat → Int) (i c : Nat) : colR A j b i c = if c = j then b i else A i c := rfl
theorem ex_rlin (y z : Nat → Int) (h : Int) : ∀ (cs : List Nat) (F : List Nat → Int), ex (fun c => y c + h * z c) F cs = ex y F cs + h * ex z F cs
  | [], F => by simp [ex]
  | c :: cs, F => by
    have h1 := ex_rlin y z h cs (fun t => F (c :: t))
    show sg cs.length * ((y c + h * z c) * F cs) + ex (fun c => y c + h * z c) (fun t => F (c :: t)) cs = (sg cs.length * (y c * F cs) + ex y (fun t => F (c :: t)) cs) + h * (sg cs.length * (z c * F cs) + ex z (fun t => F (c :: t)) cs)
    rw [h1]; grind
theorem DT_row {A : Nat → Nat → Int} {i : Nat} (y z : Nat → Int) (h : Int) : ∀ (n : Nat) (cs : List Nat), i < n → DT (RWs (rowR A i (fun c => y c + h * z c)) n) cs = DT (RWs (rowR A i y) n) cs + h * DT (RWs (rowR A i z) n) cs
  | 0, _, hi => absurd hi (Nat.not_lt_zero _)
  | n + 1, cs, hi => by
    by_cases e : i = n
    · subst e
      have e1 : ∀ u : Nat → Int, DT (RWs (rowR A i u) (i + 1)) cs = ex u (DT (RWs A i)) cs := fun u => by
        show ex (rowR A i u i) (DT (RWs (rowR A i u) i)) cs = _
        exact ex_cong2 cs _ _ (fun c _ => by unfold rowR; rw [if_pos rfl]) (fun t _ _ => DT_cong i t fun k hk c _ => by unfold rowR; rw [if_neg (by omega)])
      rw [e1, e1, e1, ex_rlin]
    · have e1 : ∀ u : Nat → Int, DT (RWs (rowR A i u) (n + 1)) cs = ex (A n) (DT (RWs (rowR A i u) n)) cs := fun u => by
        show ex (rowR A i u n) (DT (RWs (rowR A i u) n)) cs = _
        exact ex_cong2 cs _ _ (fun c _ => by unfold rowR; rw [if_neg (fun q => e q.symm)]) (fun t _ _ => rfl)
      have ih : ∀ t, DT (RWs (rowR A i (fun c => y c + h * z c)) n) t = 1 * DT (RWs (rowR A i y) n) t + h * DT (RWs (rowR A i z) n) t := fun t => by rw [DT_row y z h n t (by omega)]; omega
      rw [e1, e1, e1, ex_congr (A n) cs _ _ (fun t _ => ih t), ex_lin]
      omega
theorem det_cong {A B : Nat → Nat → Int} {n : Nat} (h : ∀ i c, i < n → c < n → A i c = B i c) : det A n = det B n := DT_cong n _ fun i hi c hc => h i c hi (List.mem_range.mp hc)
/-- the rows before i at x + h, the others at x -/
def mix (W : Nat → Nat → Int) (x h : Int) (i k c : Nat) : Int := if k < i then AX W (x + h) k c else AX W x k c
theorem mix_v (W : Nat → Nat → Int) (x h : Int) (i k c : Nat) : mix W x h i k c = if k < i then AX W (x + h) k c else AX W x k c := rfl
theorem mix_step (W : Nat → Nat → Int) (x h : Int) (n i : Nat) (hi : i < n) : det (mix W x h (i + 1)) n = det (mix W x h i) n + h * det (rowR (mix W x h i) i (dl i)) n := by
  have e1 : det (mix W x h (i + 1)) n = det (rowR (mix W x h i) i (fun c => AX W x i c + h * dl i c)) n := det_cong fun k c hk hc => by
    simp only [rowR_v, mix_v]
    by_cases e : k = i
    · rw [if_pos (by omega), if_pos e, e]
      unfold AX; grind
    · rw [if_neg e]
      by_cases e2 : k < i
      · rw [if_pos (by omega), if_pos e2]
      · rw [if_neg (by omega), if_neg e2]
  have e2 : det (rowR (mix W x h i) i (AX W x i)) n = det (mix W x h i) n := det_cong fun k c hk hc => by
    simp only [rowR_v, mix_v]
    by_cases e : k = i
    · rw [if_pos e, if_neg (by omega), e]
    · rw [if_neg e]
  rw [e1, show det (rowR (mix W x h i) i (fun c => AX W x i c + h * dl i c)) n = det (rowR (mix W x h i) i (AX W x i)) n + h * det (rowR (mix W x h i) i (dl i)) n from DT_row _ _ _ n _ hi, e2]
theorem mix_all (W : Nat → Nat → Int) (x h : Int) (n : Nat) : ∀ m, m ≤ n → det (mix W x h m) n = det (AX W x) n + h * sm (fun i => det (rowR (mix W x h i) i (dl i)) n) m
  | 0, _ => by
    have : det (mix W x h 0) n = det (AX W x) n := det_cong fun k c _ _ => by rw [mix_v, if_neg (by omega)]
    rw [this]; simp [sm]
  | m + 1, hm => by
    rw [mix_step W x h n m (by omega), mix_all W x h n m (by omega)]
    show _ = _ + h * (sm (fun i => det (rowR (mix W x h i) i (dl i)) n) m + det (rowR (mix W x h m) m (dl m)) n)
    grind
/-- with row i the unit: Cramer's number -/
theorem det_unit (A : Nat → Nat → Int) (n i : Nat) (hi : i < n) : det (rowR A i (dl i)) n = crm A n (fun k => dl k i) i := by
  have h1 := cramer_n (rowR A i (dl i)) n (fun k => dl k i) hi
  have h2 : sm (fun j => rowR A i (dl i) i j * crm (rowR A i (dl i)) n (fun k => dl k i) j) n = crm (rowR A i (dl i)) n (fun k => dl k i) i := by
    have : sm (fun j => rowR A i (dl i) i j * crm (rowR A i (dl i)) n (fun k => dl k i) j) n = sm (fun j => dl i j * crm (rowR A i (dl i)) n (fun k => dl k i) j) n := sm_congr fun j _ => by rw [rowR_v, if_pos rfl]
    rw [this, sm_dl, if_pos hi]
  rw [h2, dl_s, Int.mul_one] at h1
  rw [← h1]
  -- the other entries of row i count for nothing
  unfold crm
  let X := colR A i (fun k => dl k i)
  have e1 : det (colR (rowR A i (dl i)) i (fun k => dl k i)) n = det (rowR X i (dl i)) n := det_cong fun k c _ _ => by
    show colR (rowR A i (dl i)) i (fun k => dl k i) k c = rowR (colR A i (fun k => dl k i)) i (dl i) k c
    simp only [colR_v, rowR_v]
    by_cases e : c = i
    · rw [if_pos e, if_pos e, e]
      by_cases e2 : k = i
      · rw [if_pos e2, e2]
      · rw [if_neg e2]
    · rw [if_neg e, if_neg e]
  have e2 : det (rowR X i (fun c => dl i c + 1 * (X i c - dl i c))) n = det X n := det_cong fun k c _ _ => by
    simp only [rowR_v]
    by_cases e : k = i
    · rw [if_pos e, e]; omega
    · rw [if_neg e]
  have e3 : det (rowR X i (fun c => X i c - dl i c)) n = 0 := by
    refine DT_nocol (s := i) _ _ (by rw [List.length_range, RWs_len]) (List.mem_range.mpr hi) fun r hr => ?_
    obtain ⟨k, hk, rfl⟩ := RWs_in hr
    show (if k = i then colR A i (fun k => dl k i) i i - dl i i else colR A i (fun k => dl k i) k i) = 0
    simp only [colR_v, if_true]
    by_cases e : k = i
    · rw [if_pos e]; omega
    · rw [if_neg e, dl_n e]
  have e4 : det (rowR X i (fun c => dl i c + 1 * (X i c - dl i c))) n = det (rowR X i (dl i)) n + 1 * det (rowR X i (fun c => X i c - dl i c)) n := DT_row _ _ _ n _ hi
  rw [e1]
  show det (rowR X i (dl i)) n = det X n
  rw [e2, e3] at e4
  omega
def dq (x h : Int) : Nat → Int
  | 0 => 0
  | k + 1 => (x + h) * dq x h k + x ^ k
theorem dq_ok (x h : Int) : ∀ k, (x + h) ^ k - x ^ k = h * dq x h k
  | 0 => by simp [dq]
  | k + 1 => by
    have ih := dq_ok x h k
    rw [Int.pow_succ, Int.pow_succ]
    show _ = h * ((x + h) * dq x h k + x ^ k)
    have : h * ((x + h) * dq x h k + x ^ k) = (x + h) * (h * dq x h k) + h * x ^ k := by grind
    rw [this, ← ih]; grind
theorem dq_pol (x : Int) : ∀ k, Pol (k + 1) (fun h => dq x h k)
  | 0 => Pol.zero
  | k + 1 => by
    have h1 := ((dq_pol x k).aff x 1).add ((Pol.con (n := 0) (x ^ k)).le (show 1 ≤ k + 2 by omega))
    exact h1.of fun h => by show (x + h) * dq x h k + x ^ k = _; grind
theorem dq_0 (x : Int) : ∀ k, dq x 0 (k + 1) = ((k + 1 : Nat) : Int) * x ^ k
  | 0 => by simp [dq]
  | k + 1 => by
    show (x + 0) * dq x 0 (k + 1) + x ^ (k + 1) = _
    rw [dq_0 x k, Int.pow_succ]
    push_cast
    grind
theorem Pol_at0 {n : Nat} {f g : Int → Int} (hf : Pol n f) (hg : Pol n g) (h : ∀ x, x ≠ 0 → f x = g x) : f 0 = g 0 := by
  obtain ⟨c, hc⟩ := hf
  obtain ⟨e, he⟩ := hg
  have hce := pv_inj (c := c) (e := e) (n := n) (fun x hx => by rw [← hc, ← he, h x hx])
  rw [hc, he]
  exact sm_congr fun k hk => by rw [hce k hk]
