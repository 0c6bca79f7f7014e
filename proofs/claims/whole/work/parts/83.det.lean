/-! MATHEMATICS: determinants by rows; Cramer; squares that lean on their diagonal. -/
def sg (n : Nat) : Int := if n % 2 = 0 then 1 else -1
theorem sg_s (n : Nat) : sg (n + 1) = -sg n := by
  unfold sg
  by_cases h : n % 2 = 0
  · rw [if_pos h, if_neg (by omega)]
  · rw [if_neg h, if_pos (by omega)]; rfl
theorem sg_2 (n : Nat) : sg n * sg n = 1 := by
  unfold sg
  split <;> rfl
def ex (r : Nat → Int) : (List Nat → Int) → List Nat → Int
  | _, [] => 0
  | F, c :: cs => sg cs.length * (r c * F cs) + ex r (fun t => F (c :: t)) cs
def DT : List (Nat → Int) → List Nat → Int
  | [], _ => 1
  | r :: rs, cs => ex r (DT rs) cs
theorem ex_lin (r : Nat → Int) (a b : Int) : ∀ (cs : List Nat) (F G : List Nat → Int), ex r (fun t => a * F t + b * G t) cs = a * ex r F cs + b * ex r G cs
  | [], F, G => by simp [ex]
  | c :: cs, F, G => by
    have h := ex_lin r a b cs (fun t => F (c :: t)) (fun t => G (c :: t))
    show sg cs.length * (r c * (a * F cs + b * G cs)) + ex r (fun t => a * F (c :: t) + b * G (c :: t)) cs = a * (sg cs.length * (r c * F cs) + ex r (fun t => F (c :: t)) cs) + b * (sg cs.length * (r c * G cs) + ex r (fun t => G (c :: t)) cs)
    rw [h]
    grind
theorem ex_congr (r : Nat → Int) : ∀ (cs : List Nat) (F G : List Nat → Int), (∀ t, t.length + 1 = cs.length → F t = G t) → ex r F cs = ex r G cs
  | [], F, G, _ => rfl
  | c :: cs, F, G, h => by
    have h1 := ex_congr r cs (fun t => F (c :: t)) (fun t => G (c :: t)) (fun t ht => h (c :: t) (by simp only [List.length_cons]; omega))
    show sg cs.length * (r c * F cs) + ex r (fun t => F (c :: t)) cs = sg cs.length * (r c * G cs) + ex r (fun t => G (c :: t)) cs
    rw [h1, h cs rfl]
theorem ex_zero (r : Nat → Int) (cs : List Nat) : ex r (fun _ => 0) cs = 0 := by
  have h := ex_lin r 0 0 cs (fun _ => 0) (fun _ => 0)
  simp only [Int.zero_mul, Int.add_zero] at h
  exact h
theorem ex_anti (r s : Nat → Int) : ∀ (cs : List Nat) (F : List Nat → Int), ex r (ex s F) cs + ex s (ex r F) cs = 0
  | [], F => rfl
  | c :: cs, F => by
    have key : ∀ r s : Nat → Int, ex r (fun t => ex s F (c :: t)) cs = (-sg cs.length * s c) * ex r F cs + 1 * ex r (ex s (fun t => F (c :: t))) cs := by
      intro r s
      rw [← ex_lin]
      refine ex_congr r cs _ _ fun t ht => ?_
      show sg t.length * (s c * F t) + ex s (fun u => F (c :: u)) t = _
      rw [← ht, sg_s]
      grind
    have h := ex_anti r s cs (fun t => F (c :: t))
    show (sg cs.length * (r c * ex s F cs) + ex r (fun t => ex s F (c :: t)) cs) + (sg cs.length * (s c * ex r F cs) + ex s (fun t => ex r F (c :: t)) cs) = 0
    rw [key r s, key s r]
    grind
theorem DT_dup {r : Nat → Int} : ∀ {rs : List (Nat → Int)}, r ∈ rs → ∀ cs, ex r (DT rs) cs = 0
  | [], h, _ => by cases h
  | m :: rs, h, cs => by
    show ex r (ex m (DT rs)) cs = 0
    have ha := ex_anti r m cs (DT rs)
    rcases List.mem_cons.mp h with e | h
    · subst e; omega
    · have h0 : ex m (ex r (DT rs)) cs = 0 := by
        rw [ex_congr m cs (ex r (DT rs)) (fun _ => 0) (fun t _ => DT_dup h t)]
        exact ex_zero m cs
      omega
/-- neighbours change places: the sign -/
def AS (n : Nat) (F : List Nat → Int) : Prop := ∀ (pre : List Nat) (a b : Nat) (post : List Nat), pre.length + 2 + post.length = n → F (pre ++ a :: b :: post) = -F (pre ++ b :: a :: post)
theorem AS.tail {n : Nat} {F : List Nat → Int} (h : AS (n + 1) F) (c : Nat) : AS n (fun t => F (c :: t)) := fun pre a b post hl => h (c :: pre) a b post (by simp only [List.length_cons]; omega)
theorem ex_neg (r : Nat → Int) (cs : List Nat) (F : List Nat → Int) : ex r (fun t => -F t) cs = -ex r F cs := by
  have h := ex_lin r (-1) 0 cs F (fun _ => 0)
  simp only [Int.zero_mul, Int.add_zero, Int.neg_mul, Int.one_mul] at h
  exact h
theorem ex_as (r : Nat → Int) : ∀ (pre : List Nat) (n : Nat) (F : List Nat → Int), AS n F → ∀ a b post, pre.length + 2 + post.length = n + 1 → ex r F (pre ++ a :: b :: post) = -ex r F (pre ++ b :: a :: post)
  | [], n, F, h, a, b, post, hl => by
    have h1 : ex r (fun u => F (a :: b :: u)) post = -ex r (fun u => F (b :: a :: u)) post := by
      rw [← ex_neg]
      exact ex_congr r post _ _ fun t ht => h [] a b t (by simp only [List.length_nil] at hl ⊢; omega)
    show sg (post.length + 1) * (r a * F (b :: post)) + (sg post.length * (r b * F (a :: post)) + ex r (fun u => F (a :: b :: u)) post) = -(sg (post.length + 1) * (r b * F (a :: post)) + (sg post.length * (r a * F (b :: post)) + ex r (fun u => F (b :: a :: u)) post))
    rw [h1, sg_s]
    grind
  | c :: pre, n, F, h, a, b, post, hl => by
    simp only [List.length_cons] at hl
    obtain ⟨n, rfl⟩ : ∃ m, n = m + 1 := ⟨n - 1, by omega⟩
    have h1 := ex_as r pre n (fun t => F (c :: t)) (h.tail c) a b post (by omega)
    have h2 := h pre a b post (by omega)
    show sg (pre ++ a :: b :: post).length * (r c * F (pre ++ a :: b :: post)) + ex r (fun t => F (c :: t)) (pre ++ a :: b :: post) = -(sg (pre ++ b :: a :: post).length * (r c * F (pre ++ b :: a :: post)) + ex r (fun t => F (c :: t)) (pre ++ b :: a :: post))
    rw [h1, h2, show (pre ++ a :: b :: post).length = (pre ++ b :: a :: post).length by simp]
    grind
theorem DT_as : ∀ rs : List (Nat → Int), AS rs.length (DT rs)
  | [] => fun pre a b post hl => by simp at hl
  | r :: rs => fun pre a b post hl => ex_as r pre rs.length (DT rs) (DT_as rs) a b post hl
theorem AS.mv {s : Nat} : ∀ (t : List Nat) (n : Nat) (F : List Nat → Int), AS n F → t.length + 1 = n → F (t ++ [s]) = sg t.length * F (s :: t)
  | [], n, F, _, _ => by simp [sg]
  | c :: t, n, F, h, hl => by
    simp only [List.length_cons] at hl
    obtain ⟨n, rfl⟩ : ∃ m, n = m + 1 := ⟨n - 1, by omega⟩
    have h1 := AS.mv (s := s) t n (fun u => F (c :: u)) (h.tail c) (by omega)
    have h2 : F (c :: s :: t) = -F (s :: c :: t) := h [] c s t (by simp only [List.length_nil]; omega)
    show F (c :: (t ++ [s])) = sg (t.length + 1) * F (s :: c :: t)
    rw [h1, h2, sg_s]
    grind
/-- each column in its turn replaced by s -/
def smS (y : Nat → Int) : (List Nat → Int) → List Nat → Nat → Int
  | _, [], _ => 0
  | F, c :: t, s => y c * F (s :: t) + smS y (fun u => F (c :: u)) t s
theorem ex_last (y : Nat → Int) (s : Nat) : ∀ (cs : List Nat) (n : Nat) (F : List Nat → Int), AS n F → cs.length = n → ex y F (cs ++ [s]) = y s * F cs - smS y F cs s
  | [], n, F, _, _ => by simp [ex, sg, smS]
  | c :: t, n, F, h, hl => by
    simp only [List.length_cons] at hl
    obtain ⟨n, rfl⟩ : ∃ m, n = m + 1 := ⟨n - 1, by omega⟩
    have h1 := ex_last y s t n (fun u => F (c :: u)) (h.tail c) (by omega)
    have h2 := AS.mv (s := s) t (n + 1) F h (by omega)
    show sg (t ++ [s]).length * (y c * F (t ++ [s])) + ex y (fun u => F (c :: u)) (t ++ [s]) = y s * F (c :: t) - (y c * F (s :: t) + smS y (fun u => F (c :: u)) t s)
    rw [h1, h2, List.length_append, show t.length + [s].length = t.length + 1 from rfl, sg_s]
    have h3 := sg_2 t.length
    grind
theorem cramer {y : Nat → Int} {s : Nat} {rs : List (Nat → Int)} {cs : List Nat} (hy : y ∈ rs) (hl : cs.length = rs.length) : y s * DT rs cs = smS y (DT rs) cs s := by
  have h1 := ex_last y s cs rs.length (DT rs) (DT_as rs) hl
  have h2 := DT_dup hy (cs ++ [s])
  omega
/-- sums -/
def sm (f : Nat → Int) : Nat → Int
  | 0 => 0
  | n + 1 => sm f n + f n
theorem sm_front (f : Nat → Int) : ∀ n, sm f (n + 1) = f 0 + sm (fun j => f (j + 1)) n
  | 0 => by simp [sm]
  | n + 1 => by
    have h := sm_front f n
    show sm f (n + 1) + f (n + 1) = f 0 + (sm (fun j => f (j + 1)) n + f (n + 1))
    rw [h]; omega
theorem sm_congr {f g : Nat → Int} : ∀ {n}, (∀ j, j < n → f j = g j) → sm f n = sm g n
  | 0, _ => rfl
  | n + 1, h => by
    show sm f n + f n = sm g n + g n
    rw [sm_congr (fun j hj => h j (Nat.lt_succ_of_lt hj)), h n (Nat.lt_succ_self n)]
theorem sm_add (f g : Nat → Int) : ∀ n, sm (fun j => f j + g j) n = sm f n + sm g n
  | 0 => rfl
  | n + 1 => by
    show sm (fun j => f j + g j) n + (f n + g n) = (sm f n + f n) + (sm g n + g n)
    rw [sm_add f g n]; omega
theorem sm_mul (a : Int) (f : Nat → Int) : ∀ n, sm (fun j => a * f j) n = a * sm f n
  | 0 => by simp [sm]
  | n + 1 => by
    show sm (fun j => a * f j) n + a * f n = a * (sm f n + f n)
    rw [sm_mul a f n, Int.mul_add]
theorem sm_nonneg {f : Nat → Int} : ∀ {n}, (∀ j, j < n → 0 ≤ f j) → 0 ≤ sm f n
  | 0, _ => Int.le_refl 0
  | n + 1, h => by
    have h1 := sm_nonneg (f := f) (n := n) (fun j hj => h j (Nat.lt_succ_of_lt hj))
    have h2 := h n (Nat.lt_succ_self n)
    show 0 ≤ sm f n + f n
    omega
theorem smS_sm (y : Nat → Int) (s : Nat) : ∀ (cs : List Nat) (F : List Nat → Int), smS y F cs s = sm (fun j => y (cs.getD j 0) * F (cs.set j s)) cs.length
  | [], F => rfl
  | c :: t, F => by
    have h := smS_sm y s t (fun u => F (c :: u))
    show y c * F (s :: t) + smS y (fun u => F (c :: u)) t s = sm (fun j => y ((c :: t).getD j 0) * F ((c :: t).set j s)) (t.length + 1)
    rw [sm_front, h]
    rfl
theorem ex_nocol {r : Nat → Int} {s : Nat} (hr : r s = 0) : ∀ (cs : List Nat) (F : List Nat → Int), (∀ t, t.length + 1 = cs.length → s ∈ t → F t = 0) → s ∈ cs → ex r F cs = 0
  | [], F, _, h => by cases h
  | c :: cs, F, hF, h => by
    show sg cs.length * (r c * F cs) + ex r (fun t => F (c :: t)) cs = 0
    by_cases e : c = s
    · subst e
      rw [hr, ex_congr r cs (fun t => F (c :: t)) (fun _ => 0) (fun t ht => hF (c :: t) (by simp only [List.length_cons]; omega) List.mem_cons_self), ex_zero]
      simp
    · have hs : s ∈ cs := by
        rcases List.mem_cons.mp h with q | q
        · exact absurd q.symm e
        · exact q
      rw [hF cs rfl hs, ex_nocol hr cs (fun t => F (c :: t)) (fun t ht hst => hF (c :: t) (by simp only [List.length_cons]; omega) (List.mem_cons_of_mem _ hst)) hs]
      simp
theorem DT_nocol {s : Nat} : ∀ (rs : List (Nat → Int)) (cs : List Nat), cs.length = rs.length → s ∈ cs → (∀ r ∈ rs, r s = 0) → DT rs cs = 0
  | [], cs, hl, h, _ => by
    have : cs = [] := List.length_eq_zero_iff.mp hl
    rw [this] at h; cases h
  | r :: rs, cs, hl, h, hz => ex_nocol (hz r List.mem_cons_self) cs (DT rs) (fun t ht hst => DT_nocol rs t (by simp only [List.length_cons] at hl; omega) hst (fun q hq => hz q (List.mem_cons_of_mem _ hq))) h
theorem ex_rows {r r' : Nat → Int} : ∀ (cs : List Nat) (F : List Nat → Int), (∀ c ∈ cs, r c = r' c) → ex r F cs = ex r' F cs
  | [], F, _ => rfl
  | c :: cs, F, h => by
    show sg cs.length * (r c * F cs) + ex r (fun t => F (c :: t)) cs = sg cs.length * (r' c * F cs) + ex r' (fun t => F (c :: t)) cs
    rw [h c List.mem_cons_self, ex_rows cs _ (fun q hq => h q (List.mem_cons_of_mem _ hq))]
