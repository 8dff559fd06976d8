/-! counts over the first n values of a function -/
def ti_cn (P : Nat → Bool) (f : Nat → Nat) : Nat → Nat
  | 0 => 0
  | n + 1 => ti_cn P f n + (if P (f n) = true then 1 else 0)
theorem ti_cn_s (P : Nat → Bool) (f : Nat → Nat) (n : Nat) : ti_cn P f (n + 1) = ti_cn P f n + (if P (f n) = true then 1 else 0) := rfl
theorem ti_cn_t {P : Nat → Bool} {f : Nat → Nat} {n : Nat} (h : P (f n) = true) : ti_cn P f (n + 1) = ti_cn P f n + 1 := by rw [ti_cn_s, if_pos h]
theorem ti_cn_f {P : Nat → Bool} {f : Nat → Nat} {n : Nat} (h : ¬ P (f n) = true) : ti_cn P f (n + 1) = ti_cn P f n := by rw [ti_cn_s, if_neg h, Nat.add_zero]
theorem ti_cn_le (P : Nat → Bool) (f : Nat → Nat) : ∀ n, ti_cn P f n ≤ n := by
  intro n
  induction n with
  | zero => exact Nat.le_refl 0
  | succ n ih => rw [ti_cn_s]; split <;> omega
theorem ti_cn_cg {P : Nat → Bool} {f g : Nat → Nat} : ∀ n, (∀ i, i < n → f i = g i) → ti_cn P f n = ti_cn P g n := by
  intro n
  induction n with
  | zero => intro _; rfl
  | succ n ih => intro h; rw [ti_cn_s, ti_cn_s, ih (fun i hi => h i (by omega)), h n (by omega)]
theorem ti_cn_0 {P : Nat → Bool} {f : Nat → Nat} : ∀ n, ti_cn P f n = 0 ↔ ∀ i, i < n → ¬ P (f i) = true := by
  intro n
  induction n with
  | zero => exact ⟨fun _ i hi => absurd hi (Nat.not_lt_zero i), fun _ => rfl⟩
  | succ n ih =>
    by_cases hp : P (f n) = true
    · rw [ti_cn_t hp]
      exact ⟨fun z => absurd z (Nat.succ_ne_zero _), fun z => absurd hp (z n (by omega))⟩
    · rw [ti_cn_f hp, ih]
      refine ⟨fun z i hi => ?_, fun z i hi => z i (by omega)⟩
      rcases Nat.lt_or_ge i n with y | y
      · exact z i y
      · have : i = n := by omega
        rw [this]; exact hp
theorem ti_cn_all {P : Nat → Bool} {f : Nat → Nat} : ∀ n, (∀ i, i < n → P (f i) = true) → ti_cn P f n = n := by
  intro n
  induction n with
  | zero => intro _; rfl
  | succ n ih => intro h; rw [ti_cn_t (h n (by omega)), ih (fun i hi => h i (by omega))]
def ti_lt (k x : Nat) : Bool := decide (x < k)
def ti_is (k x : Nat) : Bool := decide (x = k)
def ti_bg (k l x : Nat) : Bool := decide (ti_pf x l = ti_pf k l)
def ti_gt (g : Nat → Nat) (m x : Nat) : Bool := decide (m < g x + 1)
def ti_same (f g : Nat → Nat) (n : Nat) : Prop := ∀ P : Nat → Bool, ti_cn P f n = ti_cn P g n
theorem ti_mem {f g : Nat → Nat} {n i : Nat} (h : ti_same f g n) (hi : i < n) : ∃ t, t < n ∧ g t = f i := by
  rcases Classical.em (∃ t, t < n ∧ g t = f i) with z | z
  · exact z
  · have a : ti_cn (ti_is (f i)) g n = 0 := (ti_cn_0 n).mpr (fun t ht y => z ⟨t, ht, of_decide_eq_true y⟩)
    rw [← h] at a
    exact absurd (decide_eq_true rfl) ((ti_cn_0 n).mp a i hi)
theorem ti_same_sy {f g : Nat → Nat} {n : Nat} (h : ti_same f g n) : ti_same g f n := fun P => (h P).symm
def ti_so (f : Nat → Nat) (n : Nat) : Prop := ∀ i j, i < j → j < n → f i < f j
theorem ti_rk {f : Nat → Nat} {k : Nat} : ∀ n, ti_so f n → ∀ i, i < n → (f i < k ↔ i < ti_cn (ti_lt k) f n) := by
  intro n
  induction n with
  | zero => intro _ i hi; exact absurd hi (Nat.not_lt_zero i)
  | succ n ih =>
    intro h i hi
    have h' : ti_so f n := fun a b hab hb => h a b hab (by omega)
    by_cases hp : f n < k
    · have a : ∀ j, j < n → f j < k := fun j hj => Nat.lt_trans (h j n hj (by omega)) hp
      rw [ti_cn_t (decide_eq_true hp), ti_cn_all n (fun j hj => decide_eq_true (a j hj))]
      refine ⟨fun _ => hi, fun _ => ?_⟩
      rcases Nat.lt_or_ge i n with y | y
      · exact a i y
      · have : i = n := by omega
        rw [this]; exact hp
    · rw [ti_cn_f (fun z => hp (of_decide_eq_true z))]
      rcases Nat.lt_or_ge i n with y | y
      · exact ih h' i y
      · have e : i = n := by omega
        have := ti_cn_le (ti_lt k) f n
        rw [e]
        exact ⟨fun z => absurd z hp, fun z => by omega⟩
theorem ti_rk_own {f : Nat → Nat} {n r : Nat} (h : ti_so f n) (hr : r < n) : ti_cn (ti_lt (f r)) f n = r := by
  have a := ti_rk (k := f r) n h r hr
  rcases Nat.lt_trichotomy (ti_cn (ti_lt (f r)) f n) r with z | z | z
  · have b := ti_rk (k := f r) n h _ (Nat.lt_trans z hr)
    have c := h _ r z hr
    have := b.mp c
    omega
  · exact z
  · have := a.mpr z
    omega
/-- the key stands in a sorted row if and only if it stands at its rank -/
theorem ti_at {f : Nat → Nat} {n k i : Nat} (h : ti_so f n) (hi : i < n) (e : f i = k) : ti_cn (ti_lt k) f n = i := by
  rw [← e]; exact ti_rk_own h hi
def ti_ins (f : Nat → Nat) (r k : Nat) : Nat → Nat := fun i => if i < r then f i else if i = r then k else f (i - 1)
def ti_del (f : Nat → Nat) (r : Nat) : Nat → Nat := fun i => if i < r then f i else f (i + 1)
def ti_rep (f : Nat → Nat) (t x : Nat) : Nat → Nat := fun i => if i = t then x else f i
theorem ti_ins_lo {f : Nat → Nat} {r k i : Nat} (h : i < r) : ti_ins f r k i = f i := if_pos h
theorem ti_ins_at {f : Nat → Nat} {r k : Nat} : ti_ins f r k r = k := by unfold ti_ins; rw [if_neg (Nat.lt_irrefl r), if_pos rfl]
theorem ti_ins_hi {f : Nat → Nat} {r k i : Nat} (h : r ≤ i) : ti_ins f r k (i + 1) = f i := by unfold ti_ins; rw [if_neg (by omega), if_neg (by omega)]; rfl
theorem ti_del_lo {f : Nat → Nat} {r i : Nat} (h : i < r) : ti_del f r i = f i := if_pos h
theorem ti_del_hi {f : Nat → Nat} {r i : Nat} (h : r ≤ i) : ti_del f r i = f (i + 1) := if_neg (by omega)
theorem ti_rep_at {f : Nat → Nat} {t x : Nat} : ti_rep f t x t = x := if_pos rfl
theorem ti_rep_ne {f : Nat → Nat} {t x i : Nat} (h : i ≠ t) : ti_rep f t x i = f i := if_neg h
theorem ti_ins_cn (P : Nat → Bool) (f : Nat → Nat) (r k : Nat) : ∀ d, ti_cn P (ti_ins f r k) (r + d + 1) = ti_cn P f (r + d) + (if P k = true then 1 else 0) := by
  intro d
  induction d with
  | zero => rw [ti_cn_s, ti_cn_cg r (fun i hi => ti_ins_lo hi), Nat.add_zero, ti_ins_at]
  | succ d ih =>
    rw [ti_cn_s, show r + (d + 1) = r + d + 1 from rfl, ih, ti_cn_s, ti_ins_hi (by omega)]
    omega
theorem ti_del_cn (P : Nat → Bool) (f : Nat → Nat) (r : Nat) : ∀ d, ti_cn P f (r + d + 1) = ti_cn P (ti_del f r) (r + d) + (if P (f r) = true then 1 else 0) := by
  intro d
  induction d with
  | zero => rw [ti_cn_s, Nat.add_zero, ti_cn_cg (f := ti_del f r) r (fun i hi => ti_del_lo hi)]
  | succ d ih =>
    rw [ti_cn_s, show r + (d + 1) = r + d + 1 from rfl, ih, ti_cn_s, ti_del_hi (by omega)]
    omega
theorem ti_rep_cn (P : Nat → Bool) (f : Nat → Nat) (t x : Nat) : ∀ d, ti_cn P (ti_rep f t x) (t + d + 1) + (if P (f t) = true then 1 else 0) = ti_cn P f (t + d + 1) + (if P x = true then 1 else 0) := by
  intro d
  induction d with
  | zero =>
    rw [ti_cn_s, ti_cn_s, ti_cn_cg (f := ti_rep f t x) (g := f) t (fun i hi => ti_rep_ne (by omega)), ti_rep_at]
    omega
  | succ d ih =>
    rw [ti_cn_s, show t + (d + 1) = t + d + 1 from rfl, ti_cn_s P f (t + d + 1), ti_rep_ne (by omega)]
    omega
theorem ti_rep_last (P : Nat → Bool) (f : Nat → Nat) {t n : Nat} (h : t ≤ n) : ti_cn P f (n + 1) = ti_cn P (ti_rep f t (f n)) n + (if P (f t) = true then 1 else 0) := by
  rcases Nat.lt_or_ge t n with z | z
  · obtain ⟨d, rfl⟩ : ∃ d, n = t + d + 1 := ⟨n - t - 1, by omega⟩
    rw [ti_cn_s, ti_rep_cn]
  · have e : t = n := by omega
    subst e
    rw [ti_cn_s, ti_cn_cg (f := ti_rep f t (f t)) (g := f) t (fun i hi => ti_rep_ne (by omega))]
theorem ti_ins_so {f : Nat → Nat} {n k : Nat} (h : ti_so f n) (hn : ∀ i, i < n → f i ≠ k) : ti_so (ti_ins f (ti_cn (ti_lt k) f n) k) (n + 1) := by
  have hr := ti_rk (k := k) n h
  have hle := ti_cn_le (ti_lt k) f n
  generalize ti_cn (ti_lt k) f n = r at hr hle
  intro i j hij hj
  have lo : ∀ a, a < n → a < r → f a < k := fun a ha har => (hr a ha).mpr har
  have hi : ∀ a, a < n → r ≤ a → k < f a := fun a ha har => by
    have h1 : ¬ f a < k := fun z => by have := (hr a ha).mp z; omega
    have h2 := hn a ha
    omega
  rcases Nat.lt_trichotomy j r with y | y | y
  · rw [ti_ins_lo y, ti_ins_lo (by omega)]; exact h i j hij (by omega)
  · rw [y, ti_ins_at, ti_ins_lo (by omega)]; exact lo i (by omega) (by omega)
  · obtain ⟨b, rfl⟩ : ∃ b, j = b + 1 := ⟨j - 1, by omega⟩
    rw [ti_ins_hi (by omega)]
    rcases Nat.lt_trichotomy i r with x | x | x
    · rw [ti_ins_lo x]; exact h i b (by omega) (by omega)
    · rw [x, ti_ins_at]; exact hi b (by omega) (by omega)
    · obtain ⟨a, rfl⟩ : ∃ a, i = a + 1 := ⟨i - 1, by omega⟩
      rw [ti_ins_hi (by omega)]; exact h a b (by omega) (by omega)
theorem ti_del_so {f : Nat → Nat} {n r : Nat} (h : ti_so f (n + 1)) : ti_so (ti_del f r) n := by
  intro i j hij hj
  rcases Nat.lt_or_ge j r with y | y
  · rw [ti_del_lo y, ti_del_lo (by omega)]; exact h i j hij (by omega)
  · rw [ti_del_hi y]
    rcases Nat.lt_or_ge i r with x | x
    · rw [ti_del_lo x]; exact h i (j + 1) (by omega) (by omega)
    · rw [ti_del_hi x]; exact h (i + 1) (j + 1) (by omega) (by omega)
/-- one more than the greatest g over the first n values, 0 if there is none -/
def ti_mx (g f : Nat → Nat) : Nat → Nat
  | 0 => 0
  | n + 1 => if ti_mx g f n < g (f n) + 1 then g (f n) + 1 else ti_mx g f n
theorem ti_mx_le (g f : Nat → Nat) (m : Nat) : ∀ n, ti_mx g f n ≤ m ↔ ti_cn (ti_gt g m) f n = 0 := by
  intro n
  induction n with
  | zero => exact ⟨fun _ => rfl, fun _ => Nat.zero_le m⟩
  | succ n ih =>
    have e : ti_mx g f (n + 1) = if ti_mx g f n < g (f n) + 1 then g (f n) + 1 else ti_mx g f n := rfl
    rw [e]
    by_cases hp : m < g (f n) + 1
    · rw [ti_cn_t (decide_eq_true hp)]
      split <;> omega
    · rw [ti_cn_f (fun z => hp (of_decide_eq_true z)), ← ih]
      split <;> omega
theorem ti_mx_same {f f' : Nat → Nat} {n : Nat} (g : Nat → Nat) (h : ti_same f f' n) : ti_mx g f n = ti_mx g f' n := by
  have a := (ti_mx_le g f (ti_mx g f' n) n).mpr (by rw [h]; exact (ti_mx_le g f' _ n).mp (Nat.le_refl _))
  have b := (ti_mx_le g f' (ti_mx g f n) n).mpr (by rw [← h]; exact (ti_mx_le g f _ n).mp (Nat.le_refl _))
  omega
theorem ti_mx_b {g f : Nat → Nat} {b : Nat} : ∀ n, (∀ i, i < n → g (f i) < b) → ti_mx g f n ≤ b := by
  intro n
  induction n with
  | zero => intro _; exact Nat.zero_le b
  | succ n ih =>
    intro h
    have e : ti_mx g f (n + 1) = if ti_mx g f n < g (f n) + 1 then g (f n) + 1 else ti_mx g f n := rfl
    have h1 := ih (fun i hi => h i (by omega))
    have h2 := h n (by omega)
    rw [e]
    split <;> omega
