/-! pure numbers: a row of letters as a number of six digits, four bits each -/
def ti_pf (c i : Nat) : Nat := c / 2 ^ (4 * (6 - i))
def ti_dg (c i : Nat) : Nat := ti_pf c (i + 1) % 16
def ti_ok (c l : Nat) : Prop := l ≤ 6 ∧ c < 16777216 ∧ (∀ i, i < l → 1 ≤ ti_dg c i ∧ ti_dg c i ≤ 10) ∧ c % 2 ^ (4 * (6 - l)) = 0
theorem ti_pf_s (c : Nat) {i : Nat} (h : i < 6) : ti_pf c (i + 1) = ti_pf c i * 16 + ti_dg c i := by
  have e : 4 * (6 - i) = 4 * (6 - (i + 1)) + 4 := by omega
  have h1 : ti_pf c i = ti_pf c (i + 1) / 16 := by
    unfold ti_pf
    rw [e, Nat.pow_add, ← Nat.div_div_eq_div_mul]
  unfold ti_dg
  rw [h1]
  omega
theorem ti_pf_0 {c : Nat} (h : c < 16777216) : ti_pf c 0 = 0 := Nat.div_eq_of_lt h
theorem ti_pf_6 (c : Nat) : ti_pf c 6 = c := Nat.div_one c
theorem ti_mono {c k i : Nat} (h : ti_pf c i < ti_pf k i) : c < k := by
  rcases Nat.lt_or_ge c k with h1 | h1
  · exact h1
  · have := Nat.div_le_div_right (c := 2 ^ (4 * (6 - i))) h1
    unfold ti_pf at h
    omega
theorem ti_pf_split (c : Nat) {i l : Nat} (h : i ≤ l) (hl : l ≤ 6) : ti_pf c i = ti_pf c l / 2 ^ (4 * (l - i)) := by
  have e : 4 * (6 - i) = 4 * (6 - l) + 4 * (l - i) := by omega
  unfold ti_pf
  rw [e, Nat.pow_add, Nat.div_div_eq_div_mul]
theorem ti_pf_add {k l x i : Nat} (hm : k % 2 ^ (4 * (6 - l)) = 0) (hx : x < 2 ^ (4 * (6 - l))) (hi : i ≤ l) (hl : l ≤ 6) : ti_pf (k + x) i = ti_pf k i := by
  rw [ti_pf_split _ hi hl, ti_pf_split k hi hl]
  have h : ti_pf (k + x) l = ti_pf k l := by
    unfold ti_pf
    obtain ⟨m, rfl⟩ := Nat.dvd_of_mod_eq_zero hm
    rw [Nat.mul_add_div (Nat.two_pow_pos _), Nat.div_eq_of_lt hx, Nat.mul_div_cancel_left _ (Nat.two_pow_pos _)]
    omega
  rw [h]
theorem ti_dg_add {k l x i : Nat} (hm : k % 2 ^ (4 * (6 - l)) = 0) (hx : x < 2 ^ (4 * (6 - l))) (hi : i < l) (hl : l ≤ 6) : ti_dg (k + x) i = ti_dg k i := by
  unfold ti_dg
  rw [ti_pf_add hm hx hi hl]
theorem ti_dg_lt (c i : Nat) : ti_dg c i < 16 := Nat.mod_lt _ (by decide)
theorem ti_dg0 {c l i : Nat} (h : ti_ok c l) (hl : l ≤ i) (hi : i < 6) : ti_dg c i = 0 := by
  obtain ⟨_, _, _, hm⟩ := h
  obtain ⟨m, rfl⟩ := Nat.dvd_of_mod_eq_zero hm
  have e : 4 * (6 - l) = 4 * (6 - (i + 1)) + (4 * (i - l) + 4) := by omega
  unfold ti_dg ti_pf
  rw [e, Nat.pow_add, Nat.mul_assoc, Nat.mul_div_cancel_left _ (Nat.two_pow_pos _), Nat.pow_add, Nat.mul_right_comm]
  exact Nat.mul_mod_left _ _
theorem ti_ok_u {c l l' : Nat} (h : ti_ok c l) (h' : ti_ok c l') : l = l' := by
  rcases Nat.lt_trichotomy l l' with a | a | a
  · have := (h'.2.2.1 l a).1
    have := ti_dg0 h (Nat.le_refl l) (by have := h'.1; omega)
    omega
  · exact a
  · have := (h.2.2.1 l' a).1
    have := ti_dg0 h' (Nat.le_refl l') (by have := h.1; omega)
    omega
theorem ti_mod_up {k l i : Nat} (hm : k % 2 ^ (4 * (6 - l)) = 0) (h : l ≤ i) : k % 2 ^ (4 * (6 - i)) = 0 := by
  have e : 4 * (6 - l) = 4 * (6 - i) + (4 * (6 - l) - 4 * (6 - i)) := by omega
  rw [e, Nat.pow_add] at hm
  exact Nat.mod_eq_zero_of_dvd (Nat.dvd_trans (Nat.dvd_mul_right _ _) (Nat.dvd_of_mod_eq_zero hm))
theorem ti_ge {c k l i : Nat} (h : ti_ok k l) (hl : l ≤ i) (e : ti_pf c i = ti_pf k i) : k ≤ c := by
  have hm := ti_mod_up h.2.2.2 hl
  unfold ti_pf at e
  have h1 := Nat.div_add_mod k (2 ^ (4 * (6 - i)))
  rw [hm, ← e] at h1
  have h2 := Nat.mul_div_le c (2 ^ (4 * (6 - i)))
  omega
theorem ti_pf_eq {c k : Nat} (hc : c < 16777216) (hk : k < 16777216) : ∀ r, r ≤ 6 → (∀ i, i < r → ti_dg c i = ti_dg k i) → ti_pf c r = ti_pf k r := by
  intro r
  induction r with
  | zero => intro _ _; rw [ti_pf_0 hc, ti_pf_0 hk]
  | succ r ih =>
    intro hr h
    rw [ti_pf_s c (by omega), ti_pf_s k (by omega), ih (by omega) (fun i hi => h i (by omega)), h r (by omega)]
theorem ti_dg_of_pf {c k i l : Nat} (e : ti_pf c l = ti_pf k l) (hi : i < l) (hl : l ≤ 6) : ti_dg c i = ti_dg k i := by
  unfold ti_dg
  rw [ti_pf_split c (show i + 1 ≤ l from hi) hl, ti_pf_split k (show i + 1 ≤ l from hi) hl, e]
theorem ti_pf_step {c k i : Nat} (h : i < 6) (e : ti_pf c i = ti_pf k i) : ti_pf c (i + 1) = ti_pf k (i + 1) ↔ ti_dg c i = ti_dg k i := by
  rw [ti_pf_s c h, ti_pf_s k h, e]
  omega
theorem ti_lt_dg {c k i : Nat} (h : i < 6) (e : ti_pf c i = ti_pf k i) (hd : ti_dg c i < ti_dg k i) : c < k := by
  apply ti_mono (i := i + 1)
  rw [ti_pf_s c h, ti_pf_s k h, e]
  omega
/-- how many first digits of c and k agree, up to kl -/
def ti_sA (c k kl : Nat) : Nat → Nat → Nat
  | 0, i => i
  | f + 1, i => if i < kl ∧ ti_dg c i = ti_dg k i then ti_sA c k kl f (i + 1) else i
def ti_sh (c k kl : Nat) : Nat := ti_sA c k kl kl 0
theorem ti_sA_spec (c k kl : Nat) : ∀ f i, i + f = kl → (∀ j, j < i → ti_dg c j = ti_dg k j) → ti_sA c k kl f i ≤ kl ∧ (∀ j, j < ti_sA c k kl f i → ti_dg c j = ti_dg k j) ∧ (ti_sA c k kl f i < kl → ti_dg c (ti_sA c k kl f i) ≠ ti_dg k (ti_sA c k kl f i)) := by
  intro f
  induction f with
  | zero => intro i hi h; exact ⟨by unfold ti_sA; omega, h, fun z => by unfold ti_sA at z; omega⟩
  | succ f ih =>
    intro i hi h
    by_cases hc : i < kl ∧ ti_dg c i = ti_dg k i
    · have e : ti_sA c k kl (f + 1) i = ti_sA c k kl f (i + 1) := by rw [ti_sA, if_pos hc]
      rw [e]
      exact ih (i + 1) (by omega) (fun j hj => by
        rcases Nat.lt_or_ge j i with z | z
        · exact h j z
        · have : j = i := by omega
          rw [this]; exact hc.2)
    · have e : ti_sA c k kl (f + 1) i = i := by rw [ti_sA, if_neg hc]
      rw [e]
      exact ⟨by omega, h, fun z y => hc ⟨z, y⟩⟩
theorem ti_sh_spec (c k kl : Nat) : ti_sh c k kl ≤ kl ∧ (∀ j, j < ti_sh c k kl → ti_dg c j = ti_dg k j) ∧ (ti_sh c k kl < kl → ti_dg c (ti_sh c k kl) ≠ ti_dg k (ti_sh c k kl)) := ti_sA_spec c k kl kl 0 (by omega) (fun j hj => absurd hj (Nat.not_lt_zero j))
theorem ti_sh_pf {c k kl : Nat} (hc : c < 16777216) (hk : k < 16777216) (hl : kl ≤ 6) : ti_pf c (ti_sh c k kl) = ti_pf k (ti_sh c k kl) := by
  have h := ti_sh_spec c k kl
  exact ti_pf_eq hc hk _ (by omega) h.2.1
theorem ti_sh_all {c k kl : Nat} (hc : c < 16777216) (hk : k < 16777216) (hl : kl ≤ 6) : ti_sh c k kl = kl ↔ ti_pf c kl = ti_pf k kl := by
  constructor
  · intro e
    have h := ti_sh_pf hc hk hl
    rwa [e] at h
  · intro e
    have h := ti_sh_spec c k kl
    rcases Nat.lt_or_ge (ti_sh c k kl) kl with z | z
    · exact absurd (ti_dg_of_pf e z hl) (h.2.2 z)
    · omega
theorem ti_sh_same {c l k kl : Nat} (hc : ti_ok c l) (hk : ti_ok k kl) (e : l = kl) : ti_sh c k kl = kl ↔ c = k := by
  rw [ti_sh_all hc.2.1 hk.2.1 hk.1]
  constructor
  · intro h
    have a := ti_ge hk (Nat.le_refl kl) h
    have b := ti_ge hc (Nat.le_of_eq e) h.symm
    omega
  · intro h; rw [h]
