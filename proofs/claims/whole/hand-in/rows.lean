section
/-! rows pasted from kit/rows (starting texts) -/
theorem pk_us {f : Nat → Int32} {k : Nat} {x : Int32} : upd f k x k = x := if_pos rfl
theorem pk_un {f : Nat → Int32} {k j : Nat} {x : Int32} (h : j ≠ k) : upd f k x j = f j := if_neg h
theorem pk_sub {a b : Nat} (h : b ≤ a) : nI a - nI b = nI (a - b) := by
  obtain ⟨c, rfl⟩ : ∃ c, a = c + b := ⟨a - b, by omega⟩
  rw [← nI_add, Int32.add_sub_cancel, Nat.add_sub_cancel]
theorem pk_m1 (n : Nat) : nI (n + 1) + (-1) = nI n := by
  rw [← nI_1, Int32.add_assoc, show (1 : Int32) + (-1) = 0 from rfl, Int32.add_zero]
theorem pk_mul (a b : Nat) : nI a * nI b = nI (a * b) := (Int32.ofNat_mul a b).symm
theorem pk_ix (x : Int32) {n : Nat} (hn : n < 2 ^ 31) : x < 0 ∨ nI n ≤ x ∨ ∃ j : Nat, j < n ∧ x = nI j := by
  by_cases h : x < 0
  · exact Or.inl h
  · obtain ⟨j, hj, rfl⟩ := nI_of h
    by_cases h2 : j < n
    · exact Or.inr (Or.inr ⟨j, h2, rfl⟩)
    · exact Or.inr (Or.inl (nI_le (by omega) hj))
theorem pk_le {x y : Int32} {A B : Prop} (a b : Nat) (f : a ≤ b → A) (g : b < a → B) (hx : x = nI a := by rfl) (hy : y = nI b := by rfl) (ha : a < 2 ^ 31 := by omega) (hb : b < 2 ^ 31 := by omega) : (x ≤ y → A) ∧ (¬ x ≤ y → B) := by
  subst hx hy
  rw [nI_leI ha hb]
  exact ⟨f, fun z => g (by omega)⟩
theorem pk_lt {x y : Int32} {A B : Prop} (a b : Nat) (f : a < b → A) (g : b ≤ a → B) (hx : x = nI a := by rfl) (hy : y = nI b := by rfl) (ha : a < 2 ^ 31 := by omega) (hb : b < 2 ^ 31 := by omega) : (x < y → A) ∧ (¬ x < y → B) := by
  subst hx hy
  rw [nI_ltI ha hb]
  exact ⟨f, fun z => g (by omega)⟩
theorem pk_eq {x y : Int32} {A B : Prop} (a b : Nat) (f : a = b → A) (g : a ≠ b → B) (hx : x = nI a := by rfl) (hy : y = nI b := by rfl) (ha : a < 2 ^ 31 := by omega) (hb : b < 2 ^ 31 := by omega) : (x = y → A) ∧ (¬ x = y → B) := by
  subst hx hy
  rw [nI_eq ha hb]
  exact ⟨f, g⟩
theorem pk_in {x : Int32} (n N : Nat) (h : n < N) (hx : x = nI n := by rfl) (hN : N < 2 ^ 31 := by omega) : vp_in x N := by
  subst hx
  exact vp_in_nI h hN
theorem pk_cl {x : Int32} (n : Nat) (hx : x = nI n := by rfl) (h : n < 2 ^ 31 := by omega) : x.toNatClampNeg = n := by
  subst hx
  exact nI_clamp h
theorem pk_tn {n : Nat} (h : n < 2 ^ 32) : (nI n).toBitVec.toNat = n := Nat.mod_eq_of_lt h
theorem pk_and (x : Int32) {m : Int32} (k : Nat) (hm : m.toBitVec.toNat = 2 ^ k - 1) : x &&& m = nI (x.toBitVec.toNat % 2 ^ k) := by
  apply Int32.toBitVec_inj.mp
  apply BitVec.eq_of_toNat_eq
  rw [Int32.toBitVec_and, BitVec.toNat_and, hm, Nat.and_two_pow_sub_one_eq_mod]
  show _ = (BitVec.ofNat 32 _).toNat
  rw [BitVec.toNat_ofNat]
  exact (Nat.mod_eq_of_lt (Nat.lt_of_le_of_lt (Nat.mod_le _ _) x.toBitVec.isLt)).symm
theorem pk_andN {n : Nat} (h : n < 2 ^ 32) {m : Int32} (k : Nat) (hm : m.toBitVec.toNat = 2 ^ k - 1) : nI n &&& m = nI (n % 2 ^ k) := by
  rw [pk_and _ k hm, pk_tn h]
theorem pk_shl (a s : Int32) (k : Nat) (hs : (s.toBitVec.smod 32).toNat = k) : (a <<< s).toBitVec.toNat = a.toBitVec.toNat * 2 ^ k % 2 ^ 32 := by
  show (a.toBitVec <<< (s.toBitVec.smod 32).toNat).toNat = _
  rw [hs, BitVec.toNat_shiftLeft, Nat.shiftLeft_eq]
theorem pk_shlN {n : Nat} (s : Int32) (k : Nat) (hs : (s.toBitVec.smod 32).toNat = k) (h : n * 2 ^ k < 2 ^ 32) : nI n <<< s = nI (n * 2 ^ k) := by
  apply Int32.toBitVec_inj.mp
  apply BitVec.eq_of_toNat_eq
  have hn : n < 2 ^ 32 := Nat.lt_of_le_of_lt (Nat.le_mul_of_pos_right n (Nat.two_pow_pos k)) h
  rw [pk_shl _ _ k hs, pk_tn hn, pk_tn h, Nat.mod_eq_of_lt h]
theorem pk_shr (a s : Int32) (k : Nat) (hs : (s.toBitVec.smod 32).toNat = k) : (a >>> s).toInt = a.toInt >>> k := by
  show (a.toBitVec.sshiftRight (s.toBitVec.smod 32).toNat).toInt = _
  rw [hs, BitVec.toInt_sshiftRight]
  rfl
theorem pk_shrN {n : Nat} (h : n < 2 ^ 31) (s : Int32) (k : Nat) (hs : (s.toBitVec.smod 32).toNat = k) : nI n >>> s = nI (n / 2 ^ k) := by
  apply Int32.toInt_inj.mp
  have h2 : n / 2 ^ k ≤ n := Nat.div_le_self _ _
  rw [pk_shr _ _ k hs, nI_toInt h, nI_toInt (by omega), Int.shiftRight_eq_div_pow]
  rfl
def bt (x : Int32) (i : Nat) : Bool := x.toBitVec.getLsbD i
theorem b_ext {x y : Int32} (h : ∀ i, i < 32 → bt x i = bt y i) : x = y := Int32.toBitVec_inj.mp (BitVec.eq_of_getLsbD_eq (fun i hi => h i hi))
theorem b_or (x y : Int32) (i : Nat) : bt (x ||| y) i = (bt x i || bt y i) := by unfold bt; rw [Int32.toBitVec_or, BitVec.getLsbD_or]
theorem b_and (x y : Int32) (i : Nat) : bt (x &&& y) i = (bt x i && bt y i) := by unfold bt; rw [Int32.toBitVec_and, BitVec.getLsbD_and]
theorem b_xor (x y : Int32) (i : Nat) : bt (x ^^^ y) i = (bt x i ^^ bt y i) := by unfold bt; rw [Int32.toBitVec_xor, BitVec.getLsbD_xor]
theorem b_m1 : ∀ i, i < 32 → bt (-1) i = true := by decide +kernel
theorem s_l : ∀ n, n < 32 → ((nI n &&& 31).toBitVec.smod 32).toNat = n := by decide +kernel
theorem b_shl (n : Nat) (hn : n < 32) (x : Int32) {i : Nat} (hi : i < 32) : bt (x <<< (nI n &&& 31)) i = (decide (n ≤ i) && bt x (i - n)) := by
  unfold bt
  rw [Int32.toBitVec_shiftLeft]
  show (x.toBitVec <<< ((nI n &&& 31).toBitVec.smod 32).toNat).getLsbD i = _
  rw [s_l n hn, BitVec.getLsbD_shiftLeft]
  rcases Nat.lt_or_ge i n with h | h
  · simp [h, Nat.not_le.mpr h]
  · simp [hi, h, Nat.not_lt.mpr h]
theorem nx_and (a b : Nat) : nI a &&& nI b = nI (a &&& b) := by
  apply Int32.toBitVec_inj.1
  show BitVec.ofNat 32 a &&& BitVec.ofNat 32 b = BitVec.ofNat 32 (a &&& b)
  apply BitVec.eq_of_getLsbD_eq
  intro i hi
  simp [hi]
end
section
/-! pure numbers: a row of letters as a number of six digits, four bits each -/
def ti_pf (c i : Nat) : Nat := c / 2 ^ (4 * (6 - i))
def ti_dg (c i : Nat) : Nat := ti_pf c (i + 1) % 16
def ti_ok (c l : Nat) : Prop := l ≤ 6 ∧ c < 16777216 ∧ (∀ i, i < l → 1 ≤ ti_dg c i ∧ ti_dg c i ≤ 10) ∧ c % 2 ^ (4 * (6 - l)) = 0
theorem ti_pf_s (c : Nat) {i : Nat} (h : i < 6) : ti_pf c (i + 1) = ti_pf c i * 16 + ti_dg c i := by
  have e : 4 * (6 - i) = 4 * (6 - (i + 1)) + 4 := by omega
  have h1 : ti_pf c i = ti_pf c (i + 1) / 16 := by
    unfold ti_pf
    rw [e, Nat.pow_add, ← Nat.div_div_eq_div_mul]
  unfold ti_dg
  rw [h1]
  omega
theorem ti_pf_0 {c : Nat} (h : c < 16777216) : ti_pf c 0 = 0 := Nat.div_eq_of_lt h
theorem ti_pf_6 (c : Nat) : ti_pf c 6 = c := Nat.div_one c
theorem ti_mono {c k i : Nat} (h : ti_pf c i < ti_pf k i) : c < k := by
  rcases Nat.lt_or_ge c k with h1 | h1
  · exact h1
  · have := Nat.div_le_div_right (c := 2 ^ (4 * (6 - i))) h1
    unfold ti_pf at h
    omega
theorem ti_pf_split (c : Nat) {i l : Nat} (h : i ≤ l) (hl : l ≤ 6) : ti_pf c i = ti_pf c l / 2 ^ (4 * (l - i)) := by
  have e : 4 * (6 - i) = 4 * (6 - l) + 4 * (l - i) := by omega
  unfold ti_pf
  rw [e, Nat.pow_add, Nat.div_div_eq_div_mul]
theorem ti_pf_add {k l x i : Nat} (hm : k % 2 ^ (4 * (6 - l)) = 0) (hx : x < 2 ^ (4 * (6 - l))) (hi : i ≤ l) (hl : l ≤ 6) : ti_pf (k + x) i = ti_pf k i := by
  rw [ti_pf_split _ hi hl, ti_pf_split k hi hl]
  have h : ti_pf (k + x) l = ti_pf k l := by
    unfold ti_pf
    obtain ⟨m, rfl⟩ := Nat.dvd_of_mod_eq_zero hm
    rw [Nat.mul_add_div (Nat.two_pow_pos _), Nat.div_eq_of_lt hx, Nat.mul_div_cancel_left _ (Nat.two_pow_pos _)]
    omega
  rw [h]
theorem ti_dg_add {k l x i : Nat} (hm : k % 2 ^ (4 * (6 - l)) = 0) (hx : x < 2 ^ (4 * (6 - l))) (hi : i < l) (hl : l ≤ 6) : ti_dg (k + x) i = ti_dg k i := by
  unfold ti_dg
  rw [ti_pf_add hm hx hi hl]
theorem ti_dg_lt (c i : Nat) : ti_dg c i < 16 := Nat.mod_lt _ (by decide)
theorem ti_dg0 {c l i : Nat} (h : ti_ok c l) (hl : l ≤ i) (hi : i < 6) : ti_dg c i = 0 := by
  obtain ⟨_, _, _, hm⟩ := h
  obtain ⟨m, rfl⟩ := Nat.dvd_of_mod_eq_zero hm
  have e : 4 * (6 - l) = 4 * (6 - (i + 1)) + (4 * (i - l) + 4) := by omega
  unfold ti_dg ti_pf
  rw [e, Nat.pow_add, Nat.mul_assoc, Nat.mul_div_cancel_left _ (Nat.two_pow_pos _), Nat.pow_add, Nat.mul_right_comm]
  exact Nat.mul_mod_left _ _
theorem ti_ok_u {c l l' : Nat} (h : ti_ok c l) (h' : ti_ok c l') : l = l' := by
  rcases Nat.lt_trichotomy l l' with a | a | a
  · have := (h'.2.2.1 l a).1
    have := ti_dg0 h (Nat.le_refl l) (by have := h'.1; omega)
    omega
  · exact a
  · have := (h.2.2.1 l' a).1
    have := ti_dg0 h' (Nat.le_refl l') (by have := h.1; omega)
    omega
theorem ti_mod_up {k l i : Nat} (hm : k % 2 ^ (4 * (6 - l)) = 0) (h : l ≤ i) : k % 2 ^ (4 * (6 - i)) = 0 := by
  have e : 4 * (6 - l) = 4 * (6 - i) + (4 * (6 - l) - 4 * (6 - i)) := by omega
  rw [e, Nat.pow_add] at hm
  exact Nat.mod_eq_zero_of_dvd (Nat.dvd_trans (Nat.dvd_mul_right _ _) (Nat.dvd_of_mod_eq_zero hm))
theorem ti_ge {c k l i : Nat} (h : ti_ok k l) (hl : l ≤ i) (e : ti_pf c i = ti_pf k i) : k ≤ c := by
  have hm := ti_mod_up h.2.2.2 hl
  unfold ti_pf at e
  have h1 := Nat.div_add_mod k (2 ^ (4 * (6 - i)))
  rw [hm, ← e] at h1
  have h2 := Nat.mul_div_le c (2 ^ (4 * (6 - i)))
  omega
theorem ti_pf_eq {c k : Nat} (hc : c < 16777216) (hk : k < 16777216) : ∀ r, r ≤ 6 → (∀ i, i < r → ti_dg c i = ti_dg k i) → ti_pf c r = ti_pf k r := by
  intro r
  induction r with
  | zero => intro _ _; rw [ti_pf_0 hc, ti_pf_0 hk]
  | succ r ih =>
    intro hr h
    rw [ti_pf_s c (by omega), ti_pf_s k (by omega), ih (by omega) (fun i hi => h i (by omega)), h r (by omega)]
theorem ti_dg_of_pf {c k i l : Nat} (e : ti_pf c l = ti_pf k l) (hi : i < l) (hl : l ≤ 6) : ti_dg c i = ti_dg k i := by
  unfold ti_dg
  rw [ti_pf_split c (show i + 1 ≤ l from hi) hl, ti_pf_split k (show i + 1 ≤ l from hi) hl, e]
theorem ti_pf_step {c k i : Nat} (h : i < 6) (e : ti_pf c i = ti_pf k i) : ti_pf c (i + 1) = ti_pf k (i + 1) ↔ ti_dg c i = ti_dg k i := by
  rw [ti_pf_s c h, ti_pf_s k h, e]
  omega
theorem ti_lt_dg {c k i : Nat} (h : i < 6) (e : ti_pf c i = ti_pf k i) (hd : ti_dg c i < ti_dg k i) : c < k := by
  apply ti_mono (i := i + 1)
  rw [ti_pf_s c h, ti_pf_s k h, e]
  omega
/-- how many first digits of c and k agree, up to kl -/
def ti_sA (c k kl : Nat) : Nat → Nat → Nat
  | 0, i => i
  | f + 1, i => if i < kl ∧ ti_dg c i = ti_dg k i then ti_sA c k kl f (i + 1) else i
def ti_sh (c k kl : Nat) : Nat := ti_sA c k kl kl 0
theorem ti_sA_spec (c k kl : Nat) : ∀ f i, i + f = kl → (∀ j, j < i → ti_dg c j = ti_dg k j) → ti_sA c k kl f i ≤ kl ∧ (∀ j, j < ti_sA c k kl f i → ti_dg c j = ti_dg k j) ∧ (ti_sA c k kl f i < kl → ti_dg c (ti_sA c k kl f i) ≠ ti_dg k (ti_sA c k kl f i)) := by
  intro f
  induction f with
  | zero => intro i hi h; exact ⟨by unfold ti_sA; omega, h, fun z => by unfold ti_sA at z; omega⟩
  | succ f ih =>
    intro i hi h
    by_cases hc : i < kl ∧ ti_dg c i = ti_dg k i
    · have e : ti_sA c k kl (f + 1) i = ti_sA c k kl f (i + 1) := by rw [ti_sA, if_pos hc]
      rw [e]
      exact ih (i + 1) (by omega) (fun j hj => by
        rcases Nat.lt_or_ge j i with z | z
        · exact h j z
        · have : j = i := by omega
          rw [this]; exact hc.2)
    · have e : ti_sA c k kl (f + 1) i = i := by rw [ti_sA, if_neg hc]
      rw [e]
      exact ⟨by omega, h, fun z y => hc ⟨z, y⟩⟩
theorem ti_sh_spec (c k kl : Nat) : ti_sh c k kl ≤ kl ∧ (∀ j, j < ti_sh c k kl → ti_dg c j = ti_dg k j) ∧ (ti_sh c k kl < kl → ti_dg c (ti_sh c k kl) ≠ ti_dg k (ti_sh c k kl)) := ti_sA_spec c k kl kl 0 (by omega) (fun j hj => absurd hj (Nat.not_lt_zero j))
theorem ti_sh_pf {c k kl : Nat} (hc : c < 16777216) (hk : k < 16777216) (hl : kl ≤ 6) : ti_pf c (ti_sh c k kl) = ti_pf k (ti_sh c k kl) := by
  have h := ti_sh_spec c k kl
  exact ti_pf_eq hc hk _ (by omega) h.2.1
theorem ti_sh_all {c k kl : Nat} (hc : c < 16777216) (hk : k < 16777216) (hl : kl ≤ 6) : ti_sh c k kl = kl ↔ ti_pf c kl = ti_pf k kl := by
  constructor
  · intro e
    have h := ti_sh_pf hc hk hl
    rwa [e] at h
  · intro e
    have h := ti_sh_spec c k kl
    rcases Nat.lt_or_ge (ti_sh c k kl) kl with z | z
    · exact absurd (ti_dg_of_pf e z hl) (h.2.2 z)
    · omega
theorem ti_sh_same {c l k kl : Nat} (hc : ti_ok c l) (hk : ti_ok k kl) (e : l = kl) : ti_sh c k kl = kl ↔ c = k := by
  rw [ti_sh_all hc.2.1 hk.2.1 hk.1]
  constructor
  · intro h
    have a := ti_ge hk (Nat.le_refl kl) h
    have b := ti_ge hc (Nat.le_of_eq e) h.symm
    omega
  · intro h; rw [h]
end
section
/-! a digit put at the end of a row, and taken away, in bits -/
theorem ti_nor (a b : Nat) : nI a ||| nI b = nI (a ||| b) := by
  apply Int32.toBitVec_inj.1
  show BitVec.ofNat 32 a ||| BitVec.ofNat 32 b = BitVec.ofNat 32 (a ||| b)
  apply BitVec.eq_of_getLsbD_eq
  intro i hi
  simp [hi]
theorem ti_or {k d s : Nat} (hk : k % 2 ^ (s + 4) = 0) (hd : d < 16) (hs : s ≤ 20) : nI k ||| (nI d <<< (nI s &&& 31)) = nI (k + d * 2 ^ s) := by
  have h1 : d * 2 ^ s < 2 ^ (s + 4) := by
    rw [Nat.pow_add, Nat.mul_comm (2 ^ s)]
    exact Nat.mul_lt_mul_of_pos_right hd (Nat.two_pow_pos s)
  have h2 : 2 ^ (s + 4) ≤ 2 ^ 24 := Nat.pow_le_pow_right (by decide) (by omega)
  rw [pk_shlN _ s (s_l s (by omega)) (by omega), ti_nor]
  obtain ⟨m, rfl⟩ := Nat.dvd_of_mod_eq_zero hk
  rw [Nat.two_pow_add_eq_or_of_lt h1]
theorem ti_bt {x i : Nat} (hi : i < 32) : bt (nI x) i = x.testBit i := by
  unfold bt
  show (BitVec.ofNat 32 x).getLsbD i = _
  rw [BitVec.getLsbD_ofNat]
  simp [hi]
theorem ti_15 : ∀ i, i < 32 → bt 15 i = decide (i < 4) := by decide +kernel
theorem ti_andn {A d s : Nat} (hd : d < 16) (hs : s ≤ 20) : nI ((A * 16 + d) * 2 ^ s) &&& (((15 : Int32) <<< (nI s &&& 31)) ^^^ (-1)) = nI (A * 16 * 2 ^ s) := by
  apply b_ext
  intro i hi
  rw [b_and, b_xor, b_shl s (by omega) _ hi, b_m1 i hi, ti_bt hi, ti_bt hi, Nat.mul_comm _ (2 ^ s), Nat.mul_comm _ (2 ^ s), Nat.testBit_two_pow_mul, Nat.testBit_two_pow_mul]
  rcases Nat.lt_or_ge i s with h | h
  · have : ¬ s ≤ i := by omega
    simp [this]
  · rw [ti_15 _ (by omega), Nat.mul_comm A 16, show (16 : Nat) = 2 ^ 4 from rfl, Nat.testBit_two_pow_mul, Nat.testBit_two_pow_mul_add _ hd]
    rcases Nat.lt_or_ge (i - s) 4 with z | z
    · have : ¬ 4 ≤ i - s := by omega
      simp [h, z, this]
    · have : ¬ i - s < 4 := by omega
      simp [h, z, this]
theorem ti_pow (n : Nat) (h : n < 6) : 2 ^ (4 * (6 - n)) = 2 ^ (4 * (6 - (n + 1))) * 16 := by
  have e : 4 * (6 - n) = 4 * (6 - (n + 1)) + 4 := by omega
  rw [e, Nat.pow_add]
theorem ti_type {k l j : Nat} (h : ti_ok k l) (hl : l < 6) (hj : j ≤ 9) : ti_ok (k + (j + 1) * 2 ^ (4 * (6 - (l + 1)))) (l + 1) ∧ (∀ i, i < l → ti_dg (k + (j + 1) * 2 ^ (4 * (6 - (l + 1)))) i = ti_dg k i) ∧ ti_dg (k + (j + 1) * 2 ^ (4 * (6 - (l + 1)))) l = j + 1 := by
  obtain ⟨h1, h2, h3, h4⟩ := h
  have hp := ti_pow l hl
  have hx : (j + 1) * 2 ^ (4 * (6 - (l + 1))) < 2 ^ (4 * (6 - l)) := by
    rw [hp, Nat.mul_comm _ 16]
    exact Nat.mul_lt_mul_of_pos_right (by omega) (Nat.two_pow_pos _)
  have hd : ∀ i, i < l → ti_dg (k + (j + 1) * 2 ^ (4 * (6 - (l + 1)))) i = ti_dg k i := fun i hi => ti_dg_add h4 hx hi h1
  have hq : ti_pf (k + (j + 1) * 2 ^ (4 * (6 - (l + 1)))) (l + 1) = ti_pf k l * 16 + (j + 1) := by
    have e : k = ti_pf k l * 16 * 2 ^ (4 * (6 - (l + 1))) := by
      have e1 := Nat.div_add_mod k (2 ^ (4 * (6 - l)))
      rw [h4, Nat.add_zero, Nat.mul_comm, hp, ← Nat.mul_assoc, Nat.mul_right_comm] at e1
      unfold ti_pf
      rw [hp]
      exact e1.symm
    have e2 : k + (j + 1) * 2 ^ (4 * (6 - (l + 1))) = (ti_pf k l * 16 + (j + 1)) * 2 ^ (4 * (6 - (l + 1))) := by
      rw [Nat.add_mul (ti_pf k l * 16) (j + 1), ← e]
    unfold ti_pf at e2 ⊢
    rw [e2, Nat.mul_div_cancel _ (Nat.two_pow_pos _)]
  have hl' : ti_dg (k + (j + 1) * 2 ^ (4 * (6 - (l + 1)))) l = j + 1 := by
    unfold ti_dg
    rw [hq]
    omega
  refine ⟨⟨by omega, ?_, ?_, ?_⟩, hd, hl'⟩
  · have a : ti_pf (k + (j + 1) * 2 ^ (4 * (6 - (l + 1)))) 0 = 0 := by
      rw [ti_pf_add h4 hx (Nat.zero_le l) h1, ti_pf_0 h2]
    exact (Nat.div_eq_zero_iff_lt (show 0 < 2 ^ (4 * (6 - 0)) by decide)).mp a
  · intro i hi
    rcases Nat.lt_or_ge i l with z | z
    · rw [hd i z]; exact h3 i z
    · have : i = l := by omega
      rw [this, hl']
      omega
  · rw [Nat.add_mod, Nat.mul_mod_left, ti_mod_up h4 (Nat.le_succ l)]
    simp
theorem ti_back {k l : Nat} (h : ti_ok k (l + 1)) : k = (ti_pf k l * 16 + ti_dg k l) * 2 ^ (4 * (6 - (l + 1))) ∧ ti_ok (ti_pf k l * 16 * 2 ^ (4 * (6 - (l + 1)))) l ∧ (∀ i, i < l → ti_dg (ti_pf k l * 16 * 2 ^ (4 * (6 - (l + 1)))) i = ti_dg k i) := by
  obtain ⟨h1, h2, h3, h4⟩ := h
  have hp := ti_pow l (by omega)
  have e : k = (ti_pf k l * 16 + ti_dg k l) * 2 ^ (4 * (6 - (l + 1))) := by
    rw [← ti_pf_s k (by omega)]
    have e1 := Nat.div_add_mod k (2 ^ (4 * (6 - (l + 1))))
    rw [h4, Nat.add_zero, Nat.mul_comm] at e1
    exact e1.symm
  have hm : ti_pf k l * 16 * 2 ^ (4 * (6 - (l + 1))) % 2 ^ (4 * (6 - l)) = 0 := by
    rw [hp, Nat.mul_assoc, Nat.mul_comm 16]
    exact Nat.mul_mod_left _ _
  have hx : ti_dg k l * 2 ^ (4 * (6 - (l + 1))) < 2 ^ (4 * (6 - l)) := by
    rw [hp, Nat.mul_comm _ 16]
    exact Nat.mul_lt_mul_of_pos_right (ti_dg_lt k l) (Nat.two_pow_pos _)
  have e3 : k = ti_pf k l * 16 * 2 ^ (4 * (6 - (l + 1))) + ti_dg k l * 2 ^ (4 * (6 - (l + 1))) := by
    rw [← Nat.add_mul]; exact e
  have hd : ∀ i, i < l → ti_dg (ti_pf k l * 16 * 2 ^ (4 * (6 - (l + 1)))) i = ti_dg k i := by
    intro i hi
    have a := ti_dg_add hm hx hi (by omega)
    rw [← e3] at a
    exact a.symm
  refine ⟨e, ⟨by omega, by omega, ?_, hm⟩, hd⟩
  intro i hi
  rw [hd i hi]
  exact h3 i (by omega)
end
section
/-! counts over the first n values of a function -/
def ti_cn (P : Nat → Bool) (f : Nat → Nat) : Nat → Nat
  | 0 => 0
  | n + 1 => ti_cn P f n + (if P (f n) = true then 1 else 0)
theorem ti_cn_s (P : Nat → Bool) (f : Nat → Nat) (n : Nat) : ti_cn P f (n + 1) = ti_cn P f n + (if P (f n) = true then 1 else 0) := rfl
theorem ti_cn_t {P : Nat → Bool} {f : Nat → Nat} {n : Nat} (h : P (f n) = true) : ti_cn P f (n + 1) = ti_cn P f n + 1 := by rw [ti_cn_s, if_pos h]
theorem ti_cn_f {P : Nat → Bool} {f : Nat → Nat} {n : Nat} (h : ¬ P (f n) = true) : ti_cn P f (n + 1) = ti_cn P f n := by rw [ti_cn_s, if_neg h, Nat.add_zero]
theorem ti_cn_le (P : Nat → Bool) (f : Nat → Nat) : ∀ n, ti_cn P f n ≤ n := by
  intro n
  induction n with
  | zero => exact Nat.le_refl 0
  | succ n ih => rw [ti_cn_s]; split <;> omega
theorem ti_cn_cg {P : Nat → Bool} {f g : Nat → Nat} : ∀ n, (∀ i, i < n → f i = g i) → ti_cn P f n = ti_cn P g n := by
  intro n
  induction n with
  | zero => intro _; rfl
  | succ n ih => intro h; rw [ti_cn_s, ti_cn_s, ih (fun i hi => h i (by omega)), h n (by omega)]
theorem ti_cn_0 {P : Nat → Bool} {f : Nat → Nat} : ∀ n, ti_cn P f n = 0 ↔ ∀ i, i < n → ¬ P (f i) = true := by
  intro n
  induction n with
  | zero => exact ⟨fun _ i hi => absurd hi (Nat.not_lt_zero i), fun _ => rfl⟩
  | succ n ih =>
    by_cases hp : P (f n) = true
    · rw [ti_cn_t hp]
      exact ⟨fun z => absurd z (Nat.succ_ne_zero _), fun z => absurd hp (z n (by omega))⟩
    · rw [ti_cn_f hp, ih]
      refine ⟨fun z i hi => ?_, fun z i hi => z i (by omega)⟩
      rcases Nat.lt_or_ge i n with y | y
      · exact z i y
      · have : i = n := by omega
        rw [this]; exact hp
theorem ti_cn_all {P : Nat → Bool} {f : Nat → Nat} : ∀ n, (∀ i, i < n → P (f i) = true) → ti_cn P f n = n := by
  intro n
  induction n with
  | zero => intro _; rfl
  | succ n ih => intro h; rw [ti_cn_t (h n (by omega)), ih (fun i hi => h i (by omega))]
def ti_lt (k x : Nat) : Bool := decide (x < k)
def ti_is (k x : Nat) : Bool := decide (x = k)
def ti_bg (k l x : Nat) : Bool := decide (ti_pf x l = ti_pf k l)
def ti_gt (g : Nat → Nat) (m x : Nat) : Bool := decide (m < g x + 1)
def ti_same (f g : Nat → Nat) (n : Nat) : Prop := ∀ P : Nat → Bool, ti_cn P f n = ti_cn P g n
theorem ti_mem {f g : Nat → Nat} {n i : Nat} (h : ti_same f g n) (hi : i < n) : ∃ t, t < n ∧ g t = f i := by
  rcases Classical.em (∃ t, t < n ∧ g t = f i) with z | z
  · exact z
  · have a : ti_cn (ti_is (f i)) g n = 0 := (ti_cn_0 n).mpr (fun t ht y => z ⟨t, ht, of_decide_eq_true y⟩)
    rw [← h] at a
    exact absurd (decide_eq_true rfl) ((ti_cn_0 n).mp a i hi)
theorem ti_same_sy {f g : Nat → Nat} {n : Nat} (h : ti_same f g n) : ti_same g f n := fun P => (h P).symm
def ti_so (f : Nat → Nat) (n : Nat) : Prop := ∀ i j, i < j → j < n → f i < f j
theorem ti_rk {f : Nat → Nat} {k : Nat} : ∀ n, ti_so f n → ∀ i, i < n → (f i < k ↔ i < ti_cn (ti_lt k) f n) := by
  intro n
  induction n with
  | zero => intro _ i hi; exact absurd hi (Nat.not_lt_zero i)
  | succ n ih =>
    intro h i hi
    have h' : ti_so f n := fun a b hab hb => h a b hab (by omega)
    by_cases hp : f n < k
    · have a : ∀ j, j < n → f j < k := fun j hj => Nat.lt_trans (h j n hj (by omega)) hp
      rw [ti_cn_t (decide_eq_true hp), ti_cn_all n (fun j hj => decide_eq_true (a j hj))]
      refine ⟨fun _ => hi, fun _ => ?_⟩
      rcases Nat.lt_or_ge i n with y | y
      · exact a i y
      · have : i = n := by omega
        rw [this]; exact hp
    · rw [ti_cn_f (fun z => hp (of_decide_eq_true z))]
      rcases Nat.lt_or_ge i n with y | y
      · exact ih h' i y
      · have e : i = n := by omega
        have := ti_cn_le (ti_lt k) f n
        rw [e]
        exact ⟨fun z => absurd z hp, fun z => by omega⟩
theorem ti_rk_own {f : Nat → Nat} {n r : Nat} (h : ti_so f n) (hr : r < n) : ti_cn (ti_lt (f r)) f n = r := by
  have a := ti_rk (k := f r) n h r hr
  rcases Nat.lt_trichotomy (ti_cn (ti_lt (f r)) f n) r with z | z | z
  · have b := ti_rk (k := f r) n h _ (Nat.lt_trans z hr)
    have c := h _ r z hr
    have := b.mp c
    omega
  · exact z
  · have := a.mpr z
    omega
/-- the key stands in a sorted row if and only if it stands at its rank -/
theorem ti_at {f : Nat → Nat} {n k i : Nat} (h : ti_so f n) (hi : i < n) (e : f i = k) : ti_cn (ti_lt k) f n = i := by
  rw [← e]; exact ti_rk_own h hi
def ti_ins (f : Nat → Nat) (r k : Nat) : Nat → Nat := fun i => if i < r then f i else if i = r then k else f (i - 1)
def ti_del (f : Nat → Nat) (r : Nat) : Nat → Nat := fun i => if i < r then f i else f (i + 1)
def ti_rep (f : Nat → Nat) (t x : Nat) : Nat → Nat := fun i => if i = t then x else f i
theorem ti_ins_lo {f : Nat → Nat} {r k i : Nat} (h : i < r) : ti_ins f r k i = f i := if_pos h
theorem ti_ins_at {f : Nat → Nat} {r k : Nat} : ti_ins f r k r = k := by unfold ti_ins; rw [if_neg (Nat.lt_irrefl r), if_pos rfl]
theorem ti_ins_hi {f : Nat → Nat} {r k i : Nat} (h : r ≤ i) : ti_ins f r k (i + 1) = f i := by unfold ti_ins; rw [if_neg (by omega), if_neg (by omega)]; rfl
theorem ti_del_lo {f : Nat → Nat} {r i : Nat} (h : i < r) : ti_del f r i = f i := if_pos h
theorem ti_del_hi {f : Nat → Nat} {r i : Nat} (h : r ≤ i) : ti_del f r i = f (i + 1) := if_neg (by omega)
theorem ti_rep_at {f : Nat → Nat} {t x : Nat} : ti_rep f t x t = x := if_pos rfl
theorem ti_rep_ne {f : Nat → Nat} {t x i : Nat} (h : i ≠ t) : ti_rep f t x i = f i := if_neg h
theorem ti_ins_cn (P : Nat → Bool) (f : Nat → Nat) (r k : Nat) : ∀ d, ti_cn P (ti_ins f r k) (r + d + 1) = ti_cn P f (r + d) + (if P k = true then 1 else 0) := by
  intro d
  induction d with
  | zero => rw [ti_cn_s, ti_cn_cg r (fun i hi => ti_ins_lo hi), Nat.add_zero, ti_ins_at]
  | succ d ih =>
    rw [ti_cn_s, show r + (d + 1) = r + d + 1 from rfl, ih, ti_cn_s, ti_ins_hi (by omega)]
    omega
theorem ti_del_cn (P : Nat → Bool) (f : Nat → Nat) (r : Nat) : ∀ d, ti_cn P f (r + d + 1) = ti_cn P (ti_del f r) (r + d) + (if P (f r) = true then 1 else 0) := by
  intro d
  induction d with
  | zero => rw [ti_cn_s, Nat.add_zero, ti_cn_cg (f := ti_del f r) r (fun i hi => ti_del_lo hi)]
  | succ d ih =>
    rw [ti_cn_s, show r + (d + 1) = r + d + 1 from rfl, ih, ti_cn_s, ti_del_hi (by omega)]
    omega
theorem ti_rep_cn (P : Nat → Bool) (f : Nat → Nat) (t x : Nat) : ∀ d, ti_cn P (ti_rep f t x) (t + d + 1) + (if P (f t) = true then 1 else 0) = ti_cn P f (t + d + 1) + (if P x = true then 1 else 0) := by
  intro d
  induction d with
  | zero =>
    rw [ti_cn_s, ti_cn_s, ti_cn_cg (f := ti_rep f t x) (g := f) t (fun i hi => ti_rep_ne (by omega)), ti_rep_at]
    omega
  | succ d ih =>
    rw [ti_cn_s, show t + (d + 1) = t + d + 1 from rfl, ti_cn_s P f (t + d + 1), ti_rep_ne (by omega)]
    omega
theorem ti_rep_last (P : Nat → Bool) (f : Nat → Nat) {t n : Nat} (h : t ≤ n) : ti_cn P f (n + 1) = ti_cn P (ti_rep f t (f n)) n + (if P (f t) = true then 1 else 0) := by
  rcases Nat.lt_or_ge t n with z | z
  · obtain ⟨d, rfl⟩ : ∃ d, n = t + d + 1 := ⟨n - t - 1, by omega⟩
    rw [ti_cn_s, ti_rep_cn]
  · have e : t = n := by omega
    subst e
    rw [ti_cn_s, ti_cn_cg (f := ti_rep f t (f t)) (g := f) t (fun i hi => ti_rep_ne (by omega))]
theorem ti_ins_so {f : Nat → Nat} {n k : Nat} (h : ti_so f n) (hn : ∀ i, i < n → f i ≠ k) : ti_so (ti_ins f (ti_cn (ti_lt k) f n) k) (n + 1) := by
  have hr := ti_rk (k := k) n h
  have hle := ti_cn_le (ti_lt k) f n
  generalize ti_cn (ti_lt k) f n = r at hr hle
  intro i j hij hj
  have lo : ∀ a, a < n → a < r → f a < k := fun a ha har => (hr a ha).mpr har
  have hi : ∀ a, a < n → r ≤ a → k < f a := fun a ha har => by
    have h1 : ¬ f a < k := fun z => by have := (hr a ha).mp z; omega
    have h2 := hn a ha
    omega
  rcases Nat.lt_trichotomy j r with y | y | y
  · rw [ti_ins_lo y, ti_ins_lo (by omega)]; exact h i j hij (by omega)
  · rw [y, ti_ins_at, ti_ins_lo (by omega)]; exact lo i (by omega) (by omega)
  · obtain ⟨b, rfl⟩ : ∃ b, j = b + 1 := ⟨j - 1, by omega⟩
    rw [ti_ins_hi (by omega)]
    rcases Nat.lt_trichotomy i r with x | x | x
    · rw [ti_ins_lo x]; exact h i b (by omega) (by omega)
    · rw [x, ti_ins_at]; exact hi b (by omega) (by omega)
    · obtain ⟨a, rfl⟩ : ∃ a, i = a + 1 := ⟨i - 1, by omega⟩
      rw [ti_ins_hi (by omega)]; exact h a b (by omega) (by omega)
theorem ti_del_so {f : Nat → Nat} {n r : Nat} (h : ti_so f (n + 1)) : ti_so (ti_del f r) n := by
  intro i j hij hj
  rcases Nat.lt_or_ge j r with y | y
  · rw [ti_del_lo y, ti_del_lo (by omega)]; exact h i j hij (by omega)
  · rw [ti_del_hi y]
    rcases Nat.lt_or_ge i r with x | x
    · rw [ti_del_lo x]; exact h i (j + 1) (by omega) (by omega)
    · rw [ti_del_hi x]; exact h (i + 1) (j + 1) (by omega) (by omega)
/-- one more than the greatest g over the first n values, 0 if there is none -/
def ti_mx (g f : Nat → Nat) : Nat → Nat
  | 0 => 0
  | n + 1 => if ti_mx g f n < g (f n) + 1 then g (f n) + 1 else ti_mx g f n
theorem ti_mx_le (g f : Nat → Nat) (m : Nat) : ∀ n, ti_mx g f n ≤ m ↔ ti_cn (ti_gt g m) f n = 0 := by
  intro n
  induction n with
  | zero => exact ⟨fun _ => rfl, fun _ => Nat.zero_le m⟩
  | succ n ih =>
    have e : ti_mx g f (n + 1) = if ti_mx g f n < g (f n) + 1 then g (f n) + 1 else ti_mx g f n := rfl
    rw [e]
    by_cases hp : m < g (f n) + 1
    · rw [ti_cn_t (decide_eq_true hp)]
      split <;> omega
    · rw [ti_cn_f (fun z => hp (of_decide_eq_true z)), ← ih]
      split <;> omega
theorem ti_mx_same {f f' : Nat → Nat} {n : Nat} (g : Nat → Nat) (h : ti_same f f' n) : ti_mx g f n = ti_mx g f' n := by
  have a := (ti_mx_le g f (ti_mx g f' n) n).mpr (by rw [h]; exact (ti_mx_le g f' _ n).mp (Nat.le_refl _))
  have b := (ti_mx_le g f' (ti_mx g f n) n).mpr (by rw [← h]; exact (ti_mx_le g f _ n).mp (Nat.le_refl _))
  omega
theorem ti_mx_b {g f : Nat → Nat} {b : Nat} : ∀ n, (∀ i, i < n → g (f i) < b) → ti_mx g f n ≤ b := by
  intro n
  induction n with
  | zero => intro _; exact Nat.zero_le b
  | succ n ih =>
    intro h
    have e : ti_mx g f (n + 1) = if ti_mx g f n < g (f n) + 1 then g (f n) + 1 else ti_mx g f n := rfl
    have h1 := ih (fun i hi => h i (by omega))
    have h2 := h n (by omega)
    rw [e]
    split <;> omega
end
section
/-! X's walks against the pictures -/
theorem ti_bb {post : Int32 → Prop} {p : Nat} (h : p ≤ 6) (hp : post (nI (4 * (6 - p)))) : wpX_bitsBehind post (nI p) := by
  have e : (4 : Int32) * (6 - nI p) = nI (4 * (6 - p)) := by
    show nI 4 * (nI 6 - nI p) = _
    rw [pk_sub h, pk_mul]
  show post (4 * (6 - nI p))
  rw [e]; exact hp
theorem ti_sr {c l : Nat} (hc : c < 16777216) : nI c >>> (nI (4 * (6 - l)) &&& 31) = nI (ti_pf c l) := pk_shrN (by omega) _ _ (s_l _ (by omega))
theorem ti_pf_lt {c l : Nat} (hc : c < 16777216) : ti_pf c l < 16777216 := Nat.lt_of_le_of_lt (Nat.div_le_self _ _) hc
theorem ti_lo {post : Int32 → Prop} {c p : Nat} (hc : c < 16777216) (h : p < 6) (hp : post (nI (ti_dg c p) - 1)) : wpX_letterOf post (nI c) (nI p) := by
  show wpX_bitsBehind _ (nI p + 1)
  rw [nI_1]
  refine ti_bb h ?_
  intro y ey
  rw [ti_sr hc] at ey
  rw [ey, pk_andN (k := 4) (by have := ti_pf_lt (l := p + 1) hc; omega) (by decide)]
  exact hp
/-- a digit from 1 up, less 1 -/
theorem ti_p1 {d : Nat} (h : 1 ≤ d) : nI d - 1 = nI (d - 1) := by
  obtain ⟨e, rfl⟩ : ∃ e, d = e + 1 := ⟨d - 1, by omega⟩
  exact nI_pred e
theorem ti_len_w {post : Int32 → Prop} {c l : Nat} (h : ti_ok c l) (hp : post (nI l)) : ∀ d i, i + d = l → wX_lengthOf_2 post (nI c) (d + 1) (nI i) := by
  have hl := h.1
  intro d
  induction d with
  | zero =>
    intro i hi
    have e : i = l := by omega
    subst e
    refine pk_le 6 i (fun _ => hp) (fun z => ?_) 
    refine ti_lo h.2.1 z ?_
    refine br_t ?_ hp
    rw [ti_dg0 h (Nat.le_refl i) z]
    rfl
  | succ d ih =>
    intro i hi
    refine pk_le 6 i (fun z => by omega) (fun z => ?_)
    refine ti_lo h.2.1 z ?_
    have h1 := h.2.2.1 i (by omega)
    rw [ti_p1 h1.1]
    refine br_f ?_ (nm_r (nI_1 i) (ih (i + 1) (by omega)))
    intro y
    have := congrArg Int32.toInt y
    rw [nI_toInt (by omega), show (-1 : Int32).toInt = -1 from by decide] at this
    omega
theorem ti_len {post : Int32 → Prop} {c l : Nat} (h : ti_ok c l) (hp : post (nI l)) : wpX_lengthOf post (nI c) := by
  refine Exists.intro (l + 1) ?_
  exact ti_len_w h hp l 0 (by omega)
/-- X's array holds the codes f up to n -/
def ti_ar (f : Nat → Nat) (n : Nat) (a : Nat → Int32) : Prop := n ≤ 40 ∧ ∀ i, i < n → a i = nI (f i) ∧ f i < 16777216
theorem ti_rank_w {post : Int32 → Prop} {f : Nat → Nat} {n k : Nat} {kl : Int32} {a : Nat → Int32} (A : ti_ar f n a) (hk : k < 16777216) (hp : post (nI (ti_cn (ti_lt k) f n))) : ∀ d i, i + d = n → wX_rankOfKey_4 post (nI n) (nI k) kl a (d + 1) (nI (ti_cn (ti_lt k) f i)) (nI i) := by
  have hn := A.1
  intro d
  induction d with
  | zero =>
    intro i hi
    have e : i = n := by omega
    subst e
    exact pk_le i i (fun _ => hp) (fun z => by omega)
  | succ d ih =>
    intro i hi
    refine pk_le n i (fun z => by omega) (fun z => ?_)
    refine ⟨vp_in_nI (by omega) (by omega), ?_⟩
    have h := A.2 i z
    rw [nI_clamp (by omega), h.1]
    refine pk_le k (f i) (fun y => ?_) (fun y => ?_) rfl rfl (by omega) (by omega)
    · have e : ti_cn (ti_lt k) f (i + 1) = ti_cn (ti_lt k) f i := ti_cn_f (fun w => by have := of_decide_eq_true w; omega)
      refine nm_r (nI_1 i) ?_
      rw [← e]; exact ih (i + 1) (by omega)
    · have e : ti_cn (ti_lt k) f (i + 1) = ti_cn (ti_lt k) f i + 1 := ti_cn_t (decide_eq_true y)
      refine nm_r (nI_1 _) (nm_r (nI_1 i) ?_)
      rw [← e]; exact ih (i + 1) (by omega)
theorem ti_rank {post : Int32 → Prop} {f : Nat → Nat} {n k : Nat} {kl : Int32} {a : Nat → Int32} (A : ti_ar f n a) (hk : k < 16777216) (hp : post (nI (ti_cn (ti_lt k) f n))) : wpX_rankOfKey post (nI n, nI k, kl, a) := by
  refine Exists.intro (n + 1) ?_
  exact ti_rank_w A hk hp n 0 (by omega)
theorem ti_isk {post : Int32 → Prop} {f : Nat → Nat} {n k r : Nat} {kl : Int32} {a : Nat → Int32} (A : ti_ar f n a) (hk : k < 16777216) (hr : r ≤ n) (h1 : r < n → f r = k → post 1) (h0 : (r < n → f r ≠ k) → post 0) : wpX_isKeyAt post (nI n, nI k, kl, a) (nI r) := by
  have hn := A.1
  refine pk_le n r (fun z => h0 (fun y => by omega)) (fun z => ?_)
  refine ⟨vp_in_nI (by omega) (by omega), ?_⟩
  have h := A.2 r z
  rw [nI_clamp (by omega), h.1]
  exact pk_eq (f r) k (fun y => h1 z y) (fun y => h0 (fun _ => y)) rfl rfl (by omega) (by omega)
theorem ti_swk {post : Int32 → Prop} {c k l : Nat} {n kl : Int32} {a : Nat → Int32} (hc : c < 16777216) (hk : k < 16777216) (hl : l ≤ 6) (h1 : ti_pf c l = ti_pf k l → post 1) (h0 : ti_pf c l ≠ ti_pf k l → post 0) : wpX_sharesWithKey post (n, nI k, kl, a) (nI c) (nI l) := by
  unfold wpX_sharesWithKey
  dsimp only
  refine ti_bb hl ?_
  rw [ti_sr hc, ti_sr hk]
  exact pk_eq _ _ h1 h0 rfl rfl (by have := ti_pf_lt (l := l) hc; omega) (by have := ti_pf_lt (l := l) hk; omega)
theorem ti_begX_w {post : Int32 → Prop} {f : Nat → Nat} {n k l : Nat} {a : Nat → Int32} (A : ti_ar f n a) (hk : k < 16777216) (hl : l ≤ 6) (hp : post (nI (ti_cn (ti_bg k l) f n))) : ∀ d i, i + d = n → wX_beginning_4 post (nI n) (nI k) (nI l) a (d + 1) (nI (ti_cn (ti_bg k l) f i)) (nI i) := by
  have hn := A.1
  intro d
  induction d with
  | zero =>
    intro i hi
    have e : i = n := by omega
    subst e
    exact pk_le i i (fun _ => hp) (fun z => by omega)
  | succ d ih =>
    intro i hi
    refine pk_le n i (fun z => by omega) (fun z => ?_)
    refine ⟨vp_in_nI (by omega) (by omega), ?_⟩
    have h := A.2 i z
    rw [nI_clamp (by omega), h.1]
    refine ti_swk h.2 hk hl (fun y => ?_) (fun y => ?_)
    · have e : ti_cn (ti_bg k l) f (i + 1) = ti_cn (ti_bg k l) f i + 1 := ti_cn_t (decide_eq_true y)
      refine br_f (by decide) (nm_r (nI_1 _) (nm_r (nI_1 i) ?_))
      rw [← e]; exact ih (i + 1) (by omega)
    · have e : ti_cn (ti_bg k l) f (i + 1) = ti_cn (ti_bg k l) f i := ti_cn_f (fun w => y (of_decide_eq_true w))
      refine br_t rfl (nm_r (nI_1 i) ?_)
      rw [← e]; exact ih (i + 1) (by omega)
theorem ti_begX {post : Int32 → Prop} {f : Nat → Nat} {n k l : Nat} {a : Nat → Int32} (A : ti_ar f n a) (hk : k < 16777216) (hl : l ≤ 6) (hp : post (nI (ti_cn (ti_bg k l) f n))) : wpX_beginning post (nI n, nI k, nI l, a) := by
  refine Exists.intro (n + 1) ?_
  exact ti_begX_w A hk hl hp n 0 (by omega)
theorem ti_slX_w {post : Int32 → Prop} {n : Int32} {c k l : Nat} {a : Nat → Int32} (hc : c < 16777216) (hk : k < 16777216) (hl : l ≤ 6) : ∀ d i, i + d = l → ti_pf c i = ti_pf k i → post (nI (ti_sA c k l d i)) → wX_sharedLength_2 post (nI c) n (nI k) (nI l) a (d + 1) (nI i) := by
  intro d
  induction d with
  | zero =>
    intro i hi _ hp
    have e : i = l := by omega
    subst e
    exact pk_le i i (fun _ => hp) (fun z => by omega)
  | succ d ih =>
    intro i hi he hp
    refine pk_le l i (fun z => by omega) (fun z => ?_)
    rw [nI_1]
    refine ti_swk hc hk (by omega) (fun y => ?_) (fun y => ?_)
    · refine br_f (by decide) (nm_e (ih (i + 1) (by omega) y ?_))
      rw [ti_sA, if_pos ⟨z, (ti_pf_step (by omega) he).mp y⟩] at hp
      exact hp
    · refine br_t rfl ?_
      rw [ti_sA, if_neg (fun w => y ((ti_pf_step (by omega) he).mpr w.2))] at hp
      exact hp
theorem ti_slX {post : Int32 → Prop} {n : Int32} {c k l : Nat} {a : Nat → Int32} (hc : c < 16777216) (hk : k < 16777216) (hl : l ≤ 6) (hp : post (nI (ti_sh c k l))) : wpX_sharedLength post (n, nI k, nI l, a) (nI c) := by
  refine Exists.intro (l + 1) ?_
  exact ti_slX_w hc hk hl l 0 (by omega) (by rw [ti_pf_0 hc, ti_pf_0 hk]) hp
theorem ti_mcmp {A B : Prop} {g m : Nat} (hg : g < 1000) (hm : m < 1000) (f : g + 1 ≤ m → A) (h : m < g + 1 → B) : (nI g ≤ nI m - 1 → A) ∧ (¬ nI g ≤ nI m - 1 → B) := by
  cases m with
  | zero =>
    refine br_f ?_ (h (by omega))
    intro y
    rw [Int32.le_iff_toInt_le, nI_toInt (by omega), show (nI 0 - 1 : Int32).toInt = -1 from by decide] at y
    omega
  | succ m =>
    rw [nI_pred]
    exact pk_le g m (fun z => f (by omega)) (fun z => h (by omega))
theorem ti_sh_b {c k l : Nat} (hl : l ≤ 6) : ti_sh c k l < 7 := by have := (ti_sh_spec c k l).1; omega
theorem ti_comX_w {post : Int32 → Prop} {f : Nat → Nat} {n k l : Nat} {a : Nat → Int32} (A : ti_ar f n a) (hk : k < 16777216) (hl : l ≤ 6) (hp : post (nI (ti_mx (fun c => ti_sh c k l) f n) - 1)) : ∀ d i, i + d = n → wX_common_4 post (nI n) (nI k) (nI l) a (d + 1) (nI (ti_mx (fun c => ti_sh c k l) f i) - 1) (nI i) := by
  have hn := A.1
  intro d
  induction d with
  | zero =>
    intro i hi
    have e : i = n := by omega
    subst e
    exact pk_le i i (fun _ => hp) (fun z => by omega)
  | succ d ih =>
    intro i hi
    refine pk_le n i (fun z => by omega) (fun z => ?_)
    refine ⟨vp_in_nI (by omega) (by omega), ?_⟩
    have h := A.2 i z
    have hb := ti_sh_b (c := f i) (k := k) hl
    have hm := ti_mx_b (g := fun c => ti_sh c k l) (f := f) (b := 7) i (fun j _ => ti_sh_b hl)
    have e : ti_mx (fun c => ti_sh c k l) f (i + 1) = if ti_mx (fun c => ti_sh c k l) f i < ti_sh (f i) k l + 1 then ti_sh (f i) k l + 1 else ti_mx (fun c => ti_sh c k l) f i := rfl
    rw [nI_clamp (by omega), h.1]
    refine ti_slX h.2 hk hl ?_
    refine ti_mcmp (by omega) (by omega) (fun y => ?_) (fun y => ?_)
    · refine nm_r (nI_1 i) ?_
      rw [if_neg (by omega)] at e
      rw [← e]; exact ih (i + 1) (by omega)
    · refine nm_r (nI_1 i) ?_
      rw [if_pos y] at e
      have e2 := ih (i + 1) (by omega)
      rw [e, nI_pred] at e2
      exact e2
theorem ti_comX {post : Int32 → Prop} {f : Nat → Nat} {n k l : Nat} {a : Nat → Int32} (A : ti_ar f n a) (hk : k < 16777216) (hl : l ≤ 6) (hp : post (nI (ti_mx (fun c => ti_sh c k l) f n) - 1)) : wpX_common post (nI n, nI k, nI l, a) := by
  refine Exists.intro (n + 1) ?_
  exact ti_comX_w A hk hl hp n 0 (by omega)
/-! the shifts of X's array -/
theorem ti_insX_w {post : Int32 → SX → Prop} {r : Nat} {tc ky kl : Int32} : ∀ d (a : Nat → Int32), r + d < 40 → (∀ a' : Nat → Int32, (∀ i, i < r → a' i = a i) → (∀ i, r ≤ i → i < r + d → a' (i + 1) = a i) → (∀ i, r + d < i → a' i = a i) → post (nI r) (tc + 1, ky, kl, upd a' r ky)) → wX_insert_36 post (nI r) tc ky kl (d + 1) (nI (r + d)) a := by
  intro d
  induction d with
  | zero =>
    intro a hd hp
    refine pk_le r r (fun _ => ?_) (fun z => by omega)
    refine ⟨vp_in_nI (by omega) (by omega), ?_⟩
    rw [nI_clamp (by omega)]
    exact nm_e (nm_e (hp a (fun _ _ => rfl) (fun i h1 h2 => by omega) (fun _ _ => rfl)))
  | succ d ih =>
    intro a hd hp
    refine pk_le (r + (d + 1)) r (fun z => by omega) (fun z => ?_)
    have e : nI (r + (d + 1)) - 1 = nI (r + d) := nI_pred (r + d)
    rw [e]
    refine ⟨vp_in_nI (by omega) (by omega), vp_in_nI (by omega) (by omega), ?_⟩
    rw [nI_clamp (by omega), nI_clamp (by omega)]
    refine nm_e (nm_r (pk_m1 (r + d)) (ih _ (by omega) (fun a' h1 h2 h3 => ?_)))
    refine hp a' (fun i hi => ?_) (fun i hi hj => ?_) (fun i hi => ?_)
    · rw [h1 i hi, pk_un (by omega)]
    · rcases Nat.lt_or_ge i (r + d) with y | y
      · rw [h2 i hi y, pk_un (by omega)]
      · have e2 : i = r + d := by omega
        rw [e2, h3 (r + d + 1) (by omega)]
        exact pk_us
    · rw [h3 i (by omega), pk_un (by omega)]
theorem ti_delX_w {post : Int32 → SX → Prop} {r n : Nat} {ky kl : Int32} (hn : n < 40) : ∀ d j (a : Nat → Int32), j + d = n → (∀ a' : Nat → Int32, (∀ i, i < j → a' i = a i) → (∀ i, j ≤ i → i < n → a' i = a (i + 1)) → post (nI r) (nI n, ky, kl, a')) → wX_delete_27 post (nI r) (nI n) ky kl (d + 1) (nI j) a := by
  intro d
  induction d with
  | zero =>
    intro j a hj hp
    exact pk_le n j (fun _ => hp a (fun _ _ => rfl) (fun i h1 h2 => by omega)) (fun z => by omega)
  | succ d ih =>
    intro j a hj hp
    refine pk_le n j (fun z => by omega) (fun z => ?_)
    rw [nI_1 j]
    refine ⟨vp_in_nI (by omega) (by omega), vp_in_nI (by omega) (by omega), ?_⟩
    rw [nI_clamp (by omega), nI_clamp (by omega)]
    refine nm_e (nm_e (ih (j + 1) _ (by omega) (fun a' h1 h2 => ?_)))
    refine hp a' (fun i hi => ?_) (fun i hi hj => ?_)
    · rw [h1 i (by omega), pk_un (by omega)]
    · rcases Nat.lt_or_ge j i with y | y
      · rw [h2 i (by omega) hj, pk_un (by omega)]
      · have e2 : i = j := by omega
        rw [e2, h1 j (by omega)]
        exact pk_us
end
section
/-! Y's walks against the pictures -/
/-- Y's table holds the codes g, of lengths ly, up to n -/
def ti_tb (g ly : Nat → Nat) (n : Nat) (al an : Nat → Int32) : Prop := n ≤ 40 ∧ ∀ t, t < n → ti_ok (g t) (ly t) ∧ an t = nI (ly t) ∧ ∀ i, i < ly t → al (6 * t + i) = nI (ti_dg (g t) i - 1)
def ti_ky (k l : Nat) (ak : Nat → Int32) : Prop := ti_ok k l ∧ ∀ i, i < l → ak i = nI (ti_dg k i - 1)
theorem ti_ix (t i : Nat) : (6 : Int32) * nI t + nI i = nI (6 * t + i) := by
  show nI 6 * nI t + nI i = _
  rw [pk_mul, nI_add]
theorem ti_shY_w {post : Int32 → Prop} {g ly : Nat → Nat} {n k l t : Nat} {fn : Int32} {al an ak : Nat → Int32} (T : ti_tb g ly n al an) (K : ti_ky k l ak) (ht : t < n) : ∀ d i, i + d = l → post (nI (ti_sA (g t) k l d i)) → wY_shared_2 post (nI t) fn (nI l) al an ak (d + 1) (nI i) := by
  have hn := T.1
  have hT := T.2 t ht
  have hl := K.1.1
  have hlt := hT.1.1
  intro d
  induction d with
  | zero =>
    intro i hi hp
    have e : i = l := by omega
    subst e
    exact pk_le i i (fun _ => hp) (fun z => by omega)
  | succ d ih =>
    intro i hi hp
    refine pk_le l i (fun z => by omega) (fun z => ?_)
    refine ⟨vp_in_nI (by omega) (by omega), ?_⟩
    have hk := K.1.2.2.1 i z
    rw [nI_clamp (n := t) (by omega), hT.2.1]
    refine pk_le (ly t) i (fun y => ?_) (fun y => ?_)
    · have hz := ti_dg0 hT.1 y (by omega)
      rw [ti_sA, if_neg (fun w => by have := w.2; omega)] at hp
      exact hp
    · have hc := hT.1.2.2.1 i y
      rw [ti_ix]
      refine ⟨vp_in_nI (by omega) (by omega), vp_in_nI (by omega) (by omega), ?_⟩
      rw [nI_clamp (by omega), nI_clamp (by omega), hT.2.2 i y, K.2 i z]
      refine pk_eq _ _ (fun x => ?_) (fun x => ?_) rfl rfl (by omega) (by omega)
      · rw [ti_sA, if_pos ⟨z, by omega⟩] at hp
        exact nm_r (nI_1 i) (ih (i + 1) (by omega) hp)
      · rw [ti_sA, if_neg (fun w => by have := w.2; omega)] at hp
        exact hp
theorem ti_shY {post : Int32 → Prop} {g ly : Nat → Nat} {n k l t : Nat} {fn : Int32} {al an ak : Nat → Int32} (T : ti_tb g ly n al an) (K : ti_ky k l ak) (ht : t < n) (hp : post (nI (ti_sh (g t) k l))) : wpY_shared post (fn, nI l, al, an, ak) (nI t) := by
  refine Exists.intro (l + 1) ?_
  exact ti_shY_w T K ht l 0 (by omega) hp
theorem ti_preY {post : Int32 → Prop} {g ly : Nat → Nat} {n k l t : Nat} {fn : Int32} {al an ak : Nat → Int32} (T : ti_tb g ly n al an) (K : ti_ky k l ak) (ht : t < n) (h1 : g t < k → post 1) (h0 : ¬ g t < k → post 0) : wpY_precedes post (fn, nI l, al, an, ak) (nI t) := by
  have hn := T.1
  have hT := T.2 t ht
  have hl := K.1.1
  have hlt := hT.1.1
  have hs := ti_sh_spec (g t) k l
  have he := ti_sh_pf (c := g t) (k := k) (kl := l) hT.1.2.1 K.1.2.1 hl
  unfold wpY_precedes
  dsimp only
  refine ti_shY T K ht ?_
  generalize ti_sh (g t) k l = r at hs he
  refine pk_lt r l (fun z => ?_) (fun z => ?_)
  · refine ⟨vp_in_nI (by omega) (by omega), ?_⟩
    have hk := K.1.2.2.1 r z
    rw [nI_clamp (n := t) (by omega), hT.2.1]
    refine pk_le (ly t) r (fun y => ?_) (fun y => ?_)
    · have hz := ti_dg0 hT.1 y (by omega)
      exact h1 (ti_lt_dg (i := r) (by omega) he (by omega))
    · have hc := hT.1.2.2.1 r y
      have hd := hs.2.2 z
      rw [ti_ix]
      refine ⟨vp_in_nI (by omega) (by omega), vp_in_nI (by omega) (by omega), ?_⟩
      rw [nI_clamp (by omega), nI_clamp (by omega), hT.2.2 r y, K.2 r z]
      refine pk_le _ _ (fun x => ?_) (fun x => ?_) rfl rfl (by omega) (by omega)
      · have := ti_lt_dg (i := r) (by omega) he.symm (by omega)
        exact h0 (by omega)
      · exact h1 (ti_lt_dg (i := r) (by omega) he (by omega))
  · have e : r = l := by omega
    subst e
    have := ti_ge K.1 (Nat.le_refl r) he
    exact h0 (by omega)
theorem ti_lessY_w {post : Int32 → Prop} {g ly : Nat → Nat} {n s t : Nat} {fn fl : Int32} {al an ak : Nat → Int32} (T : ti_tb g ly n al an) (hs : s < n) (ht : t < n) (h1 : g s < g t → post 1) (h0 : ¬ g s < g t → post 0) : ∀ d i, i + d = 6 → ti_pf (g s) i = ti_pf (g t) i → wY_less_2 post (nI s) (nI t) fn fl al an ak (d + 1) (nI i) := by
  have hn := T.1
  have hS := T.2 s hs
  have hT := T.2 t ht
  have hls := hS.1.1
  have hlt := hT.1.1
  intro d
  induction d with
  | zero =>
    intro i hi he
    have e : i = 6 := by omega
    subst e
    rw [ti_pf_6, ti_pf_6] at he
    exact pk_le 6 6 (fun _ => h0 (by omega)) (fun z => by omega)
  | succ d ih =>
    intro i hi he
    refine pk_le 6 i (fun z => by omega) (fun z => ?_)
    refine ⟨vp_in_nI (by omega) (by omega), ?_⟩
    rw [nI_clamp (n := t) (by omega), hT.2.1]
    refine pk_lt i (ly t) (fun y => ?_) (fun y => ?_)
    · have hc := hT.1.2.2.1 i y
      refine ⟨vp_in_nI (by omega) (by omega), ?_⟩
      rw [nI_clamp (n := s) (by omega), hS.2.1]
      refine pk_lt i (ly s) (fun x => ?_) (fun x => ?_)
      · have hb := hS.1.2.2.1 i x
        rw [ti_ix, ti_ix]
        refine ⟨vp_in_nI (by omega) (by omega), vp_in_nI (by omega) (by omega), ?_⟩
        rw [nI_clamp (by omega), nI_clamp (by omega), hT.2.2 i y, hS.2.2 i x]
        refine pk_eq _ _ (fun w => ?_) (fun w => ?_) rfl rfl (by omega) (by omega)
        · exact nm_r (nI_1 i) (ih (i + 1) (by omega) ((ti_pf_step z he).mpr (by omega)))
        · refine ⟨vp_in_nI (by omega) (by omega), vp_in_nI (by omega) (by omega), ?_⟩
          refine pk_le _ _ (fun v => ?_) (fun v => ?_) rfl rfl (by omega) (by omega)
          · have := ti_lt_dg z he.symm (by omega)
            exact h0 (by omega)
          · exact h1 (ti_lt_dg z he (by omega))
      · have hz := ti_dg0 hS.1 x z
        exact h1 (ti_lt_dg z he (by omega))
    · have := ti_ge hT.1 y he
      exact h0 (by omega)
theorem ti_lessY {post : Int32 → Prop} {g ly : Nat → Nat} {n s t : Nat} {fn fl : Int32} {al an ak : Nat → Int32} (T : ti_tb g ly n al an) (hs : s < n) (ht : t < n) (h1 : g s < g t → post 1) (h0 : ¬ g s < g t → post 0) : wpY_less post (fn, fl, al, an, ak) (nI s) (nI t) := by
  refine Exists.intro 7 ?_
  exact ti_lessY_w T hs ht h1 h0 6 0 (by omega) (by rw [ti_pf_0 (T.2 s hs).1.2.1, ti_pf_0 (T.2 t ht).1.2.1])
theorem ti_rkY_w {post : Int32 → Prop} {g ly : Nat → Nat} {n t : Nat} {fl : Int32} {al an ak : Nat → Int32} (T : ti_tb g ly n al an) (ht : t < n) (hp : post (nI (ti_cn (ti_lt (g t)) g n))) : ∀ d i, i + d = n → wY_rankOf_4 post (nI t) (nI n) fl al an ak (d + 1) (nI (ti_cn (ti_lt (g t)) g i)) (nI i) := by
  have hn := T.1
  intro d
  induction d with
  | zero =>
    intro i hi
    have e : i = n := by omega
    subst e
    exact pk_le i i (fun _ => hp) (fun z => by omega)
  | succ d ih =>
    intro i hi
    refine pk_le n i (fun z => by omega) (fun z => ?_)
    refine ti_lessY T z ht (fun y => ?_) (fun y => ?_)
    · have e : ti_cn (ti_lt (g t)) g (i + 1) = ti_cn (ti_lt (g t)) g i + 1 := ti_cn_t (decide_eq_true y)
      refine br_f (by decide) (nm_r (nI_1 _) (nm_r (nI_1 i) ?_))
      rw [← e]; exact ih (i + 1) (by omega)
    · have e : ti_cn (ti_lt (g t)) g (i + 1) = ti_cn (ti_lt (g t)) g i := ti_cn_f (fun w => y (of_decide_eq_true w))
      refine br_t rfl (nm_r (nI_1 i) ?_)
      rw [← e]; exact ih (i + 1) (by omega)
theorem ti_rkY {post : Int32 → Prop} {g ly : Nat → Nat} {n t : Nat} {fl : Int32} {al an ak : Nat → Int32} (T : ti_tb g ly n al an) (ht : t < n) (hp : post (nI (ti_cn (ti_lt (g t)) g n))) : wpY_rankOf post (nI n, fl, al, an, ak) (nI t) := by
  refine Exists.intro (n + 1) ?_
  exact ti_rkY_w T ht hp n 0 (by omega)
theorem ti_befY_w {post : Int32 → Prop} {g ly : Nat → Nat} {n k l : Nat} {al an ak : Nat → Int32} (T : ti_tb g ly n al an) (K : ti_ky k l ak) (hp : post (nI (ti_cn (ti_lt k) g n))) : ∀ d i, i + d = n → wY_before_4 post (nI n) (nI l) al an ak (d + 1) (nI (ti_cn (ti_lt k) g i)) (nI i) := by
  have hn := T.1
  intro d
  induction d with
  | zero =>
    intro i hi
    have e : i = n := by omega
    subst e
    exact pk_le i i (fun _ => hp) (fun z => by omega)
  | succ d ih =>
    intro i hi
    refine pk_le n i (fun z => by omega) (fun z => ?_)
    refine ti_preY T K z (fun y => ?_) (fun y => ?_)
    · have e : ti_cn (ti_lt k) g (i + 1) = ti_cn (ti_lt k) g i + 1 := ti_cn_t (decide_eq_true y)
      refine br_f (by decide) (nm_r (nI_1 _) (nm_r (nI_1 i) ?_))
      rw [← e]; exact ih (i + 1) (by omega)
    · have e : ti_cn (ti_lt k) g (i + 1) = ti_cn (ti_lt k) g i := ti_cn_f (fun w => y (of_decide_eq_true w))
      refine br_t rfl (nm_r (nI_1 i) ?_)
      rw [← e]; exact ih (i + 1) (by omega)
theorem ti_befY {post : Int32 → Prop} {g ly : Nat → Nat} {n k l : Nat} {al an ak : Nat → Int32} (T : ti_tb g ly n al an) (K : ti_ky k l ak) (hp : post (nI (ti_cn (ti_lt k) g n))) : wpY_before post (nI n, nI l, al, an, ak) := by
  refine Exists.intro (n + 1) ?_
  exact ti_befY_w T K hp n 0 (by omega)
theorem ti_begY_w {post : Int32 → Prop} {g ly : Nat → Nat} {n k l : Nat} {al an ak : Nat → Int32} (T : ti_tb g ly n al an) (K : ti_ky k l ak) (hp : post (nI (ti_cn (ti_bg k l) g n))) : ∀ d i, i + d = n → wY_beginning_4 post (nI n) (nI l) al an ak (d + 1) (nI (ti_cn (ti_bg k l) g i)) (nI i) := by
  have hn := T.1
  have hl := K.1.1
  intro d
  induction d with
  | zero =>
    intro i hi
    have e : i = n := by omega
    subst e
    exact pk_le i i (fun _ => hp) (fun z => by omega)
  | succ d ih =>
    intro i hi
    refine pk_le n i (fun z => by omega) (fun z => ?_)
    refine ti_shY T K z ?_
    have ha := ti_sh_all (T.2 i z).1.2.1 K.1.2.1 hl
    have hb := ti_sh_b (c := g i) (k := k) hl
    refine pk_eq (ti_sh (g i) k l) l (fun y => ?_) (fun y => ?_)
    · have e : ti_cn (ti_bg k l) g (i + 1) = ti_cn (ti_bg k l) g i + 1 := ti_cn_t (decide_eq_true (ha.mp y))
      refine nm_r (nI_1 _) (nm_r (nI_1 i) ?_)
      rw [← e]; exact ih (i + 1) (by omega)
    · have e : ti_cn (ti_bg k l) g (i + 1) = ti_cn (ti_bg k l) g i := ti_cn_f (fun w => y (ha.mpr (of_decide_eq_true w)))
      refine nm_r (nI_1 i) ?_
      rw [← e]; exact ih (i + 1) (by omega)
theorem ti_begY {post : Int32 → Prop} {g ly : Nat → Nat} {n k l : Nat} {al an ak : Nat → Int32} (T : ti_tb g ly n al an) (K : ti_ky k l ak) (hp : post (nI (ti_cn (ti_bg k l) g n))) : wpY_beginning post (nI n, nI l, al, an, ak) := by
  refine Exists.intro (n + 1) ?_
  exact ti_begY_w T K hp n 0 (by omega)
theorem ti_comY_w {post : Int32 → Prop} {g ly : Nat → Nat} {n k l : Nat} {al an ak : Nat → Int32} (T : ti_tb g ly n al an) (K : ti_ky k l ak) (hp : post (nI (ti_mx (fun c => ti_sh c k l) g n) - 1)) : ∀ d i, i + d = n → wY_common_4 post (nI n) (nI l) al an ak (d + 1) (nI (ti_mx (fun c => ti_sh c k l) g i) - 1) (nI i) := by
  have hn := T.1
  have hl := K.1.1
  intro d
  induction d with
  | zero =>
    intro i hi
    have e : i = n := by omega
    subst e
    exact pk_le i i (fun _ => hp) (fun z => by omega)
  | succ d ih =>
    intro i hi
    refine pk_le n i (fun z => by omega) (fun z => ?_)
    have hb := ti_sh_b (c := g i) (k := k) hl
    have hm := ti_mx_b (g := fun c => ti_sh c k l) (f := g) (b := 7) i (fun j _ => ti_sh_b hl)
    have e : ti_mx (fun c => ti_sh c k l) g (i + 1) = if ti_mx (fun c => ti_sh c k l) g i < ti_sh (g i) k l + 1 then ti_sh (g i) k l + 1 else ti_mx (fun c => ti_sh c k l) g i := rfl
    refine ti_shY T K z ?_
    refine ti_mcmp (by omega) (by omega) (fun y => ?_) (fun y => ?_)
    · refine nm_r (nI_1 i) ?_
      rw [if_neg (by omega)] at e
      rw [← e]; exact ih (i + 1) (by omega)
    · refine nm_r (nI_1 i) ?_
      rw [if_pos y] at e
      have e2 := ih (i + 1) (by omega)
      rw [e, nI_pred] at e2
      exact e2
theorem ti_comY {post : Int32 → Prop} {g ly : Nat → Nat} {n k l : Nat} {al an ak : Nat → Int32} (T : ti_tb g ly n al an) (K : ti_ky k l ak) (hp : post (nI (ti_mx (fun c => ti_sh c k l) g n) - 1)) : wpY_common post (nI n, nI l, al, an, ak) := by
  refine Exists.intro (n + 1) ?_
  exact ti_comY_w T K hp n 0 (by omega)
theorem ti_samY_w {post : Int32 → Prop} {g ly : Nat → Nat} {n k l : Nat} {al an ak : Nat → Int32} (T : ti_tb g ly n al an) (K : ti_ky k l ak) (h1 : ∀ t, t < n → g t = k → post (nI t)) : ∀ d i, i + d = n → ((∀ t, i ≤ t → t < n → g t ≠ k) → post (-1)) → wY_same_2 post (nI n) (nI l) al an ak (d + 1) (nI i) := by
  have hn := T.1
  have hl := K.1.1
  intro d
  induction d with
  | zero =>
    intro i hi h0
    exact pk_le n i (fun _ => h0 (fun t a b => by omega)) (fun z => by omega)
  | succ d ih =>
    intro i hi h0
    refine pk_le n i (fun z => by omega) (fun z => ?_)
    refine ⟨vp_in_nI (by omega) (by omega), ?_⟩
    have hT := T.2 i z
    have hlt := hT.1.1
    have go : g i ≠ k → wY_same_2 post (nI n) (nI l) al an ak (d + 1) (nI (i + 1)) := fun w => ih (i + 1) (by omega) (fun v => h0 (fun t a b => by
      rcases Nat.lt_or_ge i t with x | x
      · exact v t x b
      · have e : t = i := by omega
        rw [e]; exact w))
    rw [nI_clamp (by omega), hT.2.1]
    refine pk_eq (ly i) l (fun y => ?_) (fun y => ?_)
    · refine ti_shY T K z ?_
      have ha := ti_sh_same hT.1 K.1 y
      have hb := ti_sh_b (c := g i) (k := k) hl
      refine pk_eq (ti_sh (g i) k l) l (fun x => ?_) (fun x => ?_)
      · exact h1 i z (ha.mp x)
      · exact nm_r (nI_1 i) (go (fun w => x (ha.mpr w)))
    · refine nm_r (nI_1 i) (go (fun w => y ?_))
      have h2 := hT.1
      rw [w] at h2
      exact ti_ok_u h2 K.1
theorem ti_samY {post : Int32 → Prop} {g ly : Nat → Nat} {n k l : Nat} {al an ak : Nat → Int32} (T : ti_tb g ly n al an) (K : ti_ky k l ak) (h1 : ∀ t, t < n → g t = k → post (nI t)) (h0 : (∀ t, t < n → g t ≠ k) → post (-1)) : wpY_same post (nI n, nI l, al, an, ak) := by
  refine Exists.intro (n + 1) ?_
  exact ti_samY_w T K h1 n 0 (by omega) (fun v => h0 (fun t ht => v t (Nat.zero_le t) ht))
theorem ti_ldY_c {post : Int32 → SY → Prop} {t l : Nat} {fn : Int32} {al an : Nat → Int32} (ht : t < 40) (hl : l ≤ 6) : ∀ d i (ak : Nat → Int32), i + d = l → (∀ ak' : Nat → Int32, (∀ j, j < i → ak' j = ak j) → (∀ j, i ≤ j → j < l → ak' j = al (6 * t + j)) → post (nI l) (fn, nI l, al, an, ak')) → wY_load_31 post (nI t) fn (nI l) (d + 1) (nI i) al an ak := by
  intro d
  induction d with
  | zero =>
    intro i ak hi hp
    exact pk_le l i (fun _ => hp ak (fun _ _ => rfl) (fun j a b => by omega)) (fun z => by omega)
  | succ d ih =>
    intro i ak hi hp
    refine pk_le l i (fun z => by omega) (fun z => ?_)
    rw [ti_ix]
    refine ⟨vp_in_nI (by omega) (by omega), vp_in_nI (by omega) (by omega), ?_⟩
    rw [nI_clamp (by omega), nI_clamp (by omega)]
    refine nm_e (nm_r (nI_1 i) (ih (i + 1) _ (by omega) (fun ak' h1 h2 => ?_)))
    refine hp ak' (fun j hj => ?_) (fun j hj hj2 => ?_)
    · rw [h1 j (by omega), pk_un (by omega)]
    · rcases Nat.lt_or_ge i j with y | y
      · exact h2 j y hj2
      · have e : j = i := by omega
        rw [e, h1 i (by omega)]
        exact pk_us
theorem ti_ldY_w {post : Int32 → SY → Prop} {g ly : Nat → Nat} {n : Nat} {fl v : Int32} {al an ak : Nat → Int32} (T : ti_tb g ly n al an) (h1 : ∀ t, t < n → nI (ti_cn (ti_lt (g t)) g n) = v → ∀ ak' : Nat → Int32, (∀ j, j < ly t → ak' j = al (6 * t + j)) → post (nI (ly t)) (nI n, nI (ly t), al, an, ak')) : ∀ d i, i + d = n → ((∀ t, i ≤ t → t < n → nI (ti_cn (ti_lt (g t)) g n) ≠ v) → post (-1) (nI n, fl, al, an, ak)) → wY_load_2 post v (nI n) fl al an ak (d + 1) (nI i) := by
  have hn := T.1
  intro d
  induction d with
  | zero =>
    intro i hi h0
    exact pk_le n i (fun _ => h0 (fun t a b => by omega)) (fun z => by omega)
  | succ d ih =>
    intro i hi h0
    refine pk_le n i (fun z => by omega) (fun z => ?_)
    refine ti_rkY T z ?_
    refine br_c (fun y => ?_) (fun y => ?_)
    · refine ⟨vp_in_nI (by omega) (by omega), ?_⟩
      rw [nI_clamp (by omega)]
      have hT := T.2 i z
      refine nm_r hT.2.1 (Exists.intro (ly i + 1) ?_)
      exact ti_ldY_c (by omega) hT.1.1 (ly i) 0 ak (by omega) (fun ak' _ b => h1 i z y ak' (fun j hj => b j (Nat.zero_le j) hj))
    · refine nm_r (nI_1 i) (ih (i + 1) (by omega) (fun w => h0 (fun t a b => ?_)))
      rcases Nat.lt_or_ge i t with x | x
      · exact w t x b
      · have e : t = i := by omega
        rw [e]; exact y
theorem ti_ldY {post : Int32 → SY → Prop} {g ly : Nat → Nat} {n : Nat} {fl v : Int32} {al an ak : Nat → Int32} (T : ti_tb g ly n al an) (h1 : ∀ t, t < n → nI (ti_cn (ti_lt (g t)) g n) = v → ∀ ak' : Nat → Int32, (∀ j, j < ly t → ak' j = al (6 * t + j)) → post (nI (ly t)) (nI n, nI (ly t), al, an, ak')) (h0 : (∀ t, t < n → nI (ti_cn (ti_lt (g t)) g n) ≠ v) → post (-1) (nI n, fl, al, an, ak)) : wpY_load post (nI n, fl, al, an, ak) v := by
  refine Exists.intro (n + 1) ?_
  exact ti_ldY_w T h1 n 0 (by omega) (fun w => h0 (fun t ht => w t (Nat.zero_le t) ht))
theorem ti_insY_c {post : Int32 → SY → Prop} {n l : Nat} {an ak : Nat → Int32} (hn : n < 40) (hl : l ≤ 6) : ∀ d i (al : Nat → Int32), i + d = l → (∀ al' : Nat → Int32, (∀ q, q < 6 * n + i → al' q = al q) → (∀ j, i ≤ j → j < l → al' (6 * n + j) = ak j) → wpY_before (fun r => post r (nI (n + 1), nI l, al', an, ak)) (nI (n + 1), nI l, al', an, ak)) → wY_insert_40 post (nI n) (nI l) (d + 1) (nI i) al an ak := by
  intro d
  induction d with
  | zero =>
    intro i al hi hp
    exact pk_le l i (fun _ => nm_r (nI_1 n) (hp al (fun _ _ => rfl) (fun j a b => by omega))) (fun z => by omega)
  | succ d ih =>
    intro i al hi hp
    refine pk_le l i (fun z => by omega) (fun z => ?_)
    rw [ti_ix]
    refine ⟨vp_in_nI (by omega) (by omega), vp_in_nI (by omega) (by omega), ?_⟩
    rw [nI_clamp (by omega), nI_clamp (by omega)]
    refine nm_e (nm_r (nI_1 i) (ih (i + 1) _ (by omega) (fun al' h1 h2 => ?_)))
    refine hp al' (fun q hq => ?_) (fun j hj hj2 => ?_)
    · rw [h1 q (by omega), pk_un (by omega)]
    · rcases Nat.lt_or_ge i j with y | y
      · exact h2 j y hj2
      · have e : j = i := by omega
        rw [e, h1 (6 * n + i) (by omega)]
        exact pk_us
theorem ti_delY_c {post : Int32 → SY → Prop} {n t r : Nat} {fl : Int32} {an ak : Nat → Int32} (hn : n < 40) (ht : t ≤ n) : ∀ d i (al : Nat → Int32), i + d = 6 → (∀ al' : Nat → Int32, (∀ q, q < 6 * t + i ∨ 6 * t + 6 ≤ q → al' q = al q) → (∀ j, i ≤ j → j < 6 → al' (6 * t + j) = al (6 * n + j)) → post (nI r) (nI n, fl, al', an, ak)) → wY_delete_43 post (nI t) (nI r) (nI n) fl (d + 1) (nI i) al an ak := by
  intro d
  induction d with
  | zero =>
    intro i al hi hp
    exact pk_le 6 i (fun _ => hp al (fun _ _ => rfl) (fun j a b => by omega)) (fun z => by omega)
  | succ d ih =>
    intro i al hi hp
    refine pk_le 6 i (fun z => by omega) (fun z => ?_)
    rw [ti_ix, ti_ix]
    refine ⟨vp_in_nI (by omega) (by omega), vp_in_nI (by omega) (by omega), ?_⟩
    rw [nI_clamp (by omega), nI_clamp (by omega)]
    refine nm_e (nm_r (nI_1 i) (ih (i + 1) _ (by omega) (fun al' h1 h2 => ?_)))
    refine hp al' (fun q hq => ?_) (fun j hj hj2 => ?_)
    · rw [h1 q (by omega), pk_un (by omega)]
    · rcases Nat.lt_or_ge i j with y | y
      · rw [h2 j y hj2, pk_un (by omega)]
      · have e : j = i := by omega
        rw [e, h1 (6 * t + i) (by omega)]
        exact pk_us
end
section
/-! the methods that change the table, and held, each against the pictures -/
theorem ti_hldX {post : Int32 → Prop} {f : Nat → Nat} {n k : Nat} {kl : Int32} {a : Nat → Int32} (A : ti_ar f n a) (S : ti_so f n) (hk : k < 16777216) (h1 : (∃ i, i < n ∧ f i = k) → post 1) (h0 : (∀ i, i < n → f i ≠ k) → post 0) : wpX_held post (nI n, nI k, kl, a) := by
  unfold wpX_held
  dsimp only
  refine ti_rank A hk ?_
  refine ti_isk A hk (ti_cn_le _ _ _) (fun y e => ⟨rfl, h1 ⟨_, y, e⟩⟩) (fun y => ⟨rfl, h0 (fun i hi e => ?_)⟩)
  have z := ti_at S hi e
  rw [z] at y
  exact y hi e
theorem ti_insX {post : Int32 → SX → Prop} {f : Nat → Nat} {n k l : Nat} {a : Nat → Int32} (A : ti_ar f n a) (S : ti_so f n) (hk : k < 16777216) (hl : l ≤ 6) (h0 : l = 0 ∨ n = 40 ∨ (∃ i, i < n ∧ f i = k) → post (-1) (nI n, nI k, nI l, a)) (h1 : l ≠ 0 → n < 40 → (∀ i, i < n → f i ≠ k) → ∀ a' : Nat → Int32, ti_ar (ti_ins f (ti_cn (ti_lt k) f n) k) (n + 1) a' → post (nI (ti_cn (ti_lt k) f n)) (nI (n + 1), nI k, nI l, a')) : wpX_insert post (nI n, nI k, nI l, a) := by
  have hn := A.1
  unfold wpX_insert
  dsimp only
  refine ti_rank A hk ?_
  refine pk_eq l 0 (fun z => h0 (Or.inl z)) (fun z => ?_)
  refine pk_le 40 n (fun y => h0 (Or.inr (Or.inl (by omega)))) (fun y => ?_)
  have hr := ti_cn_le (ti_lt k) f n
  refine ti_isk A hk hr (fun x e => br_f (by decide) (h0 (Or.inr (Or.inr ⟨_, x, e⟩)))) (fun x => br_t rfl ?_)
  have hne : ∀ i, i < n → f i ≠ k := fun i hi e => by
    have w := ti_at S hi e
    rw [w] at x
    exact x hi e
  have g1 := h1 z y hne
  generalize ti_cn (ti_lt k) f n = r at hr g1
  obtain ⟨d, rfl⟩ : ∃ d, n = r + d := ⟨n - r, by omega⟩
  refine Exists.intro (d + 1) (ti_insX_w d a y (fun a' q1 q2 q3 => ?_))
  rw [nI_1]
  refine g1 _ ⟨by omega, fun i hi => ?_⟩
  rcases Nat.lt_trichotomy i r with w | w | w
  · rw [ti_ins_lo w, pk_un (by omega), q1 i w]
    exact A.2 i (by omega)
  · rw [w, ti_ins_at, pk_us]
    exact ⟨rfl, hk⟩
  · obtain ⟨b, rfl⟩ : ∃ b, i = b + 1 := ⟨i - 1, by omega⟩
    rw [ti_ins_hi (by omega), pk_un (by omega), q2 b (by omega) (by omega)]
    exact A.2 b (by omega)
theorem ti_delX {post : Int32 → SX → Prop} {f : Nat → Nat} {n k : Nat} {kl : Int32} {a : Nat → Int32} (A : ti_ar f n a) (S : ti_so f n) (hk : k < 16777216) (h0 : (∀ i, i < n → f i ≠ k) → post (-1) (nI n, nI k, kl, a)) (h1 : ∀ m r, n = m + 1 → r = ti_cn (ti_lt k) f n → r ≤ m → f r = k → ∀ a' : Nat → Int32, ti_ar (ti_del f r) m a' → post (nI r) (nI m, nI k, kl, a')) : wpX_delete post (nI n, nI k, kl, a) := by
  have hn := A.1
  unfold wpX_delete
  dsimp only
  refine ti_rank A hk ?_
  refine ti_isk A hk (ti_cn_le _ _ _) (fun x e => br_f (by decide) ?_) (fun x => br_t rfl (h0 (fun i hi e => ?_)))
  · obtain ⟨m, rfl⟩ : ∃ m, n = m + 1 := ⟨n - 1, by omega⟩
    have g1 := h1 m _ rfl rfl (by omega) e
    generalize ti_cn (ti_lt k) f (m + 1) = r at x e g1
    refine nm_r (nI_pred m) (Exists.intro (m - r + 1) (ti_delX_w (by omega) (m - r) r a (by omega) (fun a' q1 q2 => ?_)))
    refine g1 a' ⟨by omega, fun i hi => ?_⟩
    rcases Nat.lt_or_ge i r with w | w
    · rw [ti_del_lo w, q1 i w]
      exact A.2 i (by omega)
    · rw [ti_del_hi w, q2 i w hi]
      exact A.2 (i + 1) (by omega)
  · have w := ti_at S hi e
    rw [w] at x
    exact x hi e
theorem ti_hldY {post : Int32 → Prop} {g ly : Nat → Nat} {n k l : Nat} {al an ak : Nat → Int32} (T : ti_tb g ly n al an) (K : ti_ky k l ak) (h1 : (∃ i, i < n ∧ g i = k) → post 1) (h0 : (∀ i, i < n → g i ≠ k) → post 0) : wpY_held post (nI n, nI l, al, an, ak) := by
  have hn := T.1
  unfold wpY_held
  dsimp only
  exact ti_samY T K (fun t ht e => br_f (nI_pos (by omega)) (h1 ⟨t, ht, e⟩)) (fun z => br_t (by decide) (h0 z))
theorem ti_insY {post : Int32 → SY → Prop} {g ly : Nat → Nat} {n k l : Nat} {al an ak : Nat → Int32} (T : ti_tb g ly n al an) (K : ti_ky k l ak) (h0 : l = 0 ∨ n = 40 ∨ (∃ i, i < n ∧ g i = k) → post (-1) (nI n, nI l, al, an, ak)) (h1 : l ≠ 0 → n < 40 → (∀ i, i < n → g i ≠ k) → ∀ al' an' : Nat → Int32, ti_tb (ti_rep g n k) (ti_rep ly n l) (n + 1) al' an' → post (nI (ti_cn (ti_lt k) g n)) (nI (n + 1), nI l, al', an', ak)) : wpY_insert post (nI n, nI l, al, an, ak) := by
  have hn := T.1
  have hl := K.1.1
  refine pk_eq l 0 (fun z => h0 (Or.inl z)) (fun z => ?_)
  refine ti_samY T K (fun t ht e => br_t (nI_pos' (by omega)) (h0 (Or.inr (Or.inr ⟨t, ht, e⟩)))) (fun y => br_f (by decide) ?_)
  refine pk_eq n 40 (fun x => h0 (Or.inr (Or.inl x))) (fun x => ?_)
  refine ⟨vp_in_nI (by omega) (by omega), ?_⟩
  rw [nI_clamp (by omega)]
  refine nm_e (Exists.intro (l + 1) (ti_insY_c (by omega) hl l 0 al (by omega) (fun al' q1 q2 => ?_)))
  have T' : ti_tb (ti_rep g n k) (ti_rep ly n l) (n + 1) al' (upd an n (nI l)) := by
    refine ⟨by omega, fun t ht => ?_⟩
    rcases Nat.lt_or_ge t n with w | w
    · rw [ti_rep_ne (by omega), ti_rep_ne (by omega), pk_un (by omega)]
      have hT := T.2 t w
      have hlt := hT.1.1
      exact ⟨hT.1, hT.2.1, fun i hi => by rw [q1 _ (by omega)]; exact hT.2.2 i hi⟩
    · have e : t = n := by omega
      subst e
      rw [ti_rep_at, ti_rep_at, pk_us]
      exact ⟨K.1, rfl, fun i hi => by rw [q2 i (Nat.zero_le i) hi]; exact K.2 i hi⟩
  refine ti_befY T' K ?_
  have e : ti_cn (ti_lt k) (ti_rep g n k) (n + 1) = ti_cn (ti_lt k) g n := by
    rw [ti_cn_f (by rw [ti_rep_at]; exact fun z => Nat.lt_irrefl k (of_decide_eq_true z))]
    exact ti_cn_cg n (fun i hi => ti_rep_ne (by omega))
  rw [e]
  exact h1 z (by omega) y al' _ T'
theorem ti_delY {post : Int32 → SY → Prop} {g ly : Nat → Nat} {n k l : Nat} {al an ak : Nat → Int32} (T : ti_tb g ly n al an) (K : ti_ky k l ak) (h0 : (∀ i, i < n → g i ≠ k) → post (-1) (nI n, nI l, al, an, ak)) (h1 : ∀ m t, n = m + 1 → t ≤ m → g t = k → ∀ al' an' : Nat → Int32, ti_tb (ti_rep g t (g m)) (ti_rep ly t (ly m)) m al' an' → post (nI (ti_cn (ti_lt k) g n)) (nI m, nI l, al', an', ak)) : wpY_delete post (nI n, nI l, al, an, ak) := by
  have hn := T.1
  unfold wpY_delete
  dsimp only
  refine ti_samY T K (fun t ht e => br_t (nI_pos' (by omega)) ?_) (fun y => br_f (by decide) (h0 y))
  refine ti_befY T K ?_
  obtain ⟨m, rfl⟩ : ∃ m, n = m + 1 := ⟨n - 1, by omega⟩
  refine nm_r (nI_pred m) ?_
  refine ⟨vp_in_nI (by omega) (by omega), vp_in_nI (by omega) (by omega), ?_⟩
  rw [nI_clamp (by omega), nI_clamp (by omega)]
  have hM := T.2 m (by omega)
  refine nm_e (Exists.intro 7 (ti_delY_c (by omega) (by omega) 6 0 al (by omega) (fun al' q1 q2 => ?_)))
  refine h1 m t rfl (by omega) e al' _ ⟨by omega, fun s hs => ?_⟩
  by_cases w : s = t
  · subst w
    rw [ti_rep_at, ti_rep_at, pk_us]
    refine ⟨hM.1, hM.2.1, fun i hi => ?_⟩
    have := hM.1.1
    rw [q2 i (Nat.zero_le i) (by omega)]
    exact hM.2.2 i hi
  · rw [ti_rep_ne w, ti_rep_ne w, pk_un w]
    have hS := T.2 s (by omega)
    refine ⟨hS.1, hS.2.1, fun i hi => ?_⟩
    have := hS.1.1
    rw [q1 _ (by omega)]
    exact hS.2.2 i hi
end
section
/-- the two states hold the same number of terms, the same key, and, for every test of codes, as many terms that pass it; X's are sorted -/
def i_Rel (_ : Nat) (u : SX) (v : SY) : Prop := ∃ (n c l : Nat) (f g ly : Nat → Nat) (a al an ak : Nat → Int32), u = (nI n, nI c, nI l, a) ∧ v = (nI n, nI l, al, an, ak) ∧ ti_ar f n a ∧ ti_so f n ∧ ti_tb g ly n al an ∧ ti_ky c l ak ∧ ti_same f g n
theorem i_up {k : Nat} {u : SX} {v : SY} (h : i_Rel k u v) : i_Rel (k + 2) u v := h
theorem ti_ok0 : ti_ok 0 0 := ⟨by decide, by decide, fun i hi => absurd hi (Nat.not_lt_zero i), by decide⟩
theorem ti_ky0 (ak : Nat → Int32) : ti_ky 0 0 ak := ⟨ti_ok0, fun i hi => absurd hi (Nat.not_lt_zero i)⟩
theorem i_vc0 : wpX_init (fun u => wpY_init (fun v => i_Rel 0 u v)) := by
  show i_Rel 0 (0, 0, 0, (fun _ => 0)) (0, 0, (fun _ => 0), (fun _ => 0), (fun _ => 0))
  exact ⟨0, 0, 0, fun _ => 0, fun _ => 0, fun _ => 0, fun _ => 0, fun _ => 0, fun _ => 0, fun _ => 0, rfl, rfl, ⟨by decide, fun i hi => absurd hi (Nat.not_lt_zero i)⟩, fun i j _ hj => absurd hj (Nat.not_lt_zero j), ⟨by decide, fun i hi => absurd hi (Nat.not_lt_zero i)⟩, ti_ky0 _, fun _ => rfl⟩
theorem i_vc_type {k : Nat} {u : SX} {v : SY} (I : i_Rel k u v) (hk : k + 2 ≤ 1024) (v1 : Int32) : wpX_type (fun r u' => wpY_type (fun r' v' => r' = r ∧ i_Rel (k + 2) u' v') v v1) u v1 := by
  obtain ⟨n, c, l, f, g, ly, a, al, an, ak, rfl, rfl, A, S, T, K, E⟩ := I
  have R : i_Rel (k + 2) (nI n, nI c, nI l, a) (nI n, nI l, al, an, ak) := ⟨n, c, l, f, g, ly, a, al, an, ak, rfl, rfl, A, S, T, K, E⟩
  have hl := K.1.1
  by_cases h0 : v1 < 0
  · exact br_t h0 (br_t h0 ⟨rfl, R⟩)
  by_cases h9 : 9 < v1
  · exact br_f h0 (br_t h9 (br_f h0 (br_t h9 ⟨rfl, R⟩)))
  obtain ⟨j, hj, rfl⟩ := nI_of2 (M := 9) (n := 9) (by decide) h0 (Int32.not_lt.mp h9)
  refine br_f h0 (br_f h9 (pk_lt l 6 (fun z => ?_) (fun z => ?_)))
  · refine nm_r (nI_1 l) (ti_bb (by omega) ?_)
    have hm := K.1.2.2.2
    rw [show 4 * (6 - l) = 4 * (6 - (l + 1)) + 4 by omega] at hm
    rw [nI_1 j]
    refine nm_r (ti_or hm (by omega) (by omega)) ?_
    refine br_f h0 (br_f h9 (pk_eq l 6 (fun w => by omega) (fun w => ⟨vp_in_nI z (by omega), ?_⟩)))
    rw [nI_clamp (by omega)]
    have hT := ti_type K.1 z hj
    refine nm_e (nm_r (nI_1 l) ⟨rfl, n, _, l + 1, f, g, ly, a, al, an, _, rfl, rfl, A, S, T, ⟨hT.1, fun i hi => ?_⟩, E⟩)
    rcases Nat.lt_or_ge i l with y | y
    · rw [pk_un (by omega), hT.2.1 i y]
      exact K.2 i y
    · have e : i = l := by omega
      rw [e, hT.2.2]
      exact pk_us
  · exact br_f h0 (br_f h9 (pk_eq l 6 (fun _ => ⟨rfl, R⟩) (fun w => by omega)))
theorem i_vc_back {k : Nat} {u : SX} {v : SY} (I : i_Rel k u v) (hk : k + 2 ≤ 1024) : wpX_back (fun r u' => wpY_back (fun r' v' => r' = r ∧ i_Rel (k + 2) u' v') v) u := by
  obtain ⟨n, c, l, f, g, ly, a, al, an, ak, rfl, rfl, A, S, T, K, E⟩ := I
  have R : i_Rel (k + 2) (nI n, nI c, nI l, a) (nI n, nI l, al, an, ak) := ⟨n, c, l, f, g, ly, a, al, an, ak, rfl, rfl, A, S, T, K, E⟩
  have hl := K.1.1
  refine pk_eq l 0 (fun z => pk_eq l 0 (fun _ => ⟨rfl, R⟩) (fun w => absurd z w)) (fun z => ?_)
  obtain ⟨m, rfl⟩ : ∃ m, l = m + 1 := ⟨l - 1, by omega⟩
  have hB := ti_back K.1
  have hd := K.1.2.2.1 m (by omega)
  rw [nI_pred]
  refine ti_lo K.1.2.1 (by omega) (ti_bb hl ?_)
  rw [ti_p1 hd.1]
  have e : nI c &&& (((15 : Int32) <<< (nI (4 * (6 - (m + 1))) &&& 31)) ^^^ (-1)) = nI (ti_pf c m * 16 * 2 ^ (4 * (6 - (m + 1)))) := by
    have h := ti_andn (A := ti_pf c m) (s := 4 * (6 - (m + 1))) (ti_dg_lt c m) (by omega)
    rw [← hB.1] at h
    exact h
  refine nm_r e (nm_e ?_)
  refine br_f (nI_ne0 (by omega) (by omega)) (nm_r (nI_pred m) ⟨vp_in_nI (by omega) (by omega), ?_⟩)
  rw [nI_clamp (by omega)]
  exact ⟨K.2 m (by omega), n, _, m, f, g, ly, a, al, an, ak, rfl, rfl, A, S, T, ⟨hB.2.1, fun i hi => by rw [hB.2.2 i hi]; exact K.2 i (by omega)⟩, E⟩
theorem i_vc_erase {k : Nat} {u : SX} {v : SY} (I : i_Rel k u v) (hk : k + 2 ≤ 1024) : wpX_erase (fun u' => wpY_erase (fun v' => i_Rel (k + 2) u' v') v) u := by
  obtain ⟨n, c, l, f, g, ly, a, al, an, ak, rfl, rfl, A, S, T, K, E⟩ := I
  show i_Rel (k + 2) (nI n, 0, 0, a) (nI n, 0, al, an, ak)
  exact ⟨n, 0, 0, f, g, ly, a, al, an, ak, rfl, rfl, A, S, T, ti_ky0 ak, E⟩
theorem i_vc_load {k : Nat} {u : SX} {v : SY} (I : i_Rel k u v) (hk : k + 2 ≤ 1024) (v1 : Int32) : wpX_load (fun r u' => wpY_load (fun r' v' => r' = r ∧ i_Rel (k + 2) u' v') v v1) u v1 := by
  obtain ⟨n, c, l, f, g, ly, a, al, an, ak, rfl, rfl, A, S, T, K, E⟩ := I
  have R : i_Rel (k + 2) (nI n, nI c, nI l, a) (nI n, nI l, al, an, ak) := ⟨n, c, l, f, g, ly, a, al, an, ak, rfl, rfl, A, S, T, K, E⟩
  have hn := A.1
  have hc : ∀ t, ti_cn (ti_lt (g t)) g n ≤ n := fun t => ti_cn_le _ _ _
  have hr : ∀ t, t < n → ∃ i, i < n ∧ f i = g t ∧ ti_cn (ti_lt (g t)) g n = i := fun t ht => by
    obtain ⟨i, hi, e⟩ := ti_mem (ti_same_sy E) ht
    exact ⟨i, hi, e, by rw [← E, ← e]; exact ti_rk_own S hi⟩
  by_cases h0 : v1 < 0
  · refine br_t h0 (ti_ldY T (fun t ht e => ?_) (fun _ => ⟨rfl, R⟩))
    have := hc t
    exact absurd h0 (by rw [← e]; exact nI_pos (by omega))
  obtain ⟨r, hr2, rfl⟩ := nI_of h0
  refine br_f h0 (pk_lt r n (fun z => ?_) (fun z => ?_))
  · refine ⟨vp_in_nI (by omega) (by omega), ?_⟩
    rw [nI_clamp (by omega)]
    obtain ⟨t0, ht0, e0⟩ := ti_mem E z
    have ho := (T.2 t0 ht0).1
    have hr0 : ti_cn (ti_lt (g t0)) g n = r := by
      rw [← E, e0]; exact ti_rk_own S z
    rw [e0] at ho
    refine nm_r (A.2 r z).1 (ti_len ho ?_)
    refine ti_ldY T (fun t ht e ak' q => ?_) (fun w => absurd (by rw [hr0]) (w t0 ht0))
    obtain ⟨i, hi, e1, e2⟩ := hr t ht
    have e3 : i = r := by
      rw [e2] at e
      exact (nI_eq (by omega) (by omega)).mp e
    have hT := T.2 t ht
    rw [e3] at e1
    have el : ly t = ly t0 := by
      have h2 := hT.1
      rw [← e1] at h2
      exact ti_ok_u h2 ho
    refine ⟨by rw [el], n, f r, ly t, f, g, ly, a, al, an, ak', by rw [el], rfl, A, S, T, ⟨by rw [el]; exact ho, fun i hi => ?_⟩, E⟩
    rw [q i hi, e1]
    exact hT.2.2 i hi
  · refine ti_ldY T (fun t ht e => ?_) (fun _ => ⟨rfl, R⟩)
    obtain ⟨i, hi, e1, e2⟩ := hr t ht
    rw [e2] at e
    have := (nI_eq (by omega) hr2).mp e
    omega
theorem i_vc_letter {k : Nat} {u : SX} {v : SY} (I : i_Rel k u v) (hk : k + 2 ≤ 1024) (v1 : Int32) : wpX_letter (fun r => wpY_letter (fun r' => r' = r ∧ i_Rel (k + 2) u v) v v1) u v1 := by
  have R := i_up I
  obtain ⟨n, c, l, f, g, ly, a, al, an, ak, rfl, rfl, A, S, T, K, E⟩ := I
  have hl := K.1.1
  by_cases h0 : v1 < 0
  · exact br_t h0 (br_t h0 ⟨rfl, R⟩)
  obtain ⟨r, hr2, rfl⟩ := nI_of h0
  refine br_f h0 (pk_lt r l (fun z => ?_) (fun z => ?_))
  · refine ti_lo K.1.2.1 (by omega) ?_
    refine br_f h0 (pk_lt r l (fun _ => ⟨vp_in_nI (by omega) (by omega), ?_⟩) (fun w => by omega))
    rw [nI_clamp (by omega), K.2 r z, ti_p1 (K.1.2.2.1 r z).1]
    exact ⟨rfl, R⟩
  · exact br_f h0 (pk_lt r l (fun w => by omega) (fun _ => ⟨rfl, R⟩))
theorem i_vc_insert {k : Nat} {u : SX} {v : SY} (I : i_Rel k u v) (hk : k + 2 ≤ 1024) : wpX_insert (fun r u' => wpY_insert (fun r' v' => r' = r ∧ i_Rel (k + 2) u' v') v) u := by
  obtain ⟨n, c, l, f, g, ly, a, al, an, ak, rfl, rfl, A, S, T, K, E⟩ := I
  have R : i_Rel (k + 2) (nI n, nI c, nI l, a) (nI n, nI l, al, an, ak) := ⟨n, c, l, f, g, ly, a, al, an, ak, rfl, rfl, A, S, T, K, E⟩
  refine ti_insX A S K.1.2.1 K.1.1 (fun z => ?_) (fun z1 z2 z3 a' A' => ?_)
  · refine ti_insY T K (fun _ => ⟨rfl, R⟩) (fun w1 w2 w3 => ?_)
    rcases z with z | z | ⟨i, hi, e⟩
    · exact absurd z w1
    · omega
    · obtain ⟨t, ht, e2⟩ := ti_mem E hi
      exact absurd (e2.trans e) (w3 t ht)
  · refine ti_insY T K (fun w => ?_) (fun w1 w2 w3 al' an' T' => ?_)
    · rcases w with w | w | ⟨i, hi, e⟩
      · exact absurd w z1
      · omega
      · obtain ⟨t, ht, e2⟩ := ti_mem (ti_same_sy E) hi
        exact absurd (e2.trans e) (z3 t ht)
    · refine ⟨by rw [E], n + 1, c, l, _, _, _, a', al', an', ak, rfl, rfl, A', ti_ins_so S z3, T', K, fun P => ?_⟩
      have h1 := ti_cn_le (ti_lt c) f n
      have h2 := ti_ins_cn P f (ti_cn (ti_lt c) f n) c (n - ti_cn (ti_lt c) f n)
      rw [show ti_cn (ti_lt c) f n + (n - ti_cn (ti_lt c) f n) = n by omega] at h2
      rw [h2, ti_cn_s, ti_rep_at, E, ti_cn_cg (f := ti_rep g n c) (g := g) n (fun i hi => ti_rep_ne (by omega))]
theorem i_vc_delete {k : Nat} {u : SX} {v : SY} (I : i_Rel k u v) (hk : k + 2 ≤ 1024) : wpX_delete (fun r u' => wpY_delete (fun r' v' => r' = r ∧ i_Rel (k + 2) u' v') v) u := by
  obtain ⟨n, c, l, f, g, ly, a, al, an, ak, rfl, rfl, A, S, T, K, E⟩ := I
  have R : i_Rel (k + 2) (nI n, nI c, nI l, a) (nI n, nI l, al, an, ak) := ⟨n, c, l, f, g, ly, a, al, an, ak, rfl, rfl, A, S, T, K, E⟩
  refine ti_delX A S K.1.2.1 (fun z => ?_) (fun m r e1 e2 h1 h2 a' A' => ?_)
  · refine ti_delY T K (fun _ => ⟨rfl, R⟩) (fun m t e1 h1 h2 => ?_)
    obtain ⟨i, hi, e2⟩ := ti_mem (ti_same_sy E) (show t < n by omega)
    exact absurd (e2.trans h2) (z i hi)
  · refine ti_delY T K (fun w => ?_) (fun m' t e1' h1' h2' al' an' T' => ?_)
    · obtain ⟨i, hi, e3⟩ := ti_mem E (show r < n by omega)
      exact absurd (e3.trans h2) (w i hi)
    · have em : m' = m := by omega
      subst em
      subst e1
      refine ⟨by rw [e2, E], m', c, l, _, _, _, a', al', an', ak, rfl, rfl, A', ti_del_so S, T', K, fun P => ?_⟩
      have q1 := ti_del_cn P f r (m' - r)
      rw [show r + (m' - r) = m' by omega, h2] at q1
      have q2 := ti_rep_last P g h1'
      rw [h2'] at q2
      have q3 := E P
      omega
theorem i_vc_size {k : Nat} {u : SX} {v : SY} (I : i_Rel k u v) (hk : k + 2 ≤ 1024) : wpX_size (fun r => wpY_size (fun r' => r' = r ∧ i_Rel (k + 2) u v) v) u := by
  have R := i_up I
  obtain ⟨n, c, l, f, g, ly, a, al, an, ak, rfl, rfl, A, S, T, K, E⟩ := I
  exact And.intro rfl R
theorem i_vc_before {k : Nat} {u : SX} {v : SY} (I : i_Rel k u v) (hk : k + 2 ≤ 1024) : wpX_before (fun r => wpY_before (fun r' => r' = r ∧ i_Rel (k + 2) u v) v) u := by
  have R := i_up I
  obtain ⟨n, c, l, f, g, ly, a, al, an, ak, rfl, rfl, A, S, T, K, E⟩ := I
  unfold wpX_before
  dsimp only
  exact ti_rank A K.1.2.1 (ti_befY T K ⟨by rw [E], R⟩)
theorem i_vc_held {k : Nat} {u : SX} {v : SY} (I : i_Rel k u v) (hk : k + 2 ≤ 1024) : wpX_held (fun r => wpY_held (fun r' => r' = r ∧ i_Rel (k + 2) u v) v) u := by
  have R := i_up I
  obtain ⟨n, c, l, f, g, ly, a, al, an, ak, rfl, rfl, A, S, T, K, E⟩ := I
  refine ti_hldX A S K.1.2.1 (fun z => ?_) (fun z => ?_)
  · refine ti_hldY T K (fun _ => ⟨rfl, R⟩) (fun w => ?_)
    obtain ⟨i, hi, e⟩ := z
    obtain ⟨t, ht, e2⟩ := ti_mem E hi
    exact absurd (e2.trans e) (w t ht)
  · refine ti_hldY T K (fun w => ?_) (fun _ => ⟨rfl, R⟩)
    obtain ⟨i, hi, e⟩ := w
    obtain ⟨t, ht, e2⟩ := ti_mem (ti_same_sy E) hi
    exact absurd (e2.trans e) (z t ht)
theorem i_vc_beginning {k : Nat} {u : SX} {v : SY} (I : i_Rel k u v) (hk : k + 2 ≤ 1024) : wpX_beginning (fun r => wpY_beginning (fun r' => r' = r ∧ i_Rel (k + 2) u v) v) u := by
  have R := i_up I
  obtain ⟨n, c, l, f, g, ly, a, al, an, ak, rfl, rfl, A, S, T, K, E⟩ := I
  exact ti_begX A K.1.2.1 K.1.1 (ti_begY T K ⟨by rw [E], R⟩)
theorem i_vc_common {k : Nat} {u : SX} {v : SY} (I : i_Rel k u v) (hk : k + 2 ≤ 1024) : wpX_common (fun r => wpY_common (fun r' => r' = r ∧ i_Rel (k + 2) u v) v) u := by
  have R := i_up I
  obtain ⟨n, c, l, f, g, ly, a, al, an, ak, rfl, rfl, A, S, T, K, E⟩ := I
  exact ti_comX A K.1.2.1 K.1.1 (ti_comY T K ⟨by rw [ti_mx_same _ E], R⟩)
end
