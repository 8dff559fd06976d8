/-! a digit put at the end of a row, and taken away, in bits -/
theorem ti_nor (a b : Nat) : nI a ||| nI b = nI (a ||| b) := by
  apply Int32.toBitVec_inj.1
  show BitVec.ofNat 32 a ||| BitVec.ofNat 32 b = BitVec.ofNat 32 (a ||| b)
  apply BitVec.eq_of_getLsbD_eq
  intro i hi
  simp [hi]
theorem ti_or {k d s : Nat} (hk : k % 2 ^ (s + 4) = 0) (hd : d < 16) (hs : s ≤ 20) : nI k ||| (nI d <<< (nI s &&& 31)) = nI (k + d * 2 ^ s) := by
  have h1 : d * 2 ^ s < 2 ^ (s + 4) := by
    rw [Nat.pow_add, Nat.mul_comm (2 ^ s)]
    exact Nat.mul_lt_mul_of_pos_right hd (Nat.two_pow_pos s)
  have h2 : 2 ^ (s + 4) ≤ 2 ^ 24 := Nat.pow_le_pow_right (by decide) (by omega)
  rw [pk_shlN _ s (s_l s (by omega)) (by omega), ti_nor]
  obtain ⟨m, rfl⟩ := Nat.dvd_of_mod_eq_zero hk
  rw [Nat.two_pow_add_eq_or_of_lt h1]
theorem ti_bt {x i : Nat} (hi : i < 32) : bt (nI x) i = x.testBit i := by
  unfold bt
  show (BitVec.ofNat 32 x).getLsbD i = _
  rw [BitVec.getLsbD_ofNat]
  simp [hi]
theorem ti_15 : ∀ i, i < 32 → bt 15 i = decide (i < 4) := by decide +kernel
theorem ti_andn {A d s : Nat} (hd : d < 16) (hs : s ≤ 20) : nI ((A * 16 + d) * 2 ^ s) &&& (((15 : Int32) <<< (nI s &&& 31)) ^^^ (-1)) = nI (A * 16 * 2 ^ s) := by
  apply b_ext
  intro i hi
  rw [b_and, b_xor, b_shl s (by omega) _ hi, b_m1 i hi, ti_bt hi, ti_bt hi, Nat.mul_comm _ (2 ^ s), Nat.mul_comm _ (2 ^ s), Nat.testBit_two_pow_mul, Nat.testBit_two_pow_mul]
  rcases Nat.lt_or_ge i s with h | h
  · have : ¬ s ≤ i := by omega
    simp [this]
  · rw [ti_15 _ (by omega), Nat.mul_comm A 16, show (16 : Nat) = 2 ^ 4 from rfl, Nat.testBit_two_pow_mul, Nat.testBit_two_pow_mul_add _ hd]
    rcases Nat.lt_or_ge (i - s) 4 with z | z
    · have : ¬ 4 ≤ i - s := by omega
      simp [h, z, this]
    · have : ¬ i - s < 4 := by omega
      simp [h, z, this]
theorem ti_pow (n : Nat) (h : n < 6) : 2 ^ (4 * (6 - n)) = 2 ^ (4 * (6 - (n + 1))) * 16 := by
  have e : 4 * (6 - n) = 4 * (6 - (n + 1)) + 4 := by omega
  rw [e, Nat.pow_add]
theorem ti_type {k l j : Nat} (h : ti_ok k l) (hl : l < 6) (hj : j ≤ 9) : ti_ok (k + (j + 1) * 2 ^ (4 * (6 - (l + 1)))) (l + 1) ∧ (∀ i, i < l → ti_dg (k + (j + 1) * 2 ^ (4 * (6 - (l + 1)))) i = ti_dg k i) ∧ ti_dg (k + (j + 1) * 2 ^ (4 * (6 - (l + 1)))) l = j + 1 := by
  obtain ⟨h1, h2, h3, h4⟩ := h
  have hp := ti_pow l hl
  have hx : (j + 1) * 2 ^ (4 * (6 - (l + 1))) < 2 ^ (4 * (6 - l)) := by
    rw [hp, Nat.mul_comm _ 16]
    exact Nat.mul_lt_mul_of_pos_right (by omega) (Nat.two_pow_pos _)
  have hd : ∀ i, i < l → ti_dg (k + (j + 1) * 2 ^ (4 * (6 - (l + 1)))) i = ti_dg k i := fun i hi => ti_dg_add h4 hx hi h1
  have hq : ti_pf (k + (j + 1) * 2 ^ (4 * (6 - (l + 1)))) (l + 1) = ti_pf k l * 16 + (j + 1) := by
    have e : k = ti_pf k l * 16 * 2 ^ (4 * (6 - (l + 1))) := by
      have e1 := Nat.div_add_mod k (2 ^ (4 * (6 - l)))
      rw [h4, Nat.add_zero, Nat.mul_comm, hp, ← Nat.mul_assoc, Nat.mul_right_comm] at e1
      unfold ti_pf
      rw [hp]
      exact e1.symm
    have e2 : k + (j + 1) * 2 ^ (4 * (6 - (l + 1))) = (ti_pf k l * 16 + (j + 1)) * 2 ^ (4 * (6 - (l + 1))) := by
      rw [Nat.add_mul (ti_pf k l * 16) (j + 1), ← e]
    unfold ti_pf at e2 ⊢
    rw [e2, Nat.mul_div_cancel _ (Nat.two_pow_pos _)]
  have hl' : ti_dg (k + (j + 1) * 2 ^ (4 * (6 - (l + 1)))) l = j + 1 := by
    unfold ti_dg
    rw [hq]
    omega
  refine ⟨⟨by omega, ?_, ?_, ?_⟩, hd, hl'⟩
  · have a : ti_pf (k + (j + 1) * 2 ^ (4 * (6 - (l + 1)))) 0 = 0 := by
      rw [ti_pf_add h4 hx (Nat.zero_le l) h1, ti_pf_0 h2]
    exact (Nat.div_eq_zero_iff_lt (show 0 < 2 ^ (4 * (6 - 0)) by decide)).mp a
  · intro i hi
    rcases Nat.lt_or_ge i l with z | z
    · rw [hd i z]; exact h3 i z
    · have : i = l := by omega
      rw [this, hl']
      omega
  · rw [Nat.add_mod, Nat.mul_mod_left, ti_mod_up h4 (Nat.le_succ l)]
    simp
theorem ti_back {k l : Nat} (h : ti_ok k (l + 1)) : k = (ti_pf k l * 16 + ti_dg k l) * 2 ^ (4 * (6 - (l + 1))) ∧ ti_ok (ti_pf k l * 16 * 2 ^ (4 * (6 - (l + 1)))) l ∧ (∀ i, i < l → ti_dg (ti_pf k l * 16 * 2 ^ (4 * (6 - (l + 1)))) i = ti_dg k i) := by
  obtain ⟨h1, h2, h3, h4⟩ := h
  have hp := ti_pow l (by omega)
  have e : k = (ti_pf k l * 16 + ti_dg k l) * 2 ^ (4 * (6 - (l + 1))) := by
    rw [← ti_pf_s k (by omega)]
    have e1 := Nat.div_add_mod k (2 ^ (4 * (6 - (l + 1))))
    rw [h4, Nat.add_zero, Nat.mul_comm] at e1
    exact e1.symm
  have hm : ti_pf k l * 16 * 2 ^ (4 * (6 - (l + 1))) % 2 ^ (4 * (6 - l)) = 0 := by
    rw [hp, Nat.mul_assoc, Nat.mul_comm 16]
    exact Nat.mul_mod_left _ _
  have hx : ti_dg k l * 2 ^ (4 * (6 - (l + 1))) < 2 ^ (4 * (6 - l)) := by
    rw [hp, Nat.mul_comm _ 16]
    exact Nat.mul_lt_mul_of_pos_right (ti_dg_lt k l) (Nat.two_pow_pos _)
  have e3 : k = ti_pf k l * 16 * 2 ^ (4 * (6 - (l + 1))) + ti_dg k l * 2 ^ (4 * (6 - (l + 1))) := by
    rw [← Nat.add_mul]; exact e
  have hd : ∀ i, i < l → ti_dg (ti_pf k l * 16 * 2 ^ (4 * (6 - (l + 1)))) i = ti_dg k i := by
    intro i hi
    have a := ti_dg_add hm hx hi (by omega)
    rw [← e3] at a
    exact a.symm
  refine ⟨e, ⟨by omega, by omega, ?_, hm⟩, hd⟩
  intro i hi
  rw [hd i hi]
  exact h3 i (by omega)
