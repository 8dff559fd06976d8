/-- the two states hold the same number of terms, the same key, and, for every test of codes, as many terms that pass it; X's are sorted -/
def i_Rel (_ : Nat) (u : SX) (v : SY) : Prop := ∃ (n c l : Nat) (f g ly : Nat → Nat) (a al an ak : Nat → Int32), u = (nI n, nI c, nI l, a) ∧ v = (nI n, nI l, al, an, ak) ∧ ti_ar f n a ∧ ti_so f n ∧ ti_tb g ly n al an ∧ ti_ky c l ak ∧ ti_same f g n
theorem i_up {k : Nat} {u : SX} {v : SY} (h : i_Rel k u v) : i_Rel (k + 2) u v := h
theorem ti_ok0 : ti_ok 0 0 := ⟨by decide, by decide, fun i hi => absurd hi (Nat.not_lt_zero i), by decide⟩
theorem ti_ky0 (ak : Nat → Int32) : ti_ky 0 0 ak := ⟨ti_ok0, fun i hi => absurd hi (Nat.not_lt_zero i)⟩
theorem i_vc0 : wpX_init (fun u => wpY_init (fun v => i_Rel 0 u v)) := by
  show i_Rel 0 (0, 0, 0, (fun _ => 0)) (0, 0, (fun _ => 0), (fun _ => 0), (fun _ => 0))
  exact ⟨0, 0, 0, fun _ => 0, fun _ => 0, fun _ => 0, fun _ => 0, fun _ => 0, fun _ => 0, fun _ => 0, rfl, rfl, ⟨by decide, fun i hi => absurd hi (Nat.not_lt_zero i)⟩, fun i j _ hj => absurd hj (Nat.not_lt_zero j), ⟨by decide, fun i hi => absurd hi (Nat.not_lt_zero i)⟩, ti_ky0 _, fun _ => rfl⟩
theorem i_vc_type {k : Nat} {u : SX} {v : SY} (I : i_Rel k u v) (hk : k + 2 ≤ 1024) (v1 : Int32) : wpX_type (fun r u' => wpY_type (fun r' v' => r' = r ∧ i_Rel (k + 2) u' v') v v1) u v1 := by
  obtain ⟨n, c, l, f, g, ly, a, al, an, ak, rfl, rfl, A, S, T, K, E⟩ := I
  have R : i_Rel (k + 2) (nI n, nI c, nI l, a) (nI n, nI l, al, an, ak) := ⟨n, c, l, f, g, ly, a, al, an, ak, rfl, rfl, A, S, T, K, E⟩
  have hl := K.1.1
  by_cases h0 : v1 < 0
  · exact br_t h0 (br_t h0 ⟨rfl, R⟩)
  by_cases h9 : 9 < v1
  · exact br_f h0 (br_t h9 (br_f h0 (br_t h9 ⟨rfl, R⟩)))
  obtain ⟨j, hj, rfl⟩ := nI_of2 (M := 9) (n := 9) (by decide) h0 (Int32.not_lt.mp h9)
  refine br_f h0 (br_f h9 (pk_lt l 6 (fun z => ?_) (fun z => ?_)))
  · refine nm_r (nI_1 l) (ti_bb (by omega) ?_)
    have hm := K.1.2.2.2
    rw [show 4 * (6 - l) = 4 * (6 - (l + 1)) + 4 by omega] at hm
    rw [nI_1 j]
    refine nm_r (ti_or hm (by omega) (by omega)) ?_
    refine br_f h0 (br_f h9 (pk_eq l 6 (fun w => by omega) (fun w => ⟨vp_in_nI z (by omega), ?_⟩)))
    rw [nI_clamp (by omega)]
    have hT := ti_type K.1 z hj
    refine nm_e (nm_r (nI_1 l) ⟨rfl, n, _, l + 1, f, g, ly, a, al, an, _, rfl, rfl, A, S, T, ⟨hT.1, fun i hi => ?_⟩, E⟩)
    rcases Nat.lt_or_ge i l with y | y
    · rw [pk_un (by omega), hT.2.1 i y]
      exact K.2 i y
    · have e : i = l := by omega
      rw [e, hT.2.2]
      exact pk_us
  · exact br_f h0 (br_f h9 (pk_eq l 6 (fun _ => ⟨rfl, R⟩) (fun w => by omega)))
theorem i_vc_back {k : Nat} {u : SX} {v : SY} (I : i_Rel k u v) (hk : k + 2 ≤ 1024) : wpX_back (fun r u' => wpY_back (fun r' v' => r' = r ∧ i_Rel (k + 2) u' v') v) u := by
  obtain ⟨n, c, l, f, g, ly, a, al, an, ak, rfl, rfl, A, S, T, K, E⟩ := I
  have R : i_Rel (k + 2) (nI n, nI c, nI l, a) (nI n, nI l, al, an, ak) := ⟨n, c, l, f, g, ly, a, al, an, ak, rfl, rfl, A, S, T, K, E⟩
  have hl := K.1.1
  refine pk_eq l 0 (fun z => pk_eq l 0 (fun _ => ⟨rfl, R⟩) (fun w => absurd z w)) (fun z => ?_)
  obtain ⟨m, rfl⟩ : ∃ m, l = m + 1 := ⟨l - 1, by omega⟩
  have hB := ti_back K.1
  have hd := K.1.2.2.1 m (by omega)
  rw [nI_pred]
  refine ti_lo K.1.2.1 (by omega) (ti_bb hl ?_)
  rw [ti_p1 hd.1]
  have e : nI c &&& (((15 : Int32) <<< (nI (4 * (6 - (m + 1))) &&& 31)) ^^^ (-1)) = nI (ti_pf c m * 16 * 2 ^ (4 * (6 - (m + 1)))) := by
    have h := ti_andn (A := ti_pf c m) (s := 4 * (6 - (m + 1))) (ti_dg_lt c m) (by omega)
    rw [← hB.1] at h
    exact h
  refine nm_r e (nm_e ?_)
  refine br_f (nI_ne0 (by omega) (by omega)) (nm_r (nI_pred m) ⟨vp_in_nI (by omega) (by omega), ?_⟩)
  rw [nI_clamp (by omega)]
  exact ⟨K.2 m (by omega), n, _, m, f, g, ly, a, al, an, ak, rfl, rfl, A, S, T, ⟨hB.2.1, fun i hi => by rw [hB.2.2 i hi]; exact K.2 i (by omega)⟩, E⟩
theorem i_vc_erase {k : Nat} {u : SX} {v : SY} (I : i_Rel k u v) (hk : k + 2 ≤ 1024) : wpX_erase (fun u' => wpY_erase (fun v' => i_Rel (k + 2) u' v') v) u := by
  obtain ⟨n, c, l, f, g, ly, a, al, an, ak, rfl, rfl, A, S, T, K, E⟩ := I
  show i_Rel (k + 2) (nI n, 0, 0, a) (nI n, 0, al, an, ak)
  exact ⟨n, 0, 0, f, g, ly, a, al, an, ak, rfl, rfl, A, S, T, ti_ky0 ak, E⟩
theorem i_vc_load {k : Nat} {u : SX} {v : SY} (I : i_Rel k u v) (hk : k + 2 ≤ 1024) (v1 : Int32) : wpX_load (fun r u' => wpY_load (fun r' v' => r' = r ∧ i_Rel (k + 2) u' v') v v1) u v1 := by
  obtain ⟨n, c, l, f, g, ly, a, al, an, ak, rfl, rfl, A, S, T, K, E⟩ := I
  have R : i_Rel (k + 2) (nI n, nI c, nI l, a) (nI n, nI l, al, an, ak) := ⟨n, c, l, f, g, ly, a, al, an, ak, rfl, rfl, A, S, T, K, E⟩
  have hn := A.1
  have hc : ∀ t, ti_cn (ti_lt (g t)) g n ≤ n := fun t => ti_cn_le _ _ _
  have hr : ∀ t, t < n → ∃ i, i < n ∧ f i = g t ∧ ti_cn (ti_lt (g t)) g n = i := fun t ht => by
    obtain ⟨i, hi, e⟩ := ti_mem (ti_same_sy E) ht
    exact ⟨i, hi, e, by rw [← E, ← e]; exact ti_rk_own S hi⟩
  by_cases h0 : v1 < 0
  · refine br_t h0 (ti_ldY T (fun t ht e => ?_) (fun _ => ⟨rfl, R⟩))
    have := hc t
    exact absurd h0 (by rw [← e]; exact nI_pos (by omega))
  obtain ⟨r, hr2, rfl⟩ := nI_of h0
  refine br_f h0 (pk_lt r n (fun z => ?_) (fun z => ?_))
  · refine ⟨vp_in_nI (by omega) (by omega), ?_⟩
    rw [nI_clamp (by omega)]
    obtain ⟨t0, ht0, e0⟩ := ti_mem E z
    have ho := (T.2 t0 ht0).1
    have hr0 : ti_cn (ti_lt (g t0)) g n = r := by
      rw [← E, e0]; exact ti_rk_own S z
    rw [e0] at ho
    refine nm_r (A.2 r z).1 (ti_len ho ?_)
    refine ti_ldY T (fun t ht e ak' q => ?_) (fun w => absurd (by rw [hr0]) (w t0 ht0))
    obtain ⟨i, hi, e1, e2⟩ := hr t ht
    have e3 : i = r := by
      rw [e2] at e
      exact (nI_eq (by omega) (by omega)).mp e
    have hT := T.2 t ht
    rw [e3] at e1
    have el : ly t = ly t0 := by
      have h2 := hT.1
      rw [← e1] at h2
      exact ti_ok_u h2 ho
    refine ⟨by rw [el], n, f r, ly t, f, g, ly, a, al, an, ak', by rw [el], rfl, A, S, T, ⟨by rw [el]; exact ho, fun i hi => ?_⟩, E⟩
    rw [q i hi, e1]
    exact hT.2.2 i hi
  · refine ti_ldY T (fun t ht e => ?_) (fun _ => ⟨rfl, R⟩)
    obtain ⟨i, hi, e1, e2⟩ := hr t ht
    rw [e2] at e
    have := (nI_eq (by omega) hr2).mp e
    omega
theorem i_vc_letter {k : Nat} {u : SX} {v : SY} (I : i_Rel k u v) (hk : k + 2 ≤ 1024) (v1 : Int32) : wpX_letter (fun r => wpY_letter (fun r' => r' = r ∧ i_Rel (k + 2) u v) v v1) u v1 := by
  have R := i_up I
  obtain ⟨n, c, l, f, g, ly, a, al, an, ak, rfl, rfl, A, S, T, K, E⟩ := I
  have hl := K.1.1
  by_cases h0 : v1 < 0
  · exact br_t h0 (br_t h0 ⟨rfl, R⟩)
  obtain ⟨r, hr2, rfl⟩ := nI_of h0
  refine br_f h0 (pk_lt r l (fun z => ?_) (fun z => ?_))
  · refine ti_lo K.1.2.1 (by omega) ?_
    refine br_f h0 (pk_lt r l (fun _ => ⟨vp_in_nI (by omega) (by omega), ?_⟩) (fun w => by omega))
    rw [nI_clamp (by omega), K.2 r z, ti_p1 (K.1.2.2.1 r z).1]
    exact ⟨rfl, R⟩
  · exact br_f h0 (pk_lt r l (fun w => by omega) (fun _ => ⟨rfl, R⟩))
theorem i_vc_insert {k : Nat} {u : SX} {v : SY} (I : i_Rel k u v) (hk : k + 2 ≤ 1024) : wpX_insert (fun r u' => wpY_insert (fun r' v' => r' = r ∧ i_Rel (k + 2) u' v') v) u := by
  obtain ⟨n, c, l, f, g, ly, a, al, an, ak, rfl, rfl, A, S, T, K, E⟩ := I
  have R : i_Rel (k + 2) (nI n, nI c, nI l, a) (nI n, nI l, al, an, ak) := ⟨n, c, l, f, g, ly, a, al, an, ak, rfl, rfl, A, S, T, K, E⟩
  refine ti_insX A S K.1.2.1 K.1.1 (fun z => ?_) (fun z1 z2 z3 a' A' => ?_)
  · refine ti_insY T K (fun _ => ⟨rfl, R⟩) (fun w1 w2 w3 => ?_)
    rcases z with z | z | ⟨i, hi, e⟩
    · exact absurd z w1
    · omega
    · obtain ⟨t, ht, e2⟩ := ti_mem E hi
      exact absurd (e2.trans e) (w3 t ht)
  · refine ti_insY T K (fun w => ?_) (fun w1 w2 w3 al' an' T' => ?_)
    · rcases w with w | w | ⟨i, hi, e⟩
      · exact absurd w z1
      · omega
      · obtain ⟨t, ht, e2⟩ := ti_mem (ti_same_sy E) hi
        exact absurd (e2.trans e) (z3 t ht)
    · refine ⟨by rw [E], n + 1, c, l, _, _, _, a', al', an', ak, rfl, rfl, A', ti_ins_so S z3, T', K, fun P => ?_⟩
      have h1 := ti_cn_le (ti_lt c) f n
      have h2 := ti_ins_cn P f (ti_cn (ti_lt c) f n) c (n - ti_cn (ti_lt c) f n)
      rw [show ti_cn (ti_lt c) f n + (n - ti_cn (ti_lt c) f n) = n by omega] at h2
      rw [h2, ti_cn_s, ti_rep_at, E, ti_cn_cg (f := ti_rep g n c) (g := g) n (fun i hi => ti_rep_ne (by omega))]
theorem i_vc_delete {k : Nat} {u : SX} {v : SY} (I : i_Rel k u v) (hk : k + 2 ≤ 1024) : wpX_delete (fun r u' => wpY_delete (fun r' v' => r' = r ∧ i_Rel (k + 2) u' v') v) u := by
  obtain ⟨n, c, l, f, g, ly, a, al, an, ak, rfl, rfl, A, S, T, K, E⟩ := I
  have R : i_Rel (k + 2) (nI n, nI c, nI l, a) (nI n, nI l, al, an, ak) := ⟨n, c, l, f, g, ly, a, al, an, ak, rfl, rfl, A, S, T, K, E⟩
  refine ti_delX A S K.1.2.1 (fun z => ?_) (fun m r e1 e2 h1 h2 a' A' => ?_)
  · refine ti_delY T K (fun _ => ⟨rfl, R⟩) (fun m t e1 h1 h2 => ?_)
    obtain ⟨i, hi, e2⟩ := ti_mem (ti_same_sy E) (show t < n by omega)
    exact absurd (e2.trans h2) (z i hi)
  · refine ti_delY T K (fun w => ?_) (fun m' t e1' h1' h2' al' an' T' => ?_)
    · obtain ⟨i, hi, e3⟩ := ti_mem E (show r < n by omega)
      exact absurd (e3.trans h2) (w i hi)
    · have em : m' = m := by omega
      subst em
      subst e1
      refine ⟨by rw [e2, E], m', c, l, _, _, _, a', al', an', ak, rfl, rfl, A', ti_del_so S, T', K, fun P => ?_⟩
      have q1 := ti_del_cn P f r (m' - r)
      rw [show r + (m' - r) = m' by omega, h2] at q1
      have q2 := ti_rep_last P g h1'
      rw [h2'] at q2
      have q3 := E P
      omega
theorem i_vc_size {k : Nat} {u : SX} {v : SY} (I : i_Rel k u v) (hk : k + 2 ≤ 1024) : wpX_size (fun r => wpY_size (fun r' => r' = r ∧ i_Rel (k + 2) u v) v) u := by
  have R := i_up I
  obtain ⟨n, c, l, f, g, ly, a, al, an, ak, rfl, rfl, A, S, T, K, E⟩ := I
  exact And.intro rfl R
theorem i_vc_before {k : Nat} {u : SX} {v : SY} (I : i_Rel k u v) (hk : k + 2 ≤ 1024) : wpX_before (fun r => wpY_before (fun r' => r' = r ∧ i_Rel (k + 2) u v) v) u := by
  have R := i_up I
  obtain ⟨n, c, l, f, g, ly, a, al, an, ak, rfl, rfl, A, S, T, K, E⟩ := I
  unfold wpX_before
  dsimp only
  exact ti_rank A K.1.2.1 (ti_befY T K ⟨by rw [E], R⟩)
theorem i_vc_held {k : Nat} {u : SX} {v : SY} (I : i_Rel k u v) (hk : k + 2 ≤ 1024) : wpX_held (fun r => wpY_held (fun r' => r' = r ∧ i_Rel (k + 2) u v) v) u := by
  have R := i_up I
  obtain ⟨n, c, l, f, g, ly, a, al, an, ak, rfl, rfl, A, S, T, K, E⟩ := I
  refine ti_hldX A S K.1.2.1 (fun z => ?_) (fun z => ?_)
  · refine ti_hldY T K (fun _ => ⟨rfl, R⟩) (fun w => ?_)
    obtain ⟨i, hi, e⟩ := z
    obtain ⟨t, ht, e2⟩ := ti_mem E hi
    exact absurd (e2.trans e) (w t ht)
  · refine ti_hldY T K (fun w => ?_) (fun _ => ⟨rfl, R⟩)
    obtain ⟨i, hi, e⟩ := w
    obtain ⟨t, ht, e2⟩ := ti_mem (ti_same_sy E) hi
    exact absurd (e2.trans e) (z t ht)
theorem i_vc_beginning {k : Nat} {u : SX} {v : SY} (I : i_Rel k u v) (hk : k + 2 ≤ 1024) : wpX_beginning (fun r => wpY_beginning (fun r' => r' = r ∧ i_Rel (k + 2) u v) v) u := by
  have R := i_up I
  obtain ⟨n, c, l, f, g, ly, a, al, an, ak, rfl, rfl, A, S, T, K, E⟩ := I
  exact ti_begX A K.1.2.1 K.1.1 (ti_begY T K ⟨by rw [E], R⟩)
theorem i_vc_common {k : Nat} {u : SX} {v : SY} (I : i_Rel k u v) (hk : k + 2 ≤ 1024) : wpX_common (fun r => wpY_common (fun r' => r' = r ∧ i_Rel (k + 2) u v) v) u := by
  have R := i_up I
  obtain ⟨n, c, l, f, g, ly, a, al, an, ak, rfl, rfl, A, S, T, K, E⟩ := I
  exact ti_comX A K.1.2.1 K.1.1 (ti_comY T K ⟨by rw [ti_mx_same _ E], R⟩)
