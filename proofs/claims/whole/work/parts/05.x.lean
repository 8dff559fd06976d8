/-! X's walks against the pictures -/
theorem ti_bb {post : Int32 → Prop} {p : Nat} (h : p ≤ 6) (hp : post (nI (4 * (6 - p)))) : wpX_bitsBehind post (nI p) := by
  have e : (4 : Int32) * (6 - nI p) = nI (4 * (6 - p)) := by
    show nI 4 * (nI 6 - nI p) = _
    rw [pk_sub h, pk_mul]
  show post (4 * (6 - nI p))
  rw [e]; exact hp
theorem ti_sr {c l : Nat} (hc : c < 16777216) : nI c >>> (nI (4 * (6 - l)) &&& 31) = nI (ti_pf c l) := pk_shrN (by omega) _ _ (s_l _ (by omega))
theorem ti_pf_lt {c l : Nat} (hc : c < 16777216) : ti_pf c l < 16777216 := Nat.lt_of_le_of_lt (Nat.div_le_self _ _) hc
theorem ti_lo {post : Int32 → Prop} {c p : Nat} (hc : c < 16777216) (h : p < 6) (hp : post (nI (ti_dg c p) - 1)) : wpX_letterOf post (nI c) (nI p) := by
  show wpX_bitsBehind _ (nI p + 1)
  rw [nI_1]
  refine ti_bb h ?_
  intro y ey
  rw [ti_sr hc] at ey
  rw [ey, pk_andN (k := 4) (by have := ti_pf_lt (l := p + 1) hc; omega) (by decide)]
  exact hp
/-- a digit from 1 up, less 1 -/
theorem ti_p1 {d : Nat} (h : 1 ≤ d) : nI d - 1 = nI (d - 1) := by
  obtain ⟨e, rfl⟩ : ∃ e, d = e + 1 := ⟨d - 1, by omega⟩
  exact nI_pred e
theorem ti_len_w {post : Int32 → Prop} {c l : Nat} (h : ti_ok c l) (hp : post (nI l)) : ∀ d i, i + d = l → wX_lengthOf_2 post (nI c) (d + 1) (nI i) := by
  have hl := h.1
  intro d
  induction d with
  | zero =>
    intro i hi
    have e : i = l := by omega
    subst e
    refine pk_le 6 i (fun _ => hp) (fun z => ?_) 
    refine ti_lo h.2.1 z ?_
    refine br_t ?_ hp
    rw [ti_dg0 h (Nat.le_refl i) z]
    rfl
  | succ d ih =>
    intro i hi
    refine pk_le 6 i (fun z => by omega) (fun z => ?_)
    refine ti_lo h.2.1 z ?_
    have h1 := h.2.2.1 i (by omega)
    rw [ti_p1 h1.1]
    refine br_f ?_ (nm_r (nI_1 i) (ih (i + 1) (by omega)))
    intro y
    have := congrArg Int32.toInt y
    rw [nI_toInt (by omega), show (-1 : Int32).toInt = -1 from by decide] at this
    omega
theorem ti_len {post : Int32 → Prop} {c l : Nat} (h : ti_ok c l) (hp : post (nI l)) : wpX_lengthOf post (nI c) := by
  refine Exists.intro (l + 1) ?_
  exact ti_len_w h hp l 0 (by omega)
/-- X's array holds the codes f up to n -/
def ti_ar (f : Nat → Nat) (n : Nat) (a : Nat → Int32) : Prop := n ≤ 40 ∧ ∀ i, i < n → a i = nI (f i) ∧ f i < 16777216
theorem ti_rank_w {post : Int32 → Prop} {f : Nat → Nat} {n k : Nat} {kl : Int32} {a : Nat → Int32} (A : ti_ar f n a) (hk : k < 16777216) (hp : post (nI (ti_cn (ti_lt k) f n))) : ∀ d i, i + d = n → wX_rankOfKey_4 post (nI n) (nI k) kl a (d + 1) (nI (ti_cn (ti_lt k) f i)) (nI i) := by
  have hn := A.1
  intro d
  induction d with
  | zero =>
    intro i hi
    have e : i = n := by omega
    subst e
    exact pk_le i i (fun _ => hp) (fun z => by omega)
  | succ d ih =>
    intro i hi
    refine pk_le n i (fun z => by omega) (fun z => ?_)
    refine ⟨vp_in_nI (by omega) (by omega), ?_⟩
    have h := A.2 i z
    rw [nI_clamp (by omega), h.1]
    refine pk_le k (f i) (fun y => ?_) (fun y => ?_) rfl rfl (by omega) (by omega)
    · have e : ti_cn (ti_lt k) f (i + 1) = ti_cn (ti_lt k) f i := ti_cn_f (fun w => by have := of_decide_eq_true w; omega)
      refine nm_r (nI_1 i) ?_
      rw [← e]; exact ih (i + 1) (by omega)
    · have e : ti_cn (ti_lt k) f (i + 1) = ti_cn (ti_lt k) f i + 1 := ti_cn_t (decide_eq_true y)
      refine nm_r (nI_1 _) (nm_r (nI_1 i) ?_)
      rw [← e]; exact ih (i + 1) (by omega)
theorem ti_rank {post : Int32 → Prop} {f : Nat → Nat} {n k : Nat} {kl : Int32} {a : Nat → Int32} (A : ti_ar f n a) (hk : k < 16777216) (hp : post (nI (ti_cn (ti_lt k) f n))) : wpX_rankOfKey post (nI n, nI k, kl, a) := by
  refine Exists.intro (n + 1) ?_
  exact ti_rank_w A hk hp n 0 (by omega)
theorem ti_isk {post : Int32 → Prop} {f : Nat → Nat} {n k r : Nat} {kl : Int32} {a : Nat → Int32} (A : ti_ar f n a) (hk : k < 16777216) (hr : r ≤ n) (h1 : r < n → f r = k → post 1) (h0 : (r < n → f r ≠ k) → post 0) : wpX_isKeyAt post (nI n, nI k, kl, a) (nI r) := by
  have hn := A.1
  refine pk_le n r (fun z => h0 (fun y => by omega)) (fun z => ?_)
  refine ⟨vp_in_nI (by omega) (by omega), ?_⟩
  have h := A.2 r z
  rw [nI_clamp (by omega), h.1]
  exact pk_eq (f r) k (fun y => h1 z y) (fun y => h0 (fun _ => y)) rfl rfl (by omega) (by omega)
theorem ti_swk {post : Int32 → Prop} {c k l : Nat} {n kl : Int32} {a : Nat → Int32} (hc : c < 16777216) (hk : k < 16777216) (hl : l ≤ 6) (h1 : ti_pf c l = ti_pf k l → post 1) (h0 : ti_pf c l ≠ ti_pf k l → post 0) : wpX_sharesWithKey post (n, nI k, kl, a) (nI c) (nI l) := by
  unfold wpX_sharesWithKey
  dsimp only
  refine ti_bb hl ?_
  rw [ti_sr hc, ti_sr hk]
  exact pk_eq _ _ h1 h0 rfl rfl (by have := ti_pf_lt (l := l) hc; omega) (by have := ti_pf_lt (l := l) hk; omega)
theorem ti_begX_w {post : Int32 → Prop} {f : Nat → Nat} {n k l : Nat} {a : Nat → Int32} (A : ti_ar f n a) (hk : k < 16777216) (hl : l ≤ 6) (hp : post (nI (ti_cn (ti_bg k l) f n))) : ∀ d i, i + d = n → wX_beginning_4 post (nI n) (nI k) (nI l) a (d + 1) (nI (ti_cn (ti_bg k l) f i)) (nI i) := by
  have hn := A.1
  intro d
  induction d with
  | zero =>
    intro i hi
    have e : i = n := by omega
    subst e
    exact pk_le i i (fun _ => hp) (fun z => by omega)
  | succ d ih =>
    intro i hi
    refine pk_le n i (fun z => by omega) (fun z => ?_)
    refine ⟨vp_in_nI (by omega) (by omega), ?_⟩
    have h := A.2 i z
    rw [nI_clamp (by omega), h.1]
    refine ti_swk h.2 hk hl (fun y => ?_) (fun y => ?_)
    · have e : ti_cn (ti_bg k l) f (i + 1) = ti_cn (ti_bg k l) f i + 1 := ti_cn_t (decide_eq_true y)
      refine br_f (by decide) (nm_r (nI_1 _) (nm_r (nI_1 i) ?_))
      rw [← e]; exact ih (i + 1) (by omega)
    · have e : ti_cn (ti_bg k l) f (i + 1) = ti_cn (ti_bg k l) f i := ti_cn_f (fun w => y (of_decide_eq_true w))
      refine br_t rfl (nm_r (nI_1 i) ?_)
      rw [← e]; exact ih (i + 1) (by omega)
theorem ti_begX {post : Int32 → Prop} {f : Nat → Nat} {n k l : Nat} {a : Nat → Int32} (A : ti_ar f n a) (hk : k < 16777216) (hl : l ≤ 6) (hp : post (nI (ti_cn (ti_bg k l) f n))) : wpX_beginning post (nI n, nI k, nI l, a) := by
  refine Exists.intro (n + 1) ?_
  exact ti_begX_w A hk hl hp n 0 (by omega)
theorem ti_slX_w {post : Int32 → Prop} {n : Int32} {c k l : Nat} {a : Nat → Int32} (hc : c < 16777216) (hk : k < 16777216) (hl : l ≤ 6) : ∀ d i, i + d = l → ti_pf c i = ti_pf k i → post (nI (ti_sA c k l d i)) → wX_sharedLength_2 post (nI c) n (nI k) (nI l) a (d + 1) (nI i) := by
  intro d
  induction d with
  | zero =>
    intro i hi _ hp
    have e : i = l := by omega
    subst e
    exact pk_le i i (fun _ => hp) (fun z => by omega)
  | succ d ih =>
    intro i hi he hp
    refine pk_le l i (fun z => by omega) (fun z => ?_)
    rw [nI_1]
    refine ti_swk hc hk (by omega) (fun y => ?_) (fun y => ?_)
    · refine br_f (by decide) (nm_e (ih (i + 1) (by omega) y ?_))
      rw [ti_sA, if_pos ⟨z, (ti_pf_step (by omega) he).mp y⟩] at hp
      exact hp
    · refine br_t rfl ?_
      rw [ti_sA, if_neg (fun w => y ((ti_pf_step (by omega) he).mpr w.2))] at hp
      exact hp
theorem ti_slX {post : Int32 → Prop} {n : Int32} {c k l : Nat} {a : Nat → Int32} (hc : c < 16777216) (hk : k < 16777216) (hl : l ≤ 6) (hp : post (nI (ti_sh c k l))) : wpX_sharedLength post (n, nI k, nI l, a) (nI c) := by
  refine Exists.intro (l + 1) ?_
  exact ti_slX_w hc hk hl l 0 (by omega) (by rw [ti_pf_0 hc, ti_pf_0 hk]) hp
theorem ti_mcmp {A B : Prop} {g m : Nat} (hg : g < 1000) (hm : m < 1000) (f : g + 1 ≤ m → A) (h : m < g + 1 → B) : (nI g ≤ nI m - 1 → A) ∧ (¬ nI g ≤ nI m - 1 → B) := by
  cases m with
  | zero =>
    refine br_f ?_ (h (by omega))
    intro y
    rw [Int32.le_iff_toInt_le, nI_toInt (by omega), show (nI 0 - 1 : Int32).toInt = -1 from by decide] at y
    omega
  | succ m =>
    rw [nI_pred]
    exact pk_le g m (fun z => f (by omega)) (fun z => h (by omega))
theorem ti_sh_b {c k l : Nat} (hl : l ≤ 6) : ti_sh c k l < 7 := by have := (ti_sh_spec c k l).1; omega
theorem ti_comX_w {post : Int32 → Prop} {f : Nat → Nat} {n k l : Nat} {a : Nat → Int32} (A : ti_ar f n a) (hk : k < 16777216) (hl : l ≤ 6) (hp : post (nI (ti_mx (fun c => ti_sh c k l) f n) - 1)) : ∀ d i, i + d = n → wX_common_4 post (nI n) (nI k) (nI l) a (d + 1) (nI (ti_mx (fun c => ti_sh c k l) f i) - 1) (nI i) := by
  have hn := A.1
  intro d
  induction d with
  | zero =>
    intro i hi
    have e : i = n := by omega
    subst e
    exact pk_le i i (fun _ => hp) (fun z => by omega)
  | succ d ih =>
    intro i hi
    refine pk_le n i (fun z => by omega) (fun z => ?_)
    refine ⟨vp_in_nI (by omega) (by omega), ?_⟩
    have h := A.2 i z
    have hb := ti_sh_b (c := f i) (k := k) hl
    have hm := ti_mx_b (g := fun c => ti_sh c k l) (f := f) (b := 7) i (fun j _ => ti_sh_b hl)
    have e : ti_mx (fun c => ti_sh c k l) f (i + 1) = if ti_mx (fun c => ti_sh c k l) f i < ti_sh (f i) k l + 1 then ti_sh (f i) k l + 1 else ti_mx (fun c => ti_sh c k l) f i := rfl
    rw [nI_clamp (by omega), h.1]
    refine ti_slX h.2 hk hl ?_
    refine ti_mcmp (by omega) (by omega) (fun y => ?_) (fun y => ?_)
    · refine nm_r (nI_1 i) ?_
      rw [if_neg (by omega)] at e
      rw [← e]; exact ih (i + 1) (by omega)
    · refine nm_r (nI_1 i) ?_
      rw [if_pos y] at e
      have e2 := ih (i + 1) (by omega)
      rw [e, nI_pred] at e2
      exact e2
theorem ti_comX {post : Int32 → Prop} {f : Nat → Nat} {n k l : Nat} {a : Nat → Int32} (A : ti_ar f n a) (hk : k < 16777216) (hl : l ≤ 6) (hp : post (nI (ti_mx (fun c => ti_sh c k l) f n) - 1)) : wpX_common post (nI n, nI k, nI l, a) := by
  refine Exists.intro (n + 1) ?_
  exact ti_comX_w A hk hl hp n 0 (by omega)
/-! the shifts of X's array -/
theorem ti_insX_w {post : Int32 → SX → Prop} {r : Nat} {tc ky kl : Int32} : ∀ d (a : Nat → Int32), r + d < 40 → (∀ a' : Nat → Int32, (∀ i, i < r → a' i = a i) → (∀ i, r ≤ i → i < r + d → a' (i + 1) = a i) → (∀ i, r + d < i → a' i = a i) → post (nI r) (tc + 1, ky, kl, upd a' r ky)) → wX_insert_36 post (nI r) tc ky kl (d + 1) (nI (r + d)) a := by
  intro d
  induction d with
  | zero =>
    intro a hd hp
    refine pk_le r r (fun _ => ?_) (fun z => by omega)
    refine ⟨vp_in_nI (by omega) (by omega), ?_⟩
    rw [nI_clamp (by omega)]
    exact nm_e (nm_e (hp a (fun _ _ => rfl) (fun i h1 h2 => by omega) (fun _ _ => rfl)))
  | succ d ih =>
    intro a hd hp
    refine pk_le (r + (d + 1)) r (fun z => by omega) (fun z => ?_)
    have e : nI (r + (d + 1)) - 1 = nI (r + d) := nI_pred (r + d)
    rw [e]
    refine ⟨vp_in_nI (by omega) (by omega), vp_in_nI (by omega) (by omega), ?_⟩
    rw [nI_clamp (by omega), nI_clamp (by omega)]
    refine nm_e (nm_r (pk_m1 (r + d)) (ih _ (by omega) (fun a' h1 h2 h3 => ?_)))
    refine hp a' (fun i hi => ?_) (fun i hi hj => ?_) (fun i hi => ?_)
    · rw [h1 i hi, pk_un (by omega)]
    · rcases Nat.lt_or_ge i (r + d) with y | y
      · rw [h2 i hi y, pk_un (by omega)]
      · have e2 : i = r + d := by omega
        rw [e2, h3 (r + d + 1) (by omega)]
        exact pk_us
    · rw [h3 i (by omega), pk_un (by omega)]
theorem ti_delX_w {post : Int32 → SX → Prop} {r n : Nat} {ky kl : Int32} (hn : n < 40) : ∀ d j (a : Nat → Int32), j + d = n → (∀ a' : Nat → Int32, (∀ i, i < j → a' i = a i) → (∀ i, j ≤ i → i < n → a' i = a (i + 1)) → post (nI r) (nI n, ky, kl, a')) → wX_delete_27 post (nI r) (nI n) ky kl (d + 1) (nI j) a := by
  intro d
  induction d with
  | zero =>
    intro j a hj hp
    exact pk_le n j (fun _ => hp a (fun _ _ => rfl) (fun i h1 h2 => by omega)) (fun z => by omega)
  | succ d ih =>
    intro j a hj hp
    refine pk_le n j (fun z => by omega) (fun z => ?_)
    rw [nI_1 j]
    refine ⟨vp_in_nI (by omega) (by omega), vp_in_nI (by omega) (by omega), ?_⟩
    rw [nI_clamp (by omega), nI_clamp (by omega)]
    refine nm_e (nm_e (ih (j + 1) _ (by omega) (fun a' h1 h2 => ?_)))
    refine hp a' (fun i hi => ?_) (fun i hi hj => ?_)
    · rw [h1 i (by omega), pk_un (by omega)]
    · rcases Nat.lt_or_ge j i with y | y
      · rw [h2 i (by omega) hj, pk_un (by omega)]
      · have e2 : i = j := by omega
        rw [e2, h1 j (by omega)]
        exact pk_us
