/-! Y's walks against the pictures -/
/-- Y's table holds the codes g, of lengths ly, up to n -/
def ti_tb (g ly : Nat → Nat) (n : Nat) (al an : Nat → Int32) : Prop := n ≤ 40 ∧ ∀ t, t < n → ti_ok (g t) (ly t) ∧ an t = nI (ly t) ∧ ∀ i, i < ly t → al (6 * t + i) = nI (ti_dg (g t) i - 1)
def ti_ky (k l : Nat) (ak : Nat → Int32) : Prop := ti_ok k l ∧ ∀ i, i < l → ak i = nI (ti_dg k i - 1)
theorem ti_ix (t i : Nat) : (6 : Int32) * nI t + nI i = nI (6 * t + i) := by
  show nI 6 * nI t + nI i = _
  rw [pk_mul, nI_add]
theorem ti_shY_w {post : Int32 → Prop} {g ly : Nat → Nat} {n k l t : Nat} {fn : Int32} {al an ak : Nat → Int32} (T : ti_tb g ly n al an) (K : ti_ky k l ak) (ht : t < n) : ∀ d i, i + d = l → post (nI (ti_sA (g t) k l d i)) → wY_shared_2 post (nI t) fn (nI l) al an ak (d + 1) (nI i) := by
  have hn := T.1
  have hT := T.2 t ht
  have hl := K.1.1
  have hlt := hT.1.1
  intro d
  induction d with
  | zero =>
    intro i hi hp
    have e : i = l := by omega
    subst e
    exact pk_le i i (fun _ => hp) (fun z => by omega)
  | succ d ih =>
    intro i hi hp
    refine pk_le l i (fun z => by omega) (fun z => ?_)
    refine ⟨vp_in_nI (by omega) (by omega), ?_⟩
    have hk := K.1.2.2.1 i z
    rw [nI_clamp (n := t) (by omega), hT.2.1]
    refine pk_le (ly t) i (fun y => ?_) (fun y => ?_)
    · have hz := ti_dg0 hT.1 y (by omega)
      rw [ti_sA, if_neg (fun w => by have := w.2; omega)] at hp
      exact hp
    · have hc := hT.1.2.2.1 i y
      rw [ti_ix]
      refine ⟨vp_in_nI (by omega) (by omega), vp_in_nI (by omega) (by omega), ?_⟩
      rw [nI_clamp (by omega), nI_clamp (by omega), hT.2.2 i y, K.2 i z]
      refine pk_eq _ _ (fun x => ?_) (fun x => ?_) rfl rfl (by omega) (by omega)
      · rw [ti_sA, if_pos ⟨z, by omega⟩] at hp
        exact nm_r (nI_1 i) (ih (i + 1) (by omega) hp)
      · rw [ti_sA, if_neg (fun w => by have := w.2; omega)] at hp
        exact hp
theorem ti_shY {post : Int32 → Prop} {g ly : Nat → Nat} {n k l t : Nat} {fn : Int32} {al an ak : Nat → Int32} (T : ti_tb g ly n al an) (K : ti_ky k l ak) (ht : t < n) (hp : post (nI (ti_sh (g t) k l))) : wpY_shared post (fn, nI l, al, an, ak) (nI t) := by
  refine Exists.intro (l + 1) ?_
  exact ti_shY_w T K ht l 0 (by omega) hp
theorem ti_preY {post : Int32 → Prop} {g ly : Nat → Nat} {n k l t : Nat} {fn : Int32} {al an ak : Nat → Int32} (T : ti_tb g ly n al an) (K : ti_ky k l ak) (ht : t < n) (h1 : g t < k → post 1) (h0 : ¬ g t < k → post 0) : wpY_precedes post (fn, nI l, al, an, ak) (nI t) := by
  have hn := T.1
  have hT := T.2 t ht
  have hl := K.1.1
  have hlt := hT.1.1
  have hs := ti_sh_spec (g t) k l
  have he := ti_sh_pf (c := g t) (k := k) (kl := l) hT.1.2.1 K.1.2.1 hl
  unfold wpY_precedes
  dsimp only
  refine ti_shY T K ht ?_
  generalize ti_sh (g t) k l = r at hs he
  refine pk_lt r l (fun z => ?_) (fun z => ?_)
  · refine ⟨vp_in_nI (by omega) (by omega), ?_⟩
    have hk := K.1.2.2.1 r z
    rw [nI_clamp (n := t) (by omega), hT.2.1]
    refine pk_le (ly t) r (fun y => ?_) (fun y => ?_)
    · have hz := ti_dg0 hT.1 y (by omega)
      exact h1 (ti_lt_dg (i := r) (by omega) he (by omega))
    · have hc := hT.1.2.2.1 r y
      have hd := hs.2.2 z
      rw [ti_ix]
      refine ⟨vp_in_nI (by omega) (by omega), vp_in_nI (by omega) (by omega), ?_⟩
      rw [nI_clamp (by omega), nI_clamp (by omega), hT.2.2 r y, K.2 r z]
      refine pk_le _ _ (fun x => ?_) (fun x => ?_) rfl rfl (by omega) (by omega)
      · have := ti_lt_dg (i := r) (by omega) he.symm (by omega)
        exact h0 (by omega)
      · exact h1 (ti_lt_dg (i := r) (by omega) he (by omega))
  · have e : r = l := by omega
    subst e
    have := ti_ge K.1 (Nat.le_refl r) he
    exact h0 (by omega)
theorem ti_lessY_w {post : Int32 → Prop} {g ly : Nat → Nat} {n s t : Nat} {fn fl : Int32} {al an ak : Nat → Int32} (T : ti_tb g ly n al an) (hs : s < n) (ht : t < n) (h1 : g s < g t → post 1) (h0 : ¬ g s < g t → post 0) : ∀ d i, i + d = 6 → ti_pf (g s) i = ti_pf (g t) i → wY_less_2 post (nI s) (nI t) fn fl al an ak (d + 1) (nI i) := by
  have hn := T.1
  have hS := T.2 s hs
  have hT := T.2 t ht
  have hls := hS.1.1
  have hlt := hT.1.1
  intro d
  induction d with
  | zero =>
    intro i hi he
    have e : i = 6 := by omega
    subst e
    rw [ti_pf_6, ti_pf_6] at he
    exact pk_le 6 6 (fun _ => h0 (by omega)) (fun z => by omega)
  | succ d ih =>
    intro i hi he
    refine pk_le 6 i (fun z => by omega) (fun z => ?_)
    refine ⟨vp_in_nI (by omega) (by omega), ?_⟩
    rw [nI_clamp (n := t) (by omega), hT.2.1]
    refine pk_lt i (ly t) (fun y => ?_) (fun y => ?_)
    · have hc := hT.1.2.2.1 i y
      refine ⟨vp_in_nI (by omega) (by omega), ?_⟩
      rw [nI_clamp (n := s) (by omega), hS.2.1]
      refine pk_lt i (ly s) (fun x => ?_) (fun x => ?_)
      · have hb := hS.1.2.2.1 i x
        rw [ti_ix, ti_ix]
        refine ⟨vp_in_nI (by omega) (by omega), vp_in_nI (by omega) (by omega), ?_⟩
        rw [nI_clamp (by omega), nI_clamp (by omega), hT.2.2 i y, hS.2.2 i x]
        refine pk_eq _ _ (fun w => ?_) (fun w => ?_) rfl rfl (by omega) (by omega)
        · exact nm_r (nI_1 i) (ih (i + 1) (by omega) ((ti_pf_step z he).mpr (by omega)))
        · refine ⟨vp_in_nI (by omega) (by omega), vp_in_nI (by omega) (by omega), ?_⟩
          refine pk_le _ _ (fun v => ?_) (fun v => ?_) rfl rfl (by omega) (by omega)
          · have := ti_lt_dg z he.symm (by omega)
            exact h0 (by omega)
          · exact h1 (ti_lt_dg z he (by omega))
      · have hz := ti_dg0 hS.1 x z
        exact h1 (ti_lt_dg z he (by omega))
    · have := ti_ge hT.1 y he
      exact h0 (by omega)
theorem ti_lessY {post : Int32 → Prop} {g ly : Nat → Nat} {n s t : Nat} {fn fl : Int32} {al an ak : Nat → Int32} (T : ti_tb g ly n al an) (hs : s < n) (ht : t < n) (h1 : g s < g t → post 1) (h0 : ¬ g s < g t → post 0) : wpY_less post (fn, fl, al, an, ak) (nI s) (nI t) := by
  refine Exists.intro 7 ?_
  exact ti_lessY_w T hs ht h1 h0 6 0 (by omega) (by rw [ti_pf_0 (T.2 s hs).1.2.1, ti_pf_0 (T.2 t ht).1.2.1])
theorem ti_rkY_w {post : Int32 → Prop} {g ly : Nat → Nat} {n t : Nat} {fl : Int32} {al an ak : Nat → Int32} (T : ti_tb g ly n al an) (ht : t < n) (hp : post (nI (ti_cn (ti_lt (g t)) g n))) : ∀ d i, i + d = n → wY_rankOf_4 post (nI t) (nI n) fl al an ak (d + 1) (nI (ti_cn (ti_lt (g t)) g i)) (nI i) := by
  have hn := T.1
  intro d
  induction d with
  | zero =>
    intro i hi
    have e : i = n := by omega
    subst e
    exact pk_le i i (fun _ => hp) (fun z => by omega)
  | succ d ih =>
    intro i hi
    refine pk_le n i (fun z => by omega) (fun z => ?_)
    refine ti_lessY T z ht (fun y => ?_) (fun y => ?_)
    · have e : ti_cn (ti_lt (g t)) g (i + 1) = ti_cn (ti_lt (g t)) g i + 1 := ti_cn_t (decide_eq_true y)
      refine br_f (by decide) (nm_r (nI_1 _) (nm_r (nI_1 i) ?_))
      rw [← e]; exact ih (i + 1) (by omega)
    · have e : ti_cn (ti_lt (g t)) g (i + 1) = ti_cn (ti_lt (g t)) g i := ti_cn_f (fun w => y (of_decide_eq_true w))
      refine br_t rfl (nm_r (nI_1 i) ?_)
      rw [← e]; exact ih (i + 1) (by omega)
theorem ti_rkY {post : Int32 → Prop} {g ly : Nat → Nat} {n t : Nat} {fl : Int32} {al an ak : Nat → Int32} (T : ti_tb g ly n al an) (ht : t < n) (hp : post (nI (ti_cn (ti_lt (g t)) g n))) : wpY_rankOf post (nI n, fl, al, an, ak) (nI t) := by
  refine Exists.intro (n + 1) ?_
  exact ti_rkY_w T ht hp n 0 (by omega)
theorem ti_befY_w {post : Int32 → Prop} {g ly : Nat → Nat} {n k l : Nat} {al an ak : Nat → Int32} (T : ti_tb g ly n al an) (K : ti_ky k l ak) (hp : post (nI (ti_cn (ti_lt k) g n))) : ∀ d i, i + d = n → wY_before_4 post (nI n) (nI l) al an ak (d + 1) (nI (ti_cn (ti_lt k) g i)) (nI i) := by
  have hn := T.1
  intro d
  induction d with
  | zero =>
    intro i hi
    have e : i = n := by omega
    subst e
    exact pk_le i i (fun _ => hp) (fun z => by omega)
  | succ d ih =>
    intro i hi
    refine pk_le n i (fun z => by omega) (fun z => ?_)
    refine ti_preY T K z (fun y => ?_) (fun y => ?_)
    · have e : ti_cn (ti_lt k) g (i + 1) = ti_cn (ti_lt k) g i + 1 := ti_cn_t (decide_eq_true y)
      refine br_f (by decide) (nm_r (nI_1 _) (nm_r (nI_1 i) ?_))
      rw [← e]; exact ih (i + 1) (by omega)
    · have e : ti_cn (ti_lt k) g (i + 1) = ti_cn (ti_lt k) g i := ti_cn_f (fun w => y (of_decide_eq_true w))
      refine br_t rfl (nm_r (nI_1 i) ?_)
      rw [← e]; exact ih (i + 1) (by omega)
theorem ti_befY {post : Int32 → Prop} {g ly : Nat → Nat} {n k l : Nat} {al an ak : Nat → Int32} (T : ti_tb g ly n al an) (K : ti_ky k l ak) (hp : post (nI (ti_cn (ti_lt k) g n))) : wpY_before post (nI n, nI l, al, an, ak) := by
  refine Exists.intro (n + 1) ?_
  exact ti_befY_w T K hp n 0 (by omega)
theorem ti_begY_w {post : Int32 → Prop} {g ly : Nat → Nat} {n k l : Nat} {al an ak : Nat → Int32} (T : ti_tb g ly n al an) (K : ti_ky k l ak) (hp : post (nI (ti_cn (ti_bg k l) g n))) : ∀ d i, i + d = n → wY_beginning_4 post (nI n) (nI l) al an ak (d + 1) (nI (ti_cn (ti_bg k l) g i)) (nI i) := by
  have hn := T.1
  have hl := K.1.1
  intro d
  induction d with
  | zero =>
    intro i hi
    have e : i = n := by omega
    subst e
    exact pk_le i i (fun _ => hp) (fun z => by omega)
  | succ d ih =>
    intro i hi
    refine pk_le n i (fun z => by omega) (fun z => ?_)
    refine ti_shY T K z ?_
    have ha := ti_sh_all (T.2 i z).1.2.1 K.1.2.1 hl
    have hb := ti_sh_b (c := g i) (k := k) hl
    refine pk_eq (ti_sh (g i) k l) l (fun y => ?_) (fun y => ?_)
    · have e : ti_cn (ti_bg k l) g (i + 1) = ti_cn (ti_bg k l) g i + 1 := ti_cn_t (decide_eq_true (ha.mp y))
      refine nm_r (nI_1 _) (nm_r (nI_1 i) ?_)
      rw [← e]; exact ih (i + 1) (by omega)
    · have e : ti_cn (ti_bg k l) g (i + 1) = ti_cn (ti_bg k l) g i := ti_cn_f (fun w => y (ha.mpr (of_decide_eq_true w)))
      refine nm_r (nI_1 i) ?_
      rw [← e]; exact ih (i + 1) (by omega)
theorem ti_begY {post : Int32 → Prop} {g ly : Nat → Nat} {n k l : Nat} {al an ak : Nat → Int32} (T : ti_tb g ly n al an) (K : ti_ky k l ak) (hp : post (nI (ti_cn (ti_bg k l) g n))) : wpY_beginning post (nI n, nI l, al, an, ak) := by
  refine Exists.intro (n + 1) ?_
  exact ti_begY_w T K hp n 0 (by omega)
theorem ti_comY_w {post : Int32 → Prop} {g ly : Nat → Nat} {n k l : Nat} {al an ak : Nat → Int32} (T : ti_tb g ly n al an) (K : ti_ky k l ak) (hp : post (nI (ti_mx (fun c => ti_sh c k l) g n) - 1)) : ∀ d i, i + d = n → wY_common_4 post (nI n) (nI l) al an ak (d + 1) (nI (ti_mx (fun c => ti_sh c k l) g i) - 1) (nI i) := by
  have hn := T.1
  have hl := K.1.1
  intro d
  induction d with
  | zero =>
    intro i hi
    have e : i = n := by omega
    subst e
    exact pk_le i i (fun _ => hp) (fun z => by omega)
  | succ d ih =>
    intro i hi
    refine pk_le n i (fun z => by omega) (fun z => ?_)
    have hb := ti_sh_b (c := g i) (k := k) hl
    have hm := ti_mx_b (g := fun c => ti_sh c k l) (f := g) (b := 7) i (fun j _ => ti_sh_b hl)
    have e : ti_mx (fun c => ti_sh c k l) g (i + 1) = if ti_mx (fun c => ti_sh c k l) g i < ti_sh (g i) k l + 1 then ti_sh (g i) k l + 1 else ti_mx (fun c => ti_sh c k l) g i := rfl
    refine ti_shY T K z ?_
    refine ti_mcmp (by omega) (by omega) (fun y => ?_) (fun y => ?_)
    · refine nm_r (nI_1 i) ?_
      rw [if_neg (by omega)] at e
      rw [← e]; exact ih (i + 1) (by omega)
    · refine nm_r (nI_1 i) ?_
      rw [if_pos y] at e
      have e2 := ih (i + 1) (by omega)
      rw [e, nI_pred] at e2
      exact e2
theorem ti_comY {post : Int32 → Prop} {g ly : Nat → Nat} {n k l : Nat} {al an ak : Nat → Int32} (T : ti_tb g ly n al an) (K : ti_ky k l ak) (hp : post (nI (ti_mx (fun c => ti_sh c k l) g n) - 1)) : wpY_common post (nI n, nI l, al, an, ak) := by
  refine Exists.intro (n + 1) ?_
  exact ti_comY_w T K hp n 0 (by omega)
theorem ti_samY_w {post : Int32 → Prop} {g ly : Nat → Nat} {n k l : Nat} {al an ak : Nat → Int32} (T : ti_tb g ly n al an) (K : ti_ky k l ak) (h1 : ∀ t, t < n → g t = k → post (nI t)) : ∀ d i, i + d = n → ((∀ t, i ≤ t → t < n → g t ≠ k) → post (-1)) → wY_same_2 post (nI n) (nI l) al an ak (d + 1) (nI i) := by
  have hn := T.1
  have hl := K.1.1
  intro d
  induction d with
  | zero =>
    intro i hi h0
    exact pk_le n i (fun _ => h0 (fun t a b => by omega)) (fun z => by omega)
  | succ d ih =>
    intro i hi h0
    refine pk_le n i (fun z => by omega) (fun z => ?_)
    refine ⟨vp_in_nI (by omega) (by omega), ?_⟩
    have hT := T.2 i z
    have hlt := hT.1.1
    have go : g i ≠ k → wY_same_2 post (nI n) (nI l) al an ak (d + 1) (nI (i + 1)) := fun w => ih (i + 1) (by omega) (fun v => h0 (fun t a b => by
      rcases Nat.lt_or_ge i t with x | x
      · exact v t x b
      · have e : t = i := by omega
        rw [e]; exact w))
    rw [nI_clamp (by omega), hT.2.1]
    refine pk_eq (ly i) l (fun y => ?_) (fun y => ?_)
    · refine ti_shY T K z ?_
      have ha := ti_sh_same hT.1 K.1 y
      have hb := ti_sh_b (c := g i) (k := k) hl
      refine pk_eq (ti_sh (g i) k l) l (fun x => ?_) (fun x => ?_)
      · exact h1 i z (ha.mp x)
      · exact nm_r (nI_1 i) (go (fun w => x (ha.mpr w)))
    · refine nm_r (nI_1 i) (go (fun w => y ?_))
      have h2 := hT.1
      rw [w] at h2
      exact ti_ok_u h2 K.1
theorem ti_samY {post : Int32 → Prop} {g ly : Nat → Nat} {n k l : Nat} {al an ak : Nat → Int32} (T : ti_tb g ly n al an) (K : ti_ky k l ak) (h1 : ∀ t, t < n → g t = k → post (nI t)) (h0 : (∀ t, t < n → g t ≠ k) → post (-1)) : wpY_same post (nI n, nI l, al, an, ak) := by
  refine Exists.intro (n + 1) ?_
  exact ti_samY_w T K h1 n 0 (by omega) (fun v => h0 (fun t ht => v t (Nat.zero_le t) ht))
theorem ti_ldY_c {post : Int32 → SY → Prop} {t l : Nat} {fn : Int32} {al an : Nat → Int32} (ht : t < 40) (hl : l ≤ 6) : ∀ d i (ak : Nat → Int32), i + d = l → (∀ ak' : Nat → Int32, (∀ j, j < i → ak' j = ak j) → (∀ j, i ≤ j → j < l → ak' j = al (6 * t + j)) → post (nI l) (fn, nI l, al, an, ak')) → wY_load_31 post (nI t) fn (nI l) (d + 1) (nI i) al an ak := by
  intro d
  induction d with
  | zero =>
    intro i ak hi hp
    exact pk_le l i (fun _ => hp ak (fun _ _ => rfl) (fun j a b => by omega)) (fun z => by omega)
  | succ d ih =>
    intro i ak hi hp
    refine pk_le l i (fun z => by omega) (fun z => ?_)
    rw [ti_ix]
    refine ⟨vp_in_nI (by omega) (by omega), vp_in_nI (by omega) (by omega), ?_⟩
    rw [nI_clamp (by omega), nI_clamp (by omega)]
    refine nm_e (nm_r (nI_1 i) (ih (i + 1) _ (by omega) (fun ak' h1 h2 => ?_)))
    refine hp ak' (fun j hj => ?_) (fun j hj hj2 => ?_)
    · rw [h1 j (by omega), pk_un (by omega)]
    · rcases Nat.lt_or_ge i j with y | y
      · exact h2 j y hj2
      · have e : j = i := by omega
        rw [e, h1 i (by omega)]
        exact pk_us
theorem ti_ldY_w {post : Int32 → SY → Prop} {g ly : Nat → Nat} {n : Nat} {fl v : Int32} {al an ak : Nat → Int32} (T : ti_tb g ly n al an) (h1 : ∀ t, t < n → nI (ti_cn (ti_lt (g t)) g n) = v → ∀ ak' : Nat → Int32, (∀ j, j < ly t → ak' j = al (6 * t + j)) → post (nI (ly t)) (nI n, nI (ly t), al, an, ak')) : ∀ d i, i + d = n → ((∀ t, i ≤ t → t < n → nI (ti_cn (ti_lt (g t)) g n) ≠ v) → post (-1) (nI n, fl, al, an, ak)) → wY_load_2 post v (nI n) fl al an ak (d + 1) (nI i) := by
  have hn := T.1
  intro d
  induction d with
  | zero =>
    intro i hi h0
    exact pk_le n i (fun _ => h0 (fun t a b => by omega)) (fun z => by omega)
  | succ d ih =>
    intro i hi h0
    refine pk_le n i (fun z => by omega) (fun z => ?_)
    refine ti_rkY T z ?_
    refine br_c (fun y => ?_) (fun y => ?_)
    · refine ⟨vp_in_nI (by omega) (by omega), ?_⟩
      rw [nI_clamp (by omega)]
      have hT := T.2 i z
      refine nm_r hT.2.1 (Exists.intro (ly i + 1) ?_)
      exact ti_ldY_c (by omega) hT.1.1 (ly i) 0 ak (by omega) (fun ak' _ b => h1 i z y ak' (fun j hj => b j (Nat.zero_le j) hj))
    · refine nm_r (nI_1 i) (ih (i + 1) (by omega) (fun w => h0 (fun t a b => ?_)))
      rcases Nat.lt_or_ge i t with x | x
      · exact w t x b
      · have e : t = i := by omega
        rw [e]; exact y
theorem ti_ldY {post : Int32 → SY → Prop} {g ly : Nat → Nat} {n : Nat} {fl v : Int32} {al an ak : Nat → Int32} (T : ti_tb g ly n al an) (h1 : ∀ t, t < n → nI (ti_cn (ti_lt (g t)) g n) = v → ∀ ak' : Nat → Int32, (∀ j, j < ly t → ak' j = al (6 * t + j)) → post (nI (ly t)) (nI n, nI (ly t), al, an, ak')) (h0 : (∀ t, t < n → nI (ti_cn (ti_lt (g t)) g n) ≠ v) → post (-1) (nI n, fl, al, an, ak)) : wpY_load post (nI n, fl, al, an, ak) v := by
  refine Exists.intro (n + 1) ?_
  exact ti_ldY_w T h1 n 0 (by omega) (fun w => h0 (fun t ht => w t (Nat.zero_le t) ht))
theorem ti_insY_c {post : Int32 → SY → Prop} {n l : Nat} {an ak : Nat → Int32} (hn : n < 40) (hl : l ≤ 6) : ∀ d i (al : Nat → Int32), i + d = l → (∀ al' : Nat → Int32, (∀ q, q < 6 * n + i → al' q = al q) → (∀ j, i ≤ j → j < l → al' (6 * n + j) = ak j) → wpY_before (fun r => post r (nI (n + 1), nI l, al', an, ak)) (nI (n + 1), nI l, al', an, ak)) → wY_insert_40 post (nI n) (nI l) (d + 1) (nI i) al an ak := by
  intro d
  induction d with
  | zero =>
    intro i al hi hp
    exact pk_le l i (fun _ => nm_r (nI_1 n) (hp al (fun _ _ => rfl) (fun j a b => by omega))) (fun z => by omega)
  | succ d ih =>
    intro i al hi hp
    refine pk_le l i (fun z => by omega) (fun z => ?_)
    rw [ti_ix]
    refine ⟨vp_in_nI (by omega) (by omega), vp_in_nI (by omega) (by omega), ?_⟩
    rw [nI_clamp (by omega), nI_clamp (by omega)]
    refine nm_e (nm_r (nI_1 i) (ih (i + 1) _ (by omega) (fun al' h1 h2 => ?_)))
    refine hp al' (fun q hq => ?_) (fun j hj hj2 => ?_)
    · rw [h1 q (by omega), pk_un (by omega)]
    · rcases Nat.lt_or_ge i j with y | y
      · exact h2 j y hj2
      · have e : j = i := by omega
        rw [e, h1 (6 * n + i) (by omega)]
        exact pk_us
theorem ti_delY_c {post : Int32 → SY → Prop} {n t r : Nat} {fl : Int32} {an ak : Nat → Int32} (hn : n < 40) (ht : t ≤ n) : ∀ d i (al : Nat → Int32), i + d = 6 → (∀ al' : Nat → Int32, (∀ q, q < 6 * t + i ∨ 6 * t + 6 ≤ q → al' q = al q) → (∀ j, i ≤ j → j < 6 → al' (6 * t + j) = al (6 * n + j)) → post (nI r) (nI n, fl, al', an, ak)) → wY_delete_43 post (nI t) (nI r) (nI n) fl (d + 1) (nI i) al an ak := by
  intro d
  induction d with
  | zero =>
    intro i al hi hp
    exact pk_le 6 i (fun _ => hp al (fun _ _ => rfl) (fun j a b => by omega)) (fun z => by omega)
  | succ d ih =>
    intro i al hi hp
    refine pk_le 6 i (fun z => by omega) (fun z => ?_)
    rw [ti_ix, ti_ix]
    refine ⟨vp_in_nI (by omega) (by omega), vp_in_nI (by omega) (by omega), ?_⟩
    rw [nI_clamp (by omega), nI_clamp (by omega)]
    refine nm_e (nm_r (nI_1 i) (ih (i + 1) _ (by omega) (fun al' h1 h2 => ?_)))
    refine hp al' (fun q hq => ?_) (fun j hj hj2 => ?_)
    · rw [h1 q (by omega), pk_un (by omega)]
    · rcases Nat.lt_or_ge i j with y | y
      · rw [h2 j y hj2, pk_un (by omega)]
      · have e : j = i := by omega
        rw [e, h1 (6 * t + i) (by omega)]
        exact pk_us
