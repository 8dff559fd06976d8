/-! the methods that change the table, and held, each against the pictures -/
theorem ti_hldX {post : Int32 → Prop} {f : Nat → Nat} {n k : Nat} {kl : Int32} {a : Nat → Int32} (A : ti_ar f n a) (S : ti_so f n) (hk : k < 16777216) (h1 : (∃ i, i < n ∧ f i = k) → post 1) (h0 : (∀ i, i < n → f i ≠ k) → post 0) : wpX_held post (nI n, nI k, kl, a) := by
  unfold wpX_held
  dsimp only
  refine ti_rank A hk ?_
  refine ti_isk A hk (ti_cn_le _ _ _) (fun y e => ⟨rfl, h1 ⟨_, y, e⟩⟩) (fun y => ⟨rfl, h0 (fun i hi e => ?_)⟩)
  have z := ti_at S hi e
  rw [z] at y
  exact y hi e
theorem ti_insX {post : Int32 → SX → Prop} {f : Nat → Nat} {n k l : Nat} {a : Nat → Int32} (A : ti_ar f n a) (S : ti_so f n) (hk : k < 16777216) (hl : l ≤ 6) (h0 : l = 0 ∨ n = 40 ∨ (∃ i, i < n ∧ f i = k) → post (-1) (nI n, nI k, nI l, a)) (h1 : l ≠ 0 → n < 40 → (∀ i, i < n → f i ≠ k) → ∀ a' : Nat → Int32, ti_ar (ti_ins f (ti_cn (ti_lt k) f n) k) (n + 1) a' → post (nI (ti_cn (ti_lt k) f n)) (nI (n + 1), nI k, nI l, a')) : wpX_insert post (nI n, nI k, nI l, a) := by
  have hn := A.1
  unfold wpX_insert
  dsimp only
  refine ti_rank A hk ?_
  refine pk_eq l 0 (fun z => h0 (Or.inl z)) (fun z => ?_)
  refine pk_le 40 n (fun y => h0 (Or.inr (Or.inl (by omega)))) (fun y => ?_)
  have hr := ti_cn_le (ti_lt k) f n
  refine ti_isk A hk hr (fun x e => br_f (by decide) (h0 (Or.inr (Or.inr ⟨_, x, e⟩)))) (fun x => br_t rfl ?_)
  have hne : ∀ i, i < n → f i ≠ k := fun i hi e => by
    have w := ti_at S hi e
    rw [w] at x
    exact x hi e
  have g1 := h1 z y hne
  generalize ti_cn (ti_lt k) f n = r at hr g1
  obtain ⟨d, rfl⟩ : ∃ d, n = r + d := ⟨n - r, by omega⟩
  refine Exists.intro (d + 1) (ti_insX_w d a y (fun a' q1 q2 q3 => ?_))
  rw [nI_1]
  refine g1 _ ⟨by omega, fun i hi => ?_⟩
  rcases Nat.lt_trichotomy i r with w | w | w
  · rw [ti_ins_lo w, pk_un (by omega), q1 i w]
    exact A.2 i (by omega)
  · rw [w, ti_ins_at, pk_us]
    exact ⟨rfl, hk⟩
  · obtain ⟨b, rfl⟩ : ∃ b, i = b + 1 := ⟨i - 1, by omega⟩
    rw [ti_ins_hi (by omega), pk_un (by omega), q2 b (by omega) (by omega)]
    exact A.2 b (by omega)
theorem ti_delX {post : Int32 → SX → Prop} {f : Nat → Nat} {n k : Nat} {kl : Int32} {a : Nat → Int32} (A : ti_ar f n a) (S : ti_so f n) (hk : k < 16777216) (h0 : (∀ i, i < n → f i ≠ k) → post (-1) (nI n, nI k, kl, a)) (h1 : ∀ m r, n = m + 1 → r = ti_cn (ti_lt k) f n → r ≤ m → f r = k → ∀ a' : Nat → Int32, ti_ar (ti_del f r) m a' → post (nI r) (nI m, nI k, kl, a')) : wpX_delete post (nI n, nI k, kl, a) := by
  have hn := A.1
  unfold wpX_delete
  dsimp only
  refine ti_rank A hk ?_
  refine ti_isk A hk (ti_cn_le _ _ _) (fun x e => br_f (by decide) ?_) (fun x => br_t rfl (h0 (fun i hi e => ?_)))
  · obtain ⟨m, rfl⟩ : ∃ m, n = m + 1 := ⟨n - 1, by omega⟩
    have g1 := h1 m _ rfl rfl (by omega) e
    generalize ti_cn (ti_lt k) f (m + 1) = r at x e g1
    refine nm_r (nI_pred m) (Exists.intro (m - r + 1) (ti_delX_w (by omega) (m - r) r a (by omega) (fun a' q1 q2 => ?_)))
    refine g1 a' ⟨by omega, fun i hi => ?_⟩
    rcases Nat.lt_or_ge i r with w | w
    · rw [ti_del_lo w, q1 i w]
      exact A.2 i (by omega)
    · rw [ti_del_hi w, q2 i w hi]
      exact A.2 (i + 1) (by omega)
  · have w := ti_at S hi e
    rw [w] at x
    exact x hi e
theorem ti_hldY {post : Int32 → Prop} {g ly : Nat → Nat} {n k l : Nat} {al an ak : Nat → Int32} (T : ti_tb g ly n al an) (K : ti_ky k l ak) (h1 : (∃ i, i < n ∧ g i = k) → post 1) (h0 : (∀ i, i < n → g i ≠ k) → post 0) : wpY_held post (nI n, nI l, al, an, ak) := by
  have hn := T.1
  unfold wpY_held
  dsimp only
  exact ti_samY T K (fun t ht e => br_f (nI_pos (by omega)) (h1 ⟨t, ht, e⟩)) (fun z => br_t (by decide) (h0 z))
theorem ti_insY {post : Int32 → SY → Prop} {g ly : Nat → Nat} {n k l : Nat} {al an ak : Nat → Int32} (T : ti_tb g ly n al an) (K : ti_ky k l ak) (h0 : l = 0 ∨ n = 40 ∨ (∃ i, i < n ∧ g i = k) → post (-1) (nI n, nI l, al, an, ak)) (h1 : l ≠ 0 → n < 40 → (∀ i, i < n → g i ≠ k) → ∀ al' an' : Nat → Int32, ti_tb (ti_rep g n k) (ti_rep ly n l) (n + 1) al' an' → post (nI (ti_cn (ti_lt k) g n)) (nI (n + 1), nI l, al', an', ak)) : wpY_insert post (nI n, nI l, al, an, ak) := by
  have hn := T.1
  have hl := K.1.1
  refine pk_eq l 0 (fun z => h0 (Or.inl z)) (fun z => ?_)
  refine ti_samY T K (fun t ht e => br_t (nI_pos' (by omega)) (h0 (Or.inr (Or.inr ⟨t, ht, e⟩)))) (fun y => br_f (by decide) ?_)
  refine pk_eq n 40 (fun x => h0 (Or.inr (Or.inl x))) (fun x => ?_)
  refine ⟨vp_in_nI (by omega) (by omega), ?_⟩
  rw [nI_clamp (by omega)]
  refine nm_e (Exists.intro (l + 1) (ti_insY_c (by omega) hl l 0 al (by omega) (fun al' q1 q2 => ?_)))
  have T' : ti_tb (ti_rep g n k) (ti_rep ly n l) (n + 1) al' (upd an n (nI l)) := by
    refine ⟨by omega, fun t ht => ?_⟩
    rcases Nat.lt_or_ge t n with w | w
    · rw [ti_rep_ne (by omega), ti_rep_ne (by omega), pk_un (by omega)]
      have hT := T.2 t w
      have hlt := hT.1.1
      exact ⟨hT.1, hT.2.1, fun i hi => by rw [q1 _ (by omega)]; exact hT.2.2 i hi⟩
    · have e : t = n := by omega
      subst e
      rw [ti_rep_at, ti_rep_at, pk_us]
      exact ⟨K.1, rfl, fun i hi => by rw [q2 i (Nat.zero_le i) hi]; exact K.2 i hi⟩
  refine ti_befY T' K ?_
  have e : ti_cn (ti_lt k) (ti_rep g n k) (n + 1) = ti_cn (ti_lt k) g n := by
    rw [ti_cn_f (by rw [ti_rep_at]; exact fun z => Nat.lt_irrefl k (of_decide_eq_true z))]
    exact ti_cn_cg n (fun i hi => ti_rep_ne (by omega))
  rw [e]
  exact h1 z (by omega) y al' _ T'
theorem ti_delY {post : Int32 → SY → Prop} {g ly : Nat → Nat} {n k l : Nat} {al an ak : Nat → Int32} (T : ti_tb g ly n al an) (K : ti_ky k l ak) (h0 : (∀ i, i < n → g i ≠ k) → post (-1) (nI n, nI l, al, an, ak)) (h1 : ∀ m t, n = m + 1 → t ≤ m → g t = k → ∀ al' an' : Nat → Int32, ti_tb (ti_rep g t (g m)) (ti_rep ly t (ly m)) m al' an' → post (nI (ti_cn (ti_lt k) g n)) (nI m, nI l, al', an', ak)) : wpY_delete post (nI n, nI l, al, an, ak) := by
  have hn := T.1
  unfold wpY_delete
  dsimp only
  refine ti_samY T K (fun t ht e => br_t (nI_pos' (by omega)) ?_) (fun y => br_f (by decide) (h0 y))
  refine ti_befY T K ?_
  obtain ⟨m, rfl⟩ : ∃ m, n = m + 1 := ⟨n - 1, by omega⟩
  refine nm_r (nI_pred m) ?_
  refine ⟨vp_in_nI (by omega) (by omega), vp_in_nI (by omega) (by omega), ?_⟩
  rw [nI_clamp (by omega), nI_clamp (by omega)]
  have hM := T.2 m (by omega)
  refine nm_e (Exists.intro 7 (ti_delY_c (by omega) (by omega) 6 0 al (by omega) (fun al' q1 q2 => ?_)))
  refine h1 m t rfl (by omega) e al' _ ⟨by omega, fun s hs => ?_⟩
  by_cases w : s = t
  · subst w
    rw [ti_rep_at, ti_rep_at, pk_us]
    refine ⟨hM.1, hM.2.1, fun i hi => ?_⟩
    have := hM.1.1
    rw [q2 i (Nat.zero_le i) (by omega)]
    exact hM.2.2 i hi
  · rw [ti_rep_ne w, ti_rep_ne w, pk_un w]
    have hS := T.2 s (by omega)
    refine ⟨hS.1, hS.2.1, fun i hi => ?_⟩
    have := hS.1.1
    rw [q1 _ (by omega)]
    exact hS.2.2 i hi
