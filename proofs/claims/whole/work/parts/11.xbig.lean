/-- the three slots, and the component's list -/
def gj_P (P : Nat → Nat → Nat) : Prop := ∀ s, s < 3 → gj_V (P s)
def gj_X (u : Nat → Int32) (P : Nat → Nat → Nat) : Prop := (∀ s, s < 3 → gj_xr u s (P s)) ∧ ∀ j, j < 764 → gj_xr u (4 + j) (gj_T j)
theorem gj_X_3 {u w : Nat → Int32} {P : Nat → Nat → Nat} (h : gj_X u P) (k : gj_eo 3 u w) : gj_X w P :=
  ⟨fun s hs => gj_xr_eo (h.1 s hs) k (by omega), fun j hj => gj_xr_eo (h.2 j hj) k (by omega)⟩
theorem gx_btw_sT {post : Int32 → SX → Prop} {u : Nat → Int32} {P : Nat → Nat → Nat} {s j : Nat} (hP : gj_P P) (h : gj_X u P) (hs : s < 3) (hj : j < 764) (H : ∀ w, gj_X w P → post (nI (gj_D (P s) (gj_T j))) w) : wpX_stepsBetween post u (nI s) (nI (4 + j)) :=
  gx_btw (hP s hs) (gj_T_V hj) (h.1 s hs) (h.2 j hj) (by omega) (by omega) (by omega) (fun w k => H w (gj_X_3 h k))
theorem gx_btw_Ts {post : Int32 → SX → Prop} {u : Nat → Int32} {P : Nat → Nat → Nat} {s j : Nat} (hP : gj_P P) (h : gj_X u P) (hs : s < 3) (hj : j < 764) (H : ∀ w, gj_X w P → post (nI (gj_D (gj_T j) (P s))) w) : wpX_stepsBetween post u (nI (4 + j)) (nI s) :=
  gx_btw (gj_T_V hj) (hP s hs) (h.2 j hj) (h.1 s hs) (by omega) (by omega) (by omega) (fun w k => H w (gj_X_3 h k))
theorem gx_btw_ss {post : Int32 → SX → Prop} {u : Nat → Int32} {P : Nat → Nat → Nat} {s r : Nat} (hP : gj_P P) (h : gj_X u P) (hs : s < 3) (hr : r < 3) (H : ∀ w, gj_X w P → post (nI (gj_D (P s) (P r))) w) : wpX_stepsBetween post u (nI s) (nI r) :=
  gx_btw (hP s hs) (hP r hr) (h.1 s hs) (h.1 r hr) (by omega) (by omega) (by omega) (fun w k => H w (gj_X_3 h k))
theorem gj_cn_2p {f : Nat → Bool} {n : Nat} (h : n ≤ 764) : gj_cn f n < 2 ^ 31 := by
  have := gj_cn_le f n
  omega
theorem gj_D_2p (p r : Nat → Nat) : gj_D p r < 2 ^ 31 := by
  have := gj_D_le p r
  omega
theorem gx_steps_l {post : Int32 → SX → Prop} {P : Nat → Nat → Nat} {s : Nat} (hP : gj_P P) (hs : s < 3) (H : ∀ w, gj_X w P → post (nI (gj_cn (fun j => decide (gj_D (P s) (gj_T j) = 1)) 764)) w) : ∀ d j u, j + d = 764 → gj_X u P → wX_steps_13 post (nI s) (d + 1) (nI (gj_cn (fun j => decide (gj_D (P s) (gj_T j) = 1)) j)) (nI (4 + j)) u := by
  intro d
  induction d with
  | zero =>
    intro j u hj h
    have : j = 764 := by omega
    subst this
    exact br_t (nI_le (a := 768) (by omega) (by omega)) (H u h)
  | succ d ih =>
    intro j u hj h
    refine br_f (nI_ge (b := 768) (by omega) (by omega)) (gx_btw_sT hP h hs (by omega) (fun w hw => ?_))
    have ih1 := ih (j + 1) w (by omega) hw
    refine pk_eq (gj_D (P s) (gj_T j)) 1 (fun z => ?_) (fun z => ?_) rfl rfl (gj_D_2p _ _) (by omega)
    · rw [gj_cn_t (decide_eq_true z)] at ih1
      exact nm_r (nI_1 _) (nm_r (nI_1 (4 + j)) ih1)
    · rw [gj_cn_f (fun y => z (of_decide_eq_true y))] at ih1
      exact nm_r (nI_1 (4 + j)) ih1
theorem gx_near_l {post : Int32 → SX → Prop} {P : Nat → Nat → Nat} {s r W : Nat} (hP : gj_P P) (hs : s < 3) (hr : r < 3) (hW : W ≤ 8) (H : ∀ w, gj_X w P → post (nI (gj_cn (fun j => decide (gj_D (P s) (gj_T j) = 1) && decide (gj_D (gj_T j) (P r) < W)) 764)) w) : ∀ d j u, j + d = 764 → gj_X u P → wX_nearer_29 post (nI s) (nI r) (nI W) (d + 1) (nI (gj_cn (fun j => decide (gj_D (P s) (gj_T j) = 1) && decide (gj_D (gj_T j) (P r) < W)) j)) (nI (4 + j)) u := by
  intro d
  induction d with
  | zero =>
    intro j u hj h
    have : j = 764 := by omega
    subst this
    exact br_t (nI_le (a := 768) (by omega) (by omega)) (H u h)
  | succ d ih =>
    intro j u hj h
    refine br_f (nI_ge (b := 768) (by omega) (by omega)) (gx_btw_sT hP h hs (by omega) (fun w hw => ?_))
    refine pk_eq (gj_D (P s) (gj_T j)) 1 (fun z => ?_) (fun z => ?_) rfl rfl (gj_D_2p _ _) (by omega)
    · refine gx_btw_Ts hP hw hr (by omega) (fun w' hw' => ?_)
      have ih1 := ih (j + 1) w' (by omega) hw'
      refine pk_le W (gj_D (gj_T j) (P r)) (fun y => ?_) (fun y => ?_) rfl rfl (by omega) (gj_D_2p _ _)
      · rw [gj_cn_f (fun x => by rw [Bool.and_eq_true] at x; have := of_decide_eq_true x.2; omega)] at ih1
        exact nm_r (nI_1 (4 + j)) ih1
      · rw [gj_cn_t (by rw [decide_eq_true z, decide_eq_true y]; rfl)] at ih1
        exact nm_r (nI_1 _) (nm_r (nI_1 (4 + j)) ih1)
    · have ih1 := ih (j + 1) w (by omega) hw
      rw [gj_cn_f (fun y => z (by rw [Bool.and_eq_true] at y; exact of_decide_eq_true y.1))] at ih1
      exact nm_r (nI_1 (4 + j)) ih1
/-- the sum of the distances of the slots to a genome -/
def gj_sm (P : Nat → Nat → Nat) (t : Nat → Nat) : Nat → Nat
  | 0 => 0
  | k + 1 => gj_sm P t k + gj_D (P k) t
theorem gj_sm_le (P : Nat → Nat → Nat) (t : Nat → Nat) : gj_sm P t 3 ≤ 24 := by
  have h0 := gj_D_le (P 0) t
  have h1 := gj_D_le (P 1) t
  have h2 := gj_D_le (P 2) t
  show 0 + gj_D (P 0) t + gj_D (P 1) t + gj_D (P 2) t ≤ 24
  omega
theorem gx_sum_l {post : Int32 → SX → Prop} {P : Nat → Nat → Nat} {j : Nat} (hP : gj_P P) (hj : j < 764) (H : ∀ w, gj_X w P → post (nI (gj_sm P (gj_T j) 3)) w) : ∀ d k u, k + d = 3 → gj_X u P → wX_sumOfDistances_4 post (nI (4 + j)) (d + 1) (nI (gj_sm P (gj_T j) k)) (nI k) u := by
  intro d
  induction d with
  | zero =>
    intro k u hk h
    have : k = 3 := by omega
    subst this
    exact br_t (nI_le (a := 3) (by omega) (by omega)) (H u h)
  | succ d ih =>
    intro k u hk h
    refine br_f (nI_ge (b := 3) (by omega) (by omega)) (gx_btw_sT hP h (by omega) hj (fun w hw => ?_))
    exact nm_r (nI_add _ _) (nm_r (nI_1 k) (ih (k + 1) w (by omega) hw))
theorem gx_sum {post : Int32 → SX → Prop} {P : Nat → Nat → Nat} {j : Nat} {u : Nat → Int32} (hP : gj_P P) (hj : j < 764) (h : gj_X u P) (H : ∀ w, gj_X w P → post (nI (gj_sm P (gj_T j) 3)) w) : wpX_sumOfDistances post u (nI (4 + j)) := by
  unfold wpX_sumOfDistances
  exact ⟨4, gx_sum_l hP hj H 3 0 u rfl h⟩
/-- m is the least of the first j values -/
def gj_mn (F : Nat → Nat) (m j : Nat) : Prop := (∀ i, i < j → m ≤ F i) ∧ ∃ i, i < j ∧ F i = m
theorem gj_mn_k {F : Nat → Nat} {m j : Nat} (h : gj_mn F m j) (k : m ≤ F j) : gj_mn F m (j + 1) := by
  obtain ⟨h1, i, hi, e⟩ := h
  refine ⟨fun x hx => ?_, i, by omega, e⟩
  by_cases z : x = j
  · rw [z]; exact k
  · exact h1 x (by omega)
theorem gj_mn_n {F : Nat → Nat} {m j : Nat} (h : ∀ i, i < j → m ≤ F i) (k : F j < m) : gj_mn F (F j) (j + 1) := by
  refine ⟨fun x hx => ?_, j, by omega, rfl⟩
  by_cases z : x = j
  · rw [z]; exact Nat.le_refl _
  · have := h x (by omega)
    omega
theorem gx_mid_l {post : Int32 → SX → Prop} {P : Nat → Nat → Nat} (hP : gj_P P) (H : ∀ m w, gj_X w P → gj_mn (fun i => gj_sm P (gj_T i) 3) m 764 → post (nI m) w) : ∀ d j m u, j + d = 764 → gj_X u P → m ≤ 24 → gj_mn (fun i => gj_sm P (gj_T i) 3) m j → wX_middle_8 post (d + 1) (nI m) (nI (4 + j)) u := by
  intro d
  induction d with
  | zero =>
    intro j m u hj h hm hmn
    have : j = 764 := by omega
    subst this
    exact br_t (nI_le (a := 768) (by omega) (by omega)) (H m u h hmn)
  | succ d ih =>
    intro j m u hj h hm hmn
    have hle := gj_sm_le P (gj_T j)
    refine br_f (nI_ge (b := 768) (by omega) (by omega)) (gx_sum hP (by omega) h (fun w hw => ?_))
    refine pk_le m (gj_sm P (gj_T j) 3) (fun z => ?_) (fun z => ?_) rfl rfl (by omega) (by omega)
    · exact nm_r (nI_1 (4 + j)) (ih (j + 1) m w (by omega) hw hm (gj_mn_k hmn z))
    · exact nm_r (nI_1 (4 + j)) (ih (j + 1) _ w (by omega) hw hle (gj_mn_n hmn.1 z))
theorem gx_mid {post : Int32 → SX → Prop} {P : Nat → Nat → Nat} {u : Nat → Int32} (hP : gj_P P) (h : gj_X u P) (H : ∀ m w, gj_X w P → gj_mn (fun i => gj_sm P (gj_T i) 3) m 764 → post (nI m) w) : wpX_middle post u := by
  unfold wpX_middle
  refine gx_sum (j := 0) hP (by omega) h (fun w hw => ?_)
  refine ⟨764, gx_mid_l hP H 763 1 _ w rfl hw (gj_sm_le _ _) ⟨fun i hi => ?_, 0, by omega, rfl⟩⟩
  have : i = 0 := by omega
  subst this
  exact Nat.le_refl _
theorem gj_cn_none {F : Nat → Nat} {m j : Nat} (h : ∀ i, i < j → m < F i) : gj_cn (fun i => decide (F i = m)) j = 0 :=
  gj_cn_0 (fun e he => decide_eq_false (by have := h e he; omega))
theorem gx_mids_l {post : Int32 → SX → Prop} {P : Nat → Nat → Nat} {F : Nat → Nat} (hF : F = fun i => gj_sm P (gj_T i) 3) (hP : gj_P P) (H : ∀ m w, gj_X w P → gj_mn F m 764 → post (nI (gj_cn (fun i => decide (F i = m)) 764)) w) : ∀ d j m u, j + d = 764 → gj_X u P → m ≤ 24 → gj_mn F m j → wX_middles_10 post (d + 1) (nI m) (nI (gj_cn (fun i => decide (F i = m)) j)) (nI (4 + j)) u := by
  intro d
  induction d with
  | zero =>
    intro j m u hj h hm hmn
    have : j = 764 := by omega
    subst this
    exact br_t (nI_le (a := 768) (by omega) (by omega)) (H m u h hmn)
  | succ d ih =>
    intro j m u hj h hm hmn
    have hle := gj_sm_le P (gj_T j)
    refine br_f (nI_ge (b := 768) (by omega) (by omega)) (gx_sum hP (by omega) h (fun w hw => ?_))
    have eF : gj_sm P (gj_T j) 3 = F j := by rw [hF]
    rw [eF] at hle ⊢
    refine pk_le m (F j) (fun z => ?_) (fun z => ?_) rfl rfl (by omega) (by omega)
    · have ih1 := ih (j + 1) m w (by omega) hw hm (gj_mn_k hmn z)
      unfold wX_middles_35
      refine pk_eq (F j) m (fun y => ?_) (fun y => ?_) rfl rfl (by omega) (by omega)
      · rw [gj_cn_t (decide_eq_true y)] at ih1
        exact nm_r (nI_1 _) (nm_r (nI_1 (4 + j)) ih1)
      · rw [gj_cn_f (fun x => y (of_decide_eq_true x))] at ih1
        exact nm_r (nI_1 (4 + j)) ih1
    · have ih1 := ih (j + 1) (F j) w (by omega) hw hle (gj_mn_n hmn.1 z)
      rw [gj_cn_t (decide_eq_true rfl), gj_cn_none (fun i hi => by have := hmn.1 i hi; omega)] at ih1
      unfold wX_middles_35
      exact br_t rfl (nm_r (nI_1 0) (nm_r (nI_1 (4 + j)) ih1))
theorem gx_mids {post : Int32 → SX → Prop} {P : Nat → Nat → Nat} {u : Nat → Int32} (hP : gj_P P) (h : gj_X u P) (H : ∀ m w, gj_X w P → gj_mn (fun i => gj_sm P (gj_T i) 3) m 764 → post (nI (gj_cn (fun i => decide (gj_sm P (gj_T i) 3 = m)) 764)) w) : wpX_middles post u := by
  unfold wpX_middles
  refine gx_sum (j := 0) hP (by omega) h (fun w hw => ?_)
  have hm : gj_mn (fun i => gj_sm P (gj_T i) 3) (gj_sm P (gj_T 0) 3) 1 := by
    refine ⟨fun i hi => ?_, 0, by omega, rfl⟩
    have : i = 0 := by omega
    subst this
    exact Nat.le_refl _
  have h1 := gx_mids_l rfl hP H 763 1 _ w rfl hw (gj_sm_le _ _) hm
  have e : gj_cn (fun i => decide (gj_sm P (gj_T i) 3 = gj_sm P (gj_T 0) 3)) 1 = 1 := by
    show 0 + (if decide (gj_sm P (gj_T 0) 3 = gj_sm P (gj_T 0) 3) = true then 1 else 0) = 1
    rw [decide_eq_true rfl]
    rfl
  refine ⟨764, ?_⟩
  rw [e] at h1
  exact h1
/-- the genome t lies on the way, with n joints -/
def gj_ow (p r : Nat → Nat) (x3 x4 x5 : Int32) (t : Nat → Nat) : Prop := nI (gj_jn t) = x4 ∧ nI (gj_D p t) = x3 ∧ nI (gj_D t r) = x5 - x3
theorem gx_otw_l {post : Int32 → SX → Prop} {P : Nat → Nat → Nat} {s r : Nat} {x3 x4 x5 : Int32} (hP : gj_P P) (hs : s < 3) (hr : r < 3) (H1 : (∃ j, j < 764 ∧ gj_ow (P s) (P r) x3 x4 x5 (gj_T j)) → ∀ w, gj_X w P → post 1 w) (H0 : (∀ j, j < 764 → ¬ gj_ow (P s) (P r) x3 x4 x5 (gj_T j)) → ∀ w, gj_X w P → post 0 w) : ∀ d j u, j + d = 764 → gj_X u P → (∀ i, i < j → ¬ gj_ow (P s) (P r) x3 x4 x5 (gj_T i)) → wX_onTheWay_27 post (nI s) (nI r) x3 x4 x5 (d + 1) (nI (4 + j)) u := by
  intro d
  induction d with
  | zero =>
    intro j u hj h hi
    have : j = 764 := by omega
    subst this
    exact br_t (nI_le (a := 768) (by omega) (by omega)) (H0 hi u h)
  | succ d ih =>
    intro j u hj h hi
    have hst : ¬ gj_ow (P s) (P r) x3 x4 x5 (gj_T j) → ∀ i, i < j + 1 → ¬ gj_ow (P s) (P r) x3 x4 x5 (gj_T i) := by
      intro hn i hi2
      by_cases z : i = j
      · rw [z]; exact hn
      · exact hi i (by omega)
    refine br_f (nI_ge (b := 768) (by omega) (by omega)) (gx_count (gj_T_V (by omega)) (h.2 j (by omega)) (by omega) (br_c (fun z1 => ?_) (fun z1 => ?_)))
    · refine gx_btw_sT hP h hs (by omega) (fun w hw => br_c (fun z2 => ?_) (fun z2 => ?_))
      · refine gx_btw_Ts hP hw hr (by omega) (fun w' hw' => br_c (fun z3 => ?_) (fun z3 => ?_))
        · exact H1 ⟨j, by omega, z1, z2, z3⟩ w' hw'
        · exact nm_r (nI_1 (4 + j)) (ih (j + 1) w' (by omega) hw' (hst (fun y => z3 y.2.2)))
      · exact nm_r (nI_1 (4 + j)) (ih (j + 1) w (by omega) hw (hst (fun y => z2 y.2.1)))
    · exact nm_r (nI_1 (4 + j)) (ih (j + 1) u (by omega) h (hst (fun y => z1 y.1)))
