def gj_Y (q n : Nat → Int32) (P : Nat → Nat → Nat) : Prop := (∀ s, s < 3 → gj_yr q s (P s)) ∧ gj_nq n
theorem gj_Y_3 {u w n : Nat → Int32} {P : Nat → Nat → Nat} (h : gj_Y u n P) (k : gj_eo 3 u w) : gj_Y w n P :=
  ⟨fun s hs => gj_yr_eo (h.1 s hs) k (by omega), h.2⟩
theorem gj_Y_4 {u w n : Nat → Int32} {P : Nat → Nat → Nat} (h : gj_Y u n P) (k : gj_eo 4 u w) : gj_Y w n P :=
  ⟨fun s hs => gj_yr_eo (h.1 s hs) k (by omega), h.2⟩
theorem gy_sum {post : Int32 → SY → Prop} {P : Nat → Nat → Nat} {u s n : Nat → Int32} {t : Nat → Nat} (hP : gj_P P) (ht : gj_V t) (h : gj_Y u n P) (k : gj_yr u 4 t) (H : ∀ w, gj_Y w n P → post (nI (gj_sm P t 3)) (w, s, n)) : wpY_sumOfWays post (u, s, n) := by
  unfold wpY_sumOfWays
  dsimp only
  refine gy_way (f := 4) (g := 0) ht (hP 0 (by omega)) k (h.1 0 (by omega)) (by omega) (by omega) (by omega) (fun w1 k1 => ?_)
  dsimp only
  have h1 := gj_Y_3 h k1
  have y1 := gj_yr_eo k k1 (by omega)
  refine gy_way (f := 4) (g := 1) ht (hP 1 (by omega)) y1 (h1.1 1 (by omega)) (by omega) (by omega) (by omega) (fun w2 k2 => ?_)
  dsimp only
  have h2 := gj_Y_3 h1 k2
  have y2 := gj_yr_eo y1 k2 (by omega)
  refine gy_way (f := 4) (g := 2) ht (hP 2 (by omega)) y2 (h2.1 2 (by omega)) (by omega) (by omega) (by omega) (fun w3 k3 => ?_)
  dsimp only
  have h3 := gj_Y_3 h2 k3
  have e : nI (gj_D t (P 0)) + nI (gj_D t (P 1)) + nI (gj_D t (P 2)) = nI (gj_sm P t 3) := by
    rw [nI_add, nI_add, gj_D_sy (hP 0 (by omega)) ht, gj_D_sy (hP 1 (by omega)) ht, gj_D_sy (hP 2 (by omega)) ht]
    show _ = nI (0 + gj_D (P 0) t + gj_D (P 1) t + gj_D (P 2) t)
    rw [Nat.zero_add]
  rw [e]
  exact H w3 h3
theorem gy_mid_l {post : Int32 → SY → Prop} {P : Nat → Nat → Nat} {s n : Nat → Int32} (hP : gj_P P) (H : ∀ m w, gj_Y w n P → gj_mn (fun i => gj_sm P (gj_S i) 3) m 764 → post (nI m) (w, s, n)) : ∀ d j m u, j + d = 764 → gj_Y u n P → m ≤ 100 → ((j = 0 ∧ m = 100) ∨ gj_mn (fun i => gj_sm P (gj_S i) 3) m j) → wY_middle_5 post (d + 1) (nI m) (nI j) u s n := by
  intro d
  induction d with
  | zero =>
    intro j m u hj h hm hmn
    have : j = 764 := by omega
    subst this
    exact br_t (nI_le (a := 764) (by omega) (by omega)) (H m u h (hmn.elim (fun z => absurd z.1 (by omega)) id))
  | succ d ih =>
    intro j m u hj h hm hmn
    have hle := gj_sm_le P (gj_S j)
    refine br_f (nI_ge (b := 764) (by omega) (by omega)) (gy_sn (by omega) h.2 (fun w k1 k2 => ?_))
    dsimp only
    refine gy_sum hP (gj_S_V (by omega)) (gj_Y_4 h k2) k1 (fun w2 hw => ?_)
    dsimp only
    refine pk_le m (gj_sm P (gj_S j) 3) (fun z => ?_) (fun z => ?_) rfl rfl (by omega) (by omega)
    · refine nm_r (nI_1 j) (ih (j + 1) m w2 (by omega) hw hm (Or.inr ?_))
      rcases hmn with ⟨_, y⟩ | y
      · omega
      · exact gj_mn_k y z
    · refine nm_r (nI_1 j) (ih (j + 1) _ w2 (by omega) hw (by omega) (Or.inr ?_))
      refine gj_mn_n (m := m) (F := fun i => gj_sm P (gj_S i) 3) (fun i hi => ?_) z
      rcases hmn with ⟨y, _⟩ | y
      · omega
      · exact y.1 i hi
theorem gy_mid {post : Int32 → SY → Prop} {P : Nat → Nat → Nat} {u s n : Nat → Int32} (hP : gj_P P) (h : gj_Y u n P) (H : ∀ m w, gj_Y w n P → gj_mn (fun i => gj_sm P (gj_S i) 3) m 764 → post (nI m) (w, s, n)) : wpY_middle post (u, s, n) := by
  unfold wpY_middle
  exact ⟨765, gy_mid_l hP H 764 0 100 u rfl h (by omega) (Or.inl ⟨rfl, rfl⟩)⟩
theorem gy_mids_l {post : Int32 → SY → Prop} {P : Nat → Nat → Nat} {s n : Nat → Int32} {F : Nat → Nat} (hF : F = fun i => gj_sm P (gj_S i) 3) (hP : gj_P P) (H : ∀ m w, gj_Y w n P → gj_mn F m 764 → post (nI (gj_cn (fun i => decide (F i = m)) 764)) (w, s, n)) : ∀ d j m u, j + d = 764 → gj_Y u n P → m ≤ 100 → ((j = 0 ∧ m = 100) ∨ gj_mn F m j) → wY_middles_7 post (d + 1) (nI m) (nI (gj_cn (fun i => decide (F i = m)) j)) (nI j) u s n := by
  intro d
  induction d with
  | zero =>
    intro j m u hj h hm hmn
    have : j = 764 := by omega
    subst this
    exact br_t (nI_le (a := 764) (by omega) (by omega)) (H m u h (hmn.elim (fun z => absurd z.1 (by omega)) id))
  | succ d ih =>
    intro j m u hj h hm hmn
    have hle := gj_sm_le P (gj_S j)
    refine br_f (nI_ge (b := 764) (by omega) (by omega)) (gy_sn (by omega) h.2 (fun w k1 k2 => ?_))
    dsimp only
    refine gy_sum hP (gj_S_V (by omega)) (gj_Y_4 h k2) k1 (fun w2 hw => ?_)
    dsimp only
    have eF : gj_sm P (gj_S j) 3 = F j := by rw [hF]
    rw [eF] at hle ⊢
    refine pk_le m (F j) (fun z => ?_) (fun z => ?_) rfl rfl (by omega) (by omega)
    · have hmn2 : gj_mn F m (j + 1) := by
        rcases hmn with ⟨_, y⟩ | y
        · omega
        · exact gj_mn_k y z
      have ih1 := ih (j + 1) m w2 (by omega) hw hm (Or.inr hmn2)
      refine pk_eq (F j) m (fun y => ?_) (fun y => ?_) rfl rfl (by omega) (by omega)
      · rw [gj_cn_t (decide_eq_true y)] at ih1
        unfold wY_middles_48
        refine br_t (nI_le z (by omega)) (nm_r (nI_1 j) ?_)
        rw [nI_1]
        exact ih1
      · rw [gj_cn_f (fun x => y (of_decide_eq_true x))] at ih1
        unfold wY_middles_48
        exact br_t (nI_le z (by omega)) (nm_r (nI_1 j) ih1)
    · have hall : ∀ i, i < j → m ≤ F i := by
        intro i hi
        rcases hmn with ⟨y, _⟩ | y
        · omega
        · exact y.1 i hi
      have ih1 := ih (j + 1) (F j) w2 (by omega) hw (by omega) (Or.inr (gj_mn_n hall z))
      rw [gj_cn_t (decide_eq_true rfl), gj_cn_none (fun i hi => by have := hall i hi; omega)] at ih1
      unfold wY_middles_48
      exact br_f (nI_ge z (by omega)) (nm_r (nI_1 j) ih1)
theorem gy_mids {post : Int32 → SY → Prop} {P : Nat → Nat → Nat} {u s n : Nat → Int32} (hP : gj_P P) (h : gj_Y u n P) (H : ∀ m w, gj_Y w n P → gj_mn (fun i => gj_sm P (gj_S i) 3) m 764 → post (nI (gj_cn (fun i => decide (gj_sm P (gj_S i) 3 = m)) 764)) (w, s, n)) : wpY_middles post (u, s, n) := by
  unfold wpY_middles
  exact ⟨765, gy_mids_l rfl hP H 764 0 100 u rfl h (by omega) (Or.inl ⟨rfl, rfl⟩)⟩
theorem gy_otw_l {post : Int32 → SY → Prop} {P : Nat → Nat → Nat} {s0 r : Nat} {s n : Nat → Int32} {x3 x4 x5 : Int32} (hP : gj_P P) (hs : s0 < 3) (hr : r < 3) (H1 : (∃ j, j < 764 ∧ gj_ow (P s0) (P r) x3 x4 x5 (gj_S j)) → ∀ w, gj_Y w n P → post 1 (w, s, n)) (H0 : (∀ j, j < 764 → ¬ gj_ow (P s0) (P r) x3 x4 x5 (gj_S j)) → ∀ w, gj_Y w n P → post 0 (w, s, n)) : ∀ d j u, j + d = 764 → gj_Y u n P → (∀ i, i < j → ¬ gj_ow (P s0) (P r) x3 x4 x5 (gj_S i)) → wY_onTheWay_29 post (nI s0) (nI r) x3 x4 x5 (d + 1) (nI j) u s n := by
  intro d
  induction d with
  | zero =>
    intro j u hj h hi
    have : j = 764 := by omega
    subst this
    exact br_t (nI_le (a := 764) (by omega) (by omega)) (H0 hi u h)
  | succ d ih =>
    intro j u hj h hi
    have hst : ¬ gj_ow (P s0) (P r) x3 x4 x5 (gj_S j) → ∀ i, i < j + 1 → ¬ gj_ow (P s0) (P r) x3 x4 x5 (gj_S i) := by
      intro hn i hi2
      by_cases z : i = j
      · rw [z]; exact hn
      · exact hi i (by omega)
    have hV := gj_S_V (i := j) (by omega)
    refine br_f (nI_ge (b := 764) (by omega) (by omega)) (gy_sn (by omega) h.2 (fun w k1 k2 => ?_))
    dsimp only
    have h1 := gj_Y_4 h k2
    refine gy_count (t := 4) hV k1 (by omega) (br_c (fun z1 => ?_) (fun z1 => ?_))
    · refine gy_way (f := 4) hV (hP s0 hs) k1 (h1.1 s0 hs) (by omega) (by omega) (by omega) (fun w2 k3 => ?_)
      dsimp only
      have h2 := gj_Y_3 h1 k3
      have y2 := gj_yr_eo k1 k3 (by omega)
      rw [gj_D_sy (hP s0 hs) hV]
      refine br_c (fun z2 => ?_) (fun z2 => ?_)
      · refine gy_way (f := 4) hV (hP r hr) y2 (h2.1 r hr) (by omega) (by omega) (by omega) (fun w3 k4 => ?_)
        dsimp only
        have h3 := gj_Y_3 h2 k4
        refine br_c (fun z3 => ?_) (fun z3 => ?_)
        · exact H1 ⟨j, by omega, z1, z2, z3⟩ w3 h3
        · exact nm_r (nI_1 j) (ih (j + 1) w3 (by omega) h3 (hst (fun y => z3 y.2.2)))
      · exact nm_r (nI_1 j) (ih (j + 1) w2 (by omega) h2 (hst (fun y => z2 y.2.1)))
    · exact nm_r (nI_1 j) (ih (j + 1) w (by omega) h1 (hst (fun y => z1 y.1)))
theorem gy_stepTo {post : SY → Prop} {q s n : Nat → Int32} {t a b : Nat} {p : Nat → Nat} (hp : gj_V p) (h : gj_yr q t p) (ht : t < 5) (ha : a < 8) (hb : b < 8) (hab : a ≠ b) (H : ∀ w, gj_yr w 4 (gj_nb p a b) → gj_eo 4 q w → post (w, s, n)) : wpY_stepTo post (q, s, n) (nI t) (nI a) (nI b) := by
  have l1 := gj_V_lt hp ha
  unfold wpY_stepTo
  dsimp only
  refine gy_copy (t := 4) (by omega) ht h (fun w k1 k2 => ?_)
  dsimp only
  refine ⟨gj_yv4 ha, ?_⟩
  rw [gj_yc4 ha, k2 a ha]
  refine pk_eq (p a) b (fun z => ?_) (fun z => ?_) rfl rfl (by omega) (by omega)
  · refine gy_unlink (t := 4) hp k2 (by omega) ha (fun w' k3 k4 => ?_)
    dsimp only
    refine H w' ?_ (gj_eo_t k1 k4)
    unfold gj_nb
    rw [if_pos z]
    exact k3
  · refine gy_make (t := 4) hp k2 (by omega) ha hb hab z (fun w' k3 k4 => ?_)
    dsimp only
    refine H w' ?_ (gj_eo_t k1 k4)
    unfold gj_nb
    rw [if_neg z]
    exact k3
/-- the numbers seen -/
def gj_se (s : Nat → Int32) (sn : Nat → Bool) : Prop := ∀ i, i < 764 → s i = if sn i = true then 1 else 0
/-- what a step counts for: all, or those nearer to r than L -/
def gj_li (lim : Int32) (r : Nat → Nat) (Q : Nat → Bool) : Prop := (lim < 0 ∧ ∀ i, Q i = true) ∨ ∃ L, L ≤ 8 ∧ lim = nI L ∧ ∀ i, Q i = decide (gj_D (gj_S i) r < L)
theorem gj_bo1 : vp_nar .boolean 1 = 1 := by rfl
theorem gj_bo0 : vp_nar .boolean 0 = 0 := by rfl
theorem gy_note {post : Int32 → SY → Prop} {q s n : Nat → Int32} {i g : Nat} {r : Nat → Nat} {lim : Int32} {sn Q : Nat → Bool} (hi : i < 764) (hr : gj_V r) (h : gj_yr q 4 (gj_S i)) (k : gj_yr q g r) (hg : g < 3) (hn : gj_nq n) (hs : gj_se s sn) (hL : gj_li lim r Q) (H : ∀ w s', gj_eo 3 q w → gj_se s' (fun j => sn j || decide (j = i)) → post (nI (if sn i = false ∧ Q i = true then 1 else 0)) (w, s', n)) : wpY_note post (q, s, n) (nI g) lim := by
  unfold wpY_note
  dsimp only
  refine gy_no hi h hn ⟨vp_in_nI hi (by omega), ?_⟩
  rw [nI_clamp (by omega), hs i hi]
  by_cases z : sn i = true
  · rw [if_pos z]
    have hs2 : gj_se s (fun j => sn j || decide (j = i)) := by
      intro j hj
      rw [hs j hj]
      by_cases y : j = i
      · simp [y, z]
      · simp [y]
    have h1 := H q s gj_eo_r hs2
    rw [if_neg (fun y => by rw [z] at y; exact absurd y.1 (by decide))] at h1
    exact br_f (by decide) h1
  · rw [if_neg z]
    have zf : sn i = false := by simpa using z
    refine br_t rfl ⟨vp_in_nI hi (by omega), ?_⟩
    rw [gj_bo1]
    refine nm_e ?_
    have hs2 : gj_se (upd s i 1) (fun j => sn j || decide (j = i)) := by
      intro j hj
      by_cases y : j = i
      · rw [y, pk_us]; simp
      · rw [pk_un y, hs j hj]; simp [y]
    rcases hL with ⟨l1, l2⟩ | ⟨L, l1, l2, l3⟩
    · have h1 := H q _ gj_eo_r hs2
      rw [if_pos ⟨zf, l2 i⟩] at h1
      exact br_t l1 h1
    · rw [l2]
      refine br_f (nI_pos (by omega)) (gy_way (f := 4) (gj_S_V hi) hr h k (by omega) (by omega) (by omega) (fun w kw => ?_))
      dsimp only
      have h1 := H w _ kw hs2
      refine pk_le L (gj_D (gj_S i) r) (fun y => ?_) (fun y => ?_) rfl rfl (by omega) (gj_D_2p _ _)
      · rw [if_neg (fun x => by have := x.2; rw [l3] at this; have := of_decide_eq_true this; omega)] at h1
        exact h1
      · rw [if_pos ⟨zf, by rw [l3]; exact decide_eq_true y⟩] at h1
        exact h1
theorem gj_cn_in {f g : Nat → Bool} {i : Nat} : ∀ n, i < n → (∀ j, j ≠ i → g j = f j) → f i = false → g i = true → gj_cn g n = gj_cn f n + 1 := by
  intro n
  induction n with
  | zero => intro h; omega
  | succ n ih =>
    intro hi h hf hg
    by_cases z : i = n
    · subst z
      have e : gj_cn g i = gj_cn f i := gj_cn_c (fun e he => h e (by omega))
      rw [gj_cn_t hg, gj_cn_f (by rw [hf]; decide), e]
    · have e := ih (by omega) h hf hg
      have e2 := h n (fun y => z y.symm)
      show gj_cn g n + (if g n = true then 1 else 0) = gj_cn f n + (if f n = true then 1 else 0) + 1
      rw [e, e2]
      omega
/-- what the walk over the steps keeps -/
def gj_ci (p : Nat → Nat) (Q : Nat → Bool) (a b c : Nat) (s : Nat → Int32) : Prop := ∃ sn : Nat → Bool, gj_se s sn ∧ c = gj_cn (fun i => sn i && Q i) 764 ∧ (∀ i, i < 764 → sn i = true → ∃ a' b', a' < 8 ∧ b' < 8 ∧ a' ≠ b' ∧ gj_S i = gj_nb p a' b') ∧ ∀ a' b', (a' < a ∨ (a' = a ∧ b' < b)) → a' < 8 → b' < 8 → a' ≠ b' → ∀ i, i < 764 → gj_S i = gj_nb p a' b' → sn i = true
theorem gj_ci_c {p : Nat → Nat} {Q : Nat → Bool} {a b c : Nat} {s : Nat → Int32} (h : gj_ci p Q a b c s) : c ≤ 764 := by
  obtain ⟨sn, _, e, _⟩ := h
  rw [e]
  exact gj_cn_le _ _
theorem gj_ci_n {p : Nat → Nat} {Q : Nat → Bool} {a c : Nat} {s : Nat → Int32} (h : gj_ci p Q a 8 c s) : gj_ci p Q (a + 1) 0 c s := by
  obtain ⟨sn, h1, h2, h3, h4⟩ := h
  refine ⟨sn, h1, h2, h3, fun a1 b1 hab ha hb => h4 a1 b1 (by omega) ha hb⟩
theorem gj_ci_e {p : Nat → Nat} {Q : Nat → Bool} {a b c : Nat} {s : Nat → Int32} (h : gj_ci p Q a b c s) (hab : a = b) : gj_ci p Q a (b + 1) c s := by
  obtain ⟨sn, h1, h2, h3, h4⟩ := h
  refine ⟨sn, h1, h2, h3, fun a1 b1 hz ha hb hne => h4 a1 b1 (by omega) ha hb hne⟩
theorem gj_ci_s {p : Nat → Nat} {Q sn : Nat → Bool} {a b c i : Nat} {s' : Nat → Int32} (ha : a < 8) (hb : b < 8) (hab : a ≠ b) (hi : i < 764) (hS : gj_nb p a b = gj_S i) (h2 : c = gj_cn (fun i => sn i && Q i) 764) (h3 : ∀ i, i < 764 → sn i = true → ∃ a' b', a' < 8 ∧ b' < 8 ∧ a' ≠ b' ∧ gj_S i = gj_nb p a' b') (h4 : ∀ a' b', (a' < a ∨ (a' = a ∧ b' < b)) → a' < 8 → b' < 8 → a' ≠ b' → ∀ i, i < 764 → gj_S i = gj_nb p a' b' → sn i = true) (hs : gj_se s' (fun j => sn j || decide (j = i))) : gj_ci p Q a (b + 1) (c + (if sn i = false ∧ Q i = true then 1 else 0)) s' := by
  refine ⟨fun j => sn j || decide (j = i), hs, ?_, ?_, ?_⟩
  · by_cases z : sn i = false ∧ Q i = true
    · rw [if_pos z, h2]
      refine (gj_cn_in (i := i) 764 hi (fun j hj => ?_) ?_ ?_).symm
      · show (((sn j || decide (j = i)) && Q j) = (sn j && Q j))
        rw [decide_eq_false hj, Bool.or_false]
      · show (sn i && Q i) = false
        rw [z.1]; rfl
      · show ((sn i || decide (i = i)) && Q i) = true
        rw [z.2]; simp
    · rw [if_neg z, h2]
      refine gj_cn_c (fun j hj => ?_)
      show (sn j && Q j) = ((sn j || decide (j = i)) && Q j)
      by_cases y : j = i
      · rw [y]
        cases hsn : sn i
        · have hq : Q i = false := by
            cases hq : Q i
            · rfl
            · exact absurd ⟨hsn, hq⟩ z
          rw [hq]; simp
        · simp
      · rw [decide_eq_false y, Bool.or_false]
  · intro j hj hz
    have hz2 : (sn j || decide (j = i)) = true := hz
    rw [Bool.or_eq_true] at hz2
    rcases hz2 with y | y
    · exact h3 j hj y
    · have y2 := of_decide_eq_true y
      rw [y2]
      exact ⟨a, b, ha, hb, hab, hS.symm⟩
  · intro a1 b1 hz ha1 hb1 hne j hj hSj
    show (sn j || decide (j = i)) = true
    by_cases y : a1 = a ∧ b1 = b
    · rw [y.1, y.2, hS] at hSj
      have := gj_S_inj hj hi hSj
      rw [decide_eq_true this, Bool.or_true]
    · rw [h4 a1 b1 (by omega) ha1 hb1 hne j hj hSj, Bool.true_or]
theorem gy_cs_41 {post : Int32 → SY → Prop} {J31 : Int32 → Int32 → (Nat → Int32) → (Nat → Int32) → (Nat → Int32) → Prop} {P : Nat → Nat → Nat} {t g a : Nat} {lim : Int32} {Q : Nat → Bool} {n : Nat → Int32} (hP : gj_P P) (ht : t < 3) (hg : g < 3) (hL : gj_li lim (P g) Q) (ha : a < 8) (HJ : ∀ c w s, gj_Y w n P → gj_ci (P t) Q (a + 1) 0 c s → J31 (nI c) (nI (a + 1)) w s n) : ∀ d b c w s, b + d = 8 → gj_Y w n P → gj_ci (P t) Q a b c s → wY_countSteps_41 post J31 (nI t) (nI g) lim (nI a) (d + 1) (nI c) (nI b) w s n := by
  intro d
  induction d with
  | zero =>
    intro b c w s hb h hc
    have : b = 8 := by omega
    subst this
    exact br_t (nI_le (a := 8) (by omega) (by omega)) (nm_r (nI_1 a) (HJ c w s h (gj_ci_n hc)))
  | succ d ih =>
    intro b c w s hb h hc
    refine br_f (nI_ge (b := 8) (by omega) (by omega)) ?_
    refine pk_eq a b (fun z => ?_) (fun z => ?_) rfl rfl (by omega) (by omega)
    · exact nm_r (nI_1 b) (ih (b + 1) c w s (by omega) h (gj_ci_e hc z))
    · refine gy_stepTo (hP t ht) (h.1 t ht) (by omega) ha (by omega) z (fun w1 k1 k2 => ?_)
      dsimp only
      have h1 := gj_Y_4 h k2
      obtain ⟨i, hi, hS⟩ := gj_num (gj_nb_V (hP t ht) ha (b := b) (by omega) z)
      rw [hS] at k1
      obtain ⟨sn, c1, c2, c3, c4⟩ := hc
      refine gy_note hi (hP g hg) k1 (h1.1 g hg) hg h.2 c1 hL (fun w2 s2 k3 k4 => ?_)
      dsimp only
      refine nm_r (nI_add _ _) (nm_r (nI_1 b) ?_)
      exact ih (b + 1) _ w2 s2 (by omega) (gj_Y_3 h1 k3) (gj_ci_s ha (by omega) z hi hS c2 c3 c4 k4)
theorem gy_cs_31 {post : Int32 → SY → Prop} {P : Nat → Nat → Nat} {t g : Nat} {lim : Int32} {Q : Nat → Bool} {n : Nat → Int32} (hP : gj_P P) (ht : t < 3) (hg : g < 3) (hL : gj_li lim (P g) Q) (H : ∀ c w s, gj_Y w n P → gj_ci (P t) Q 8 0 c s → post (nI c) (w, s, n)) : ∀ d a c w s, a + d = 8 → gj_Y w n P → gj_ci (P t) Q a 0 c s → wY_countSteps_31 post (nI t) (nI g) lim (d + 1) (nI c) (nI a) w s n := by
  intro d
  induction d with
  | zero =>
    intro a c w s ha h hc
    have : a = 8 := by omega
    subst this
    exact br_t (nI_le (a := 8) (by omega) (by omega)) (H c w s h hc)
  | succ d ih =>
    intro a c w s ha h hc
    refine br_f (nI_ge (b := 8) (by omega) (by omega)) ⟨9, gy_cs_41 hP ht hg hL (by omega) (fun c' w' s' h' hc' => ?_) 8 0 c w s rfl h hc⟩
    exact ih (a + 1) c' w' s' (by omega) h' hc'
theorem gj_ci_0 {p : Nat → Nat} {Q : Nat → Bool} {s : Nat → Int32} (hs : ∀ i, i < 764 → s i = 0) : gj_ci p Q 0 0 0 s := by
  refine ⟨fun _ => false, fun i hi => hs i hi, ?_, fun i hi z => absurd z Bool.false_ne_true, fun a1 b1 hz => absurd hz (by omega)⟩
  exact (gj_cn_0 (fun e he => rfl)).symm
theorem gj_ci_f {p : Nat → Nat} {Q : Nat → Bool} {c : Nat} {s : Nat → Int32} (hp : gj_V p) (h : gj_ci p Q 8 0 c s) : c = gj_cn (fun i => decide (gj_D p (gj_S i) = 1) && Q i) 764 := by
  obtain ⟨sn, h1, h2, h3, h4⟩ := h
  rw [h2]
  refine gj_cn_c (fun i hi => ?_)
  have e : sn i = decide (gj_D p (gj_S i) = 1) := by
    by_cases z : gj_D p (gj_S i) = 1
    · rw [decide_eq_true z]
      obtain ⟨a, b, ha, hb, hab, hS⟩ := gj_1_nb hp (gj_S_V hi) z
      exact h4 a b (by omega) ha hb hab i hi hS
    · rw [decide_eq_false z]
      cases hsn : sn i
      · rfl
      · obtain ⟨a, b, ha, hb, hab, hS⟩ := h3 i hi hsn
        rw [hS] at z
        exact absurd (gj_nb_1 hp ha hb hab) z
  rw [e]
theorem gy_cs_3 {post : Int32 → SY → Prop} {x1 x2 x3 : Int32} {w n : Nat → Int32} (H : ∀ s, (∀ i, i < 764 → s i = 0) → wY_countSteps_31 post x1 x2 x3 9 0 0 w s n) : ∀ d j s, j + d = 764 → (∀ i, i < j → s i = 0) → wY_countSteps_3 post x1 x2 x3 (d + 1) (nI j) w s n := by
  intro d
  induction d with
  | zero =>
    intro j s hj hs
    have : j = 764 := by omega
    subst this
    exact br_t (nI_le (a := 764) (by omega) (by omega)) ⟨9, H s hs⟩
  | succ d ih =>
    intro j s hj hs
    refine br_f (nI_ge (b := 764) (by omega) (by omega)) ⟨vp_in_nI (by omega) (by omega), nm_r (by rw [nI_clamp (by omega), gj_bo0]) (nm_r (nI_1 j) (ih (j + 1) _ (by omega) (fun i hi => ?_)))⟩
    by_cases z : i = j
    · rw [z, pk_us]
    · rw [pk_un z]; exact hs i (by omega)
theorem gy_cs {post : Int32 → SY → Prop} {P : Nat → Nat → Nat} {t g : Nat} {lim : Int32} {Q : Nat → Bool} {u s n : Nat → Int32} (hP : gj_P P) (ht : t < 3) (hg : g < 3) (hL : gj_li lim (P g) Q) (h : gj_Y u n P) (H : ∀ w s', gj_Y w n P → post (nI (gj_cn (fun i => decide (gj_D (P t) (gj_S i) = 1) && Q i) 764)) (w, s', n)) : wpY_countSteps post (u, s, n) (nI t) (nI g) lim := by
  unfold wpY_countSteps
  refine ⟨765, gy_cs_3 (fun s' hs' => ?_) 764 0 s rfl (fun i hi => absurd hi (by omega))⟩
  refine gy_cs_31 hP ht hg hL (fun c w s2 h2 hc => ?_) 8 0 0 u s' rfl h (gj_ci_0 hs')
  rw [gj_ci_f (hP t ht) hc]
  exact H w s2 h2
