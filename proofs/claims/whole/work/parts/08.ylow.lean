/-- a row of the reference: a loose end is its own partner -/
def gj_yr (q : Nat → Int32) (t : Nat) (p : Nat → Nat) : Prop := ∀ e, e < 8 → q (t * 8 + e) = nI (p e)
theorem gj_yr_eo {u w : Nat → Int32} {s t : Nat} {p : Nat → Nat} (h : gj_yr u s p) (k : gj_eo t u w) (hst : s ≠ t) : gj_yr w s p := by
  intro e he
  rw [k _ (by omega)]
  exact h e he
theorem gj_yi (t e : Nat) : 8 * nI t + nI e = nI (t * 8 + e) := by
  rw [← gj_xi, Int32.mul_comm]
theorem gj_yc {t e : Nat} (ht : t < 5) (he : e < 8) : (8 * nI t + nI e).toNatClampNeg = t * 8 + e := by
  rw [gj_yi, nI_clamp (by omega)]
theorem gj_yv {t e : Nat} (ht : t < 5) (he : e < 8) : vp_in (8 * nI t + nI e) 40 := by
  rw [gj_yi]
  exact vp_in_nI (by omega) (by omega)
theorem gj_yi4 (e : Nat) : 32 + nI e = nI (4 * 8 + e) := by
  have h : nI 32 + nI e = nI (32 + e) := nI_add 32 e
  exact h
theorem gj_yc4 {e : Nat} (he : e < 8) : (32 + nI e).toNatClampNeg = 4 * 8 + e := by
  rw [gj_yi4, nI_clamp (by omega)]
theorem gj_yv4 {e : Nat} (he : e < 8) : vp_in (32 + nI e) 40 := by
  rw [gj_yi4]
  exact vp_in_nI (by omega) (by omega)
theorem gy_loose {post : Int32 → Prop} {q s n : Nat → Int32} {t e : Nat} {p : Nat → Nat} (hp : gj_V p) (h : gj_yr q t p) (ht : t < 5) (he : e < 8) (h1 : p e = e → post 1) (h0 : p e ≠ e → post 0) : wpY_isLoose post (q, s, n) (nI t) (nI e) := by
  unfold wpY_isLoose
  refine ⟨gj_yv ht he, ?_⟩
  rw [gj_yc ht he, h e he]
  have := gj_V_lt hp he
  exact pk_eq (p e) e h1 h0 rfl rfl (by omega) (by omega)
theorem gy_link {post : SY → Prop} {q s n : Nat → Int32} {t a b : Nat} (ht : t < 5) (ha : a < 8) (hb : b < 8) (H : post (upd (upd q (t * 8 + a) (nI b)) (t * 8 + b) (nI a), s, n)) : wpY_link post (q, s, n) (nI t) (nI a) (nI b) := by
  unfold wpY_link
  refine ⟨gj_yv ht ha, nm_r (by rw [gj_yc ht ha]) ⟨gj_yv ht hb, nm_r (by rw [gj_yc ht hb]) H⟩⟩
theorem gy_unlink {post : SY → Prop} {q s n : Nat → Int32} {t a : Nat} {p : Nat → Nat} (hp : gj_V p) (h : gj_yr q t p) (ht : t < 5) (ha : a < 8) (H : ∀ w, gj_yr w t (gj_rm p a) → gj_eo t q w → post (w, s, n)) : wpY_unlink post (q, s, n) (nI t) (nI a) := by
  have l1 := gj_V_lt hp ha
  unfold wpY_unlink
  refine ⟨gj_yv ht ha, nm_r (e' := nI (p a)) (by rw [gj_yc ht ha, h a ha]) ⟨gj_yv ht ha, nm_r (by rw [gj_yc ht ha]) ⟨gj_yv ht l1, nm_r (by rw [gj_yc ht l1]) ?_⟩⟩⟩
  refine H _ ?_ ?_
  · intro e he
    have k := h e he
    have w : ∀ x, (t * 8 + e = t * 8 + x) = (e = x) := fun x => by rw [Nat.add_left_cancel_iff]
    unfold upd
    simp only [w, k]
    unfold gj_rm
    grind
  · intro j hj
    rw [pk_un (by omega), pk_un (by omega)]
theorem gy_copy_l {post : SY → Prop} {u s n : Nat → Int32} {t f : Nat} (ht : t < 5) (hf : f < 5) (H : ∀ w, gj_eo t u w → (∀ e, e < 8 → w (t * 8 + e) = u (f * 8 + e)) → post (w, s, n)) : ∀ d e w, e + d = 8 → (∀ j, (j < t * 8 ∨ t * 8 + e ≤ j) → w j = u j) → (∀ i, i < e → w (t * 8 + i) = u (f * 8 + i)) → wY_copyTo_2 post (nI f) (nI t) (d + 1) (nI e) w s n := by
  intro d
  induction d with
  | zero =>
    intro e w he h1 h2
    have : e = 8 := by omega
    subst this
    exact br_t (nI_le (a := 8) (by omega) (by omega)) (H w h1 h2)
  | succ d ih =>
    intro e w he h1 h2
    refine br_f (nI_ge (b := 8) (by omega) (by omega)) ⟨gj_yv hf (by omega), gj_yv ht (by omega), ?_⟩
    intro y ey
    refine nm_r (nI_1 e) ?_
    rw [gj_yc ht (by omega), gj_yc hf (by omega)] at ey
    refine ih (e + 1) y (by omega) (fun j hj => ?_) (fun i hi => ?_)
    · rw [ey, pk_un (by omega)]
      exact h1 j (by omega)
    · by_cases z : i = e
      · rw [z, ey, pk_us]
        exact h1 _ (by omega)
      · rw [ey, pk_un (by omega)]
        exact h2 i (by omega)
theorem gy_copy {post : SY → Prop} {u s n : Nat → Int32} {t f : Nat} {p : Nat → Nat} (ht : t < 5) (hf : f < 5) (h : gj_yr u f p) (H : ∀ w, gj_eo t u w → gj_yr w t p → post (w, s, n)) : wpY_copyTo post (u, s, n) (nI f) (nI t) := by
  unfold wpY_copyTo
  exact ⟨9, gy_copy_l ht hf (fun w k1 k2 => H w k1 (fun e he => by rw [k2 e he]; exact h e he)) 8 0 u rfl (fun _ _ => rfl) (fun i hi => absurd hi (by omega))⟩
theorem gy_count_l {post : Int32 → Prop} {u s n : Nat → Int32} {t : Nat} {p : Nat → Nat} (hp : gj_V p) (h : gj_yr u t p) (ht : t < 5) (H : post (nI (gj_jn p))) : ∀ d e, e + d = 8 → wY_count_4 post (nI t) u s n (d + 1) (nI (gj_cn (fun e => decide (e < p e)) e)) (nI e) := by
  intro d
  induction d with
  | zero =>
    intro e he
    have : e = 8 := by omega
    subst this
    exact br_t (nI_le (a := 8) (by omega) (by omega)) H
  | succ d ih =>
    intro e he
    refine br_f (nI_ge (b := 8) (by omega) (by omega)) ⟨gj_yv ht (by omega), ?_⟩
    rw [gj_yc ht (by omega), h e (by omega)]
    have l1 := gj_V_lt hp (e := e) (by omega)
    have ih1 := ih (e + 1) (by omega)
    refine pk_le (p e) e (fun z => ?_) (fun z => ?_) rfl rfl (by omega) (by omega)
    · refine nm_r (nI_1 e) ?_
      have : gj_cn (fun e => decide (e < p e)) (e + 1) = gj_cn (fun e => decide (e < p e)) e := by
        show gj_cn (fun e => decide (e < p e)) e + (if decide (e < p e) = true then 1 else 0) = _
        rw [decide_eq_false (by omega)]
        rfl
      rw [this] at ih1
      exact ih1
    · refine nm_r (nI_1 _) (nm_r (nI_1 e) ?_)
      have : gj_cn (fun e => decide (e < p e)) (e + 1) = gj_cn (fun e => decide (e < p e)) e + 1 := by
        show gj_cn (fun e => decide (e < p e)) e + (if decide (e < p e) = true then 1 else 0) = _
        rw [decide_eq_true z]
        rfl
      rw [this] at ih1
      exact ih1
theorem gy_count {post : Int32 → Prop} {u s n : Nat → Int32} {t : Nat} {p : Nat → Nat} (hp : gj_V p) (h : gj_yr u t p) (ht : t < 5) (H : post (nI (gj_jn p))) : wpY_count post (u, s, n) (nI t) := by
  unfold wpY_count
  exact ⟨9, gy_count_l hp h ht H 8 0 rfl⟩
/-- a joint between two loose ends -/
theorem gy_join {post : SY → Prop} {q s n : Nat → Int32} {t a b : Nat} {p : Nat → Nat} (h : gj_yr q t p) (ht : t < 5) (ha : a < 8) (hb : b < 8) (hab : a ≠ b) (za : p a = a) (zb : p b = b) (H : ∀ w, gj_yr w t (gj_mk p a b) → gj_eo t q w → post (w, s, n)) : wpY_link post (q, s, n) (nI t) (nI a) (nI b) := by
  refine gy_link ht ha hb (H _ ?_ ?_)
  · intro e he
    have k := h e he
    have w : ∀ x, (t * 8 + e = t * 8 + x) = (e = x) := fun x => by rw [Nat.add_left_cancel_iff]
    unfold upd
    simp only [w, k]
    unfold gj_mk
    grind
  · intro j hj
    rw [pk_un (by omega), pk_un (by omega)]
theorem gj_mk_rb {p : Nat → Nat} (I : ∀ e, p (p e) = e) {a b : Nat} (hab : a ≠ b) (za : p a = a) : gj_mk (gj_rm p b) a b = gj_mk p a b := by
  funext e
  have i1 := I b
  have i2 := I e
  unfold gj_mk gj_rm
  grind
theorem gj_mk_ra {p : Nat → Nat} (I : ∀ e, p (p e) = e) {a b : Nat} (hab : a ≠ b) (zb : p b = b) : gj_mk (gj_rm p a) a b = gj_mk p a b := by
  funext e
  have i1 := I a
  have i2 := I e
  unfold gj_mk gj_rm
  grind
theorem gy_exch {post : SY → Prop} {q s n : Nat → Int32} {t a b : Nat} {p : Nat → Nat} (hp : gj_V p) (h : gj_yr q t p) (ht : t < 5) (ha : a < 8) (hb : b < 8) (hab : a ≠ b) (hpa : p a ≠ b) (za : p a ≠ a) (zb : p b ≠ b) (H : ∀ w, gj_yr w t (gj_mk p a b) → gj_eo t q w → post (w, s, n)) : wpY_exchange post (q, s, n) (nI t) (nI a) (nI b) := by
  have l1 := gj_V_lt hp ha
  have l2 := gj_V_lt hp hb
  unfold wpY_exchange
  refine ⟨gj_yv ht ha, nm_r (e' := nI (p a)) (by rw [gj_yc ht ha, h a ha]) ⟨gj_yv ht hb, nm_r (e' := nI (p b)) (by rw [gj_yc ht hb, h b hb]) ?_⟩⟩
  refine gy_link ht ha hb ?_
  dsimp only
  refine gy_link ht l1 l2 ?_
  dsimp only
  refine H _ ?_ ?_
  · intro e he
    have i1 := hp.1 a
    have i2 := hp.1 b
    have i3 := hp.1 e
    have k := h e he
    have w : ∀ x, (t * 8 + e = t * 8 + x) = (e = x) := fun x => by rw [Nat.add_left_cancel_iff]
    unfold upd
    simp only [w, k]
    unfold gj_mk
    grind
  · intro j hj
    rw [pk_un (by omega), pk_un (by omega), pk_un (by omega), pk_un (by omega)]
theorem gy_make_28 {post : SY → Prop} {q s n : Nat → Int32} {t a b : Nat} {p : Nat → Nat} (hp : gj_V p) (h : gj_yr q t p) (ht : t < 5) (ha : a < 8) (hb : b < 8) (hab : a ≠ b) (hpa : p a ≠ b) (hn : ¬ (p a = a ∧ p b = b)) (H : ∀ w, gj_yr w t (gj_mk p a b) → gj_eo t q w → post (w, s, n)) : wY_make_28 post (nI t) (nI a) (nI b) q s n := by
  unfold wY_make_28
  refine gy_loose hp h ht ha (fun za => ?_) (fun za => ?_)
  · have zb : p b ≠ b := fun z => hn ⟨za, z⟩
    refine br_f (by decide) (gy_unlink hp h ht hb (fun w k1 k2 => ?_))
    dsimp only
    refine gy_join k1 ht ha hb hab ?_ (if_pos rfl) (fun w' k3 k4 => ?_)
    · unfold gj_rm
      rw [if_neg hab, if_neg (fun z => hab (by rw [z, hp.1] at za; exact (z.trans za.symm))), za]
    · dsimp only
      rw [gj_mk_rb hp.1 hab za] at k3
      exact H w' k3 (gj_eo_t k2 k4)
  · refine br_t rfl (gy_loose hp h ht hb (fun zb => ?_) (fun zb => ?_))
    · refine br_f (by decide) (gy_unlink hp h ht ha (fun w k1 k2 => ?_))
      dsimp only
      refine gy_join k1 ht ha hb hab (if_pos rfl) ?_ (fun w' k3 k4 => ?_)
      · unfold gj_rm
        rw [if_neg (fun z => hab z.symm), if_neg (fun z => hpa z.symm), zb]
      · dsimp only
        rw [gj_mk_ra hp.1 hab zb] at k3
        exact H w' k3 (gj_eo_t k2 k4)
    · refine br_t rfl (gy_exch hp h ht ha hb hab hpa za zb (fun w k1 k2 => ?_))
      dsimp only
      exact H w k1 k2
theorem gy_make {post : SY → Prop} {q s n : Nat → Int32} {t a b : Nat} {p : Nat → Nat} (hp : gj_V p) (h : gj_yr q t p) (ht : t < 5) (ha : a < 8) (hb : b < 8) (hab : a ≠ b) (hpa : p a ≠ b) (H : ∀ w, gj_yr w t (gj_mk p a b) → gj_eo t q w → post (w, s, n)) : wpY_make post (q, s, n) (nI t) (nI a) (nI b) := by
  unfold wpY_make
  dsimp only
  refine gy_loose hp h ht ha (fun za => ?_) (fun za => ?_)
  · refine br_f (by decide) (gy_loose hp h ht hb (fun zb => ?_) (fun zb => ?_))
    · refine br_f (by decide) (gy_join h ht ha hb hab za zb (fun w k1 k2 => ?_))
      dsimp only
      exact H w k1 k2
    · exact br_t rfl (gy_make_28 hp h ht ha hb hab hpa (fun z => zb z.2) H)
  · exact br_t rfl (gy_make_28 hp h ht ha hb hab hpa (fun z => za z.1) H)
theorem gj_l_y {p r : Nat → Nat} (hp : gj_V p) (hr : gj_V r) {e : Nat} (h : ∀ j, j < e → j < r j → p j = r j) : ∀ j, j < e → r j ≠ j → p j = r j := by
  intro j hj hne
  by_cases z : j < r j
  · exact h j hj z
  · have h1 := h (r j) (by omega) (by rw [hr.1]; omega)
    rw [hr.1] at h1
    have h2 := hp.1 (r j)
    rw [h1] at h2
    exact h2
theorem gj_l_eq {p r : Nat → Nat} {e : Nat} (h : ∀ j, j < e → r j ≠ j → p j = r j) (he : e < 8) (h1 : r e ≠ e) (h2 : p e ≠ r e) : gj_l p r = e := by
  rcases Nat.lt_trichotomy (gj_l p r) e with z | z | z
  · have h3 := gj_l_t (p := p) (r := r) (by omega)
    exact absurd (h _ z h3.1) h3.2
  · exact z
  · exact absurd (gj_l_b _ z h1) h2
theorem gj_l_none {p r : Nat → Nat} (h : ∀ j, j < 8 → r j ≠ j → p j = r j) : ¬ gj_l p r < 8 := fun z => (gj_l_t z).2 (h _ z (gj_l_t z).1)
theorem gy_go_61 {post : Int32 → SY → Prop} {q s n : Nat → Int32} {t g : Nat} {p r : Nat → Nat} (hp : gj_V p) (hr : gj_V r) (h : gj_yr q t p) (k : gj_yr q g r) (ht : t < 5) (hg : g < 5) (hl : ¬ gj_l p r < 8) (H0 : ¬ (gj_l p r < 8 ∨ gj_l r p < 8) → post 0 (q, s, n)) (H1 : (gj_l p r < 8 ∨ gj_l r p < 8) → ∀ w, gj_yr w t (gj_st p r) → gj_eo t q w → post 1 (w, s, n)) : ∀ d e, e + d = 8 → (∀ j, j < e → p j ≠ j → r j = p j) → wY_goNearer_61 post (nI t) (nI g) q s n (d + 1) (nI e) := by
  intro d
  induction d with
  | zero =>
    intro e he hi
    have : e = 8 := by omega
    subst this
    exact br_t (nI_le (a := 8) (by omega) (by omega)) (H0 (fun z => z.elim hl (gj_l_none hi)))
  | succ d ih =>
    intro e he hi
    refine br_f (nI_ge (b := 8) (by omega) (by omega)) (gy_loose hp h ht (by omega) (fun za => ?_) (fun za => ?_))
    · refine br_f (by decide) (nm_r (nI_1 e) (ih (e + 1) (by omega) (fun j hj hne => ?_)))
      by_cases z : j = e
      · rw [z] at hne; exact absurd za hne
      · exact hi j (by omega) hne
    · refine br_t rfl (gy_loose hr k hg (by omega) (fun zb => ?_) (fun zb => ?_))
      · have hle : gj_l r p = e := gj_l_eq hi (by omega) za (fun z => za (by rw [← z]; exact zb))
        refine br_f (by decide) (gy_unlink hp h ht (by omega) (fun w k1 k2 => ?_))
        dsimp only
        refine H1 (Or.inr (by omega)) w ?_ k2
        rw [gj_st_rm hl (by omega), hle]
        exact k1
      · refine br_t rfl (nm_r (nI_1 e) (ih (e + 1) (by omega) (fun j hj hne => ?_)))
        by_cases z : j = e
        · rw [z]; exact (gj_l_f hr hl e zb).symm
        · exact hi j (by omega) hne
theorem gy_go_2 {post : Int32 → SY → Prop} {q s n : Nat → Int32} {t g : Nat} {p r : Nat → Nat} (hp : gj_V p) (hr : gj_V r) (h : gj_yr q t p) (k : gj_yr q g r) (ht : t < 5) (hg : g < 5) (H0 : ¬ (gj_l p r < 8 ∨ gj_l r p < 8) → post 0 (q, s, n)) (H1 : (gj_l p r < 8 ∨ gj_l r p < 8) → ∀ w, gj_yr w t (gj_st p r) → gj_eo t q w → post 1 (w, s, n)) : ∀ d e, e + d = 8 → (∀ j, j < e → j < r j → p j = r j) → wY_goNearer_2 post (nI t) (nI g) q s n (d + 1) (nI e) := by
  intro d
  induction d with
  | zero =>
    intro e he hi
    have : e = 8 := by omega
    subst this
    exact br_t (nI_le (a := 8) (by omega) (by omega)) ⟨9, gy_go_61 hp hr h k ht hg (gj_l_none (gj_l_y hp hr hi)) H0 H1 8 0 rfl (fun j hj => absurd hj (by omega))⟩
  | succ d ih =>
    intro e he hi
    have lp := gj_V_lt hp (e := e) (by omega)
    have lr := gj_V_lt hr (e := e) (by omega)
    refine br_f (nI_ge (b := 8) (by omega) (by omega)) ⟨gj_yv hg (by omega), nm_r (e' := nI (r e)) (by rw [gj_yc hg (by omega), k e (by omega)]) ?_⟩
    refine pk_le (r e) e (fun z => ?_) (fun z => ?_) rfl rfl (by omega) (by omega)
    · refine nm_r (nI_1 e) (ih (e + 1) (by omega) (fun j hj hne => ?_))
      by_cases y : j = e
      · rw [y] at hne; omega
      · exact hi j (by omega) hne
    · refine ⟨gj_yv ht (by omega), ?_⟩
      rw [gj_yc ht (by omega), h e (by omega)]
      refine pk_eq (p e) (r e) (fun y => ?_) (fun y => ?_) rfl rfl (by omega) (by omega)
      · refine nm_r (nI_1 e) (ih (e + 1) (by omega) (fun j hj hne => ?_))
        by_cases x : j = e
        · rw [x]; exact y
        · exact hi j (by omega) hne
      · have hle : gj_l p r = e := gj_l_eq (gj_l_y hp hr hi) (by omega) (by omega) y
        refine gy_make hp h ht (by omega) lr (by omega) y (fun w k1 k2 => ?_)
        dsimp only
        refine H1 (Or.inl (by omega)) w ?_ k2
        rw [gj_st_mk (by omega), hle]
        exact k1
theorem gy_go {post : Int32 → SY → Prop} {q s n : Nat → Int32} {t g : Nat} {p r : Nat → Nat} (hp : gj_V p) (hr : gj_V r) (h : gj_yr q t p) (k : gj_yr q g r) (ht : t < 5) (hg : g < 5) (H0 : ¬ (gj_l p r < 8 ∨ gj_l r p < 8) → post 0 (q, s, n)) (H1 : (gj_l p r < 8 ∨ gj_l r p < 8) → ∀ w, gj_yr w t (gj_st p r) → gj_eo t q w → post 1 (w, s, n)) : wpY_goNearer post (q, s, n) (nI t) (nI g) := by
  unfold wpY_goNearer
  exact ⟨9, gy_go_2 hp hr h k ht hg H0 H1 8 0 rfl (fun j hj => absurd hj (by omega))⟩
theorem gy_way_l {post : Int32 → SY → Prop} {u s n : Nat → Int32} {g m : Nat} {r : Nat → Nat} (hr : gj_V r) (k : gj_yr u g r) (hg : g < 5) (hg3 : g ≠ 3) (H : ∀ w, gj_eo 3 u w → post (nI m) (w, s, n)) : ∀ d q w c, gj_V q → gj_yr w 3 q → gj_eo 3 u w → gj_D q r = d → c + d = m → wY_way_8 post (nI g) (d + 1) (nI c) w s n := by
  intro d
  induction d with
  | zero =>
    intro q w c hq h1 h2 h3 h4
    have hc : c = m := by omega
    subst hc
    have hn : ¬ (gj_l q r < 8 ∨ gj_l r q < 8) := fun z => by rw [gj_D_s hq hr z] at h3; omega
    unfold wY_way_8
    exact gy_go (t := 3) hq hr h1 (gj_yr_eo k h2 hg3) (by omega) hg (fun _ => br_t rfl (H w h2)) (fun z => absurd z hn)
  | succ d ih =>
    intro q w c hq h1 h2 h3 h4
    have hy : gj_l q r < 8 ∨ gj_l r q < 8 := by
      by_cases z : gj_l q r < 8 ∨ gj_l r q < 8
      · exact z
      · rw [gj_ne_l hq hr z, gj_D_self] at h3; omega
    unfold wY_way_8
    refine gy_go (t := 3) hq hr h1 (gj_yr_eo k h2 hg3) (by omega) hg (fun z => absurd hy z) (fun _ w' k1 k2 => ?_)
    dsimp only
    refine br_f (by decide) (nm_r (nI_1 c) ?_)
    refine ih _ w' (c + 1) (gj_st_V hq hr) k1 (gj_eo_t h2 k2) ?_ (by omega)
    have := gj_D_s hq hr hy
    omega
theorem gy_way {post : Int32 → SY → Prop} {u s n : Nat → Int32} {f g : Nat} {p r : Nat → Nat} (hp : gj_V p) (hr : gj_V r) (h : gj_yr u f p) (k : gj_yr u g r) (hf : f < 5) (hg : g < 5) (hg3 : g ≠ 3) (H : ∀ w, gj_eo 3 u w → post (nI (gj_D p r)) (w, s, n)) : wpY_way post (u, s, n) (nI f) (nI g) := by
  unfold wpY_way
  dsimp only
  refine gy_copy (t := 3) (by omega) hf h (fun w h1 h2 => ?_)
  dsimp only
  exact ⟨_, gy_way_l hr k hg hg3 H (gj_D p r) p w 0 hp h2 h1 rfl (by omega)⟩
