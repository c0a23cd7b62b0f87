/-- a row of the component: -1 for a loose end -/
def gj_cx (v e : Nat) : Int32 := if v = e then -1 else nI v
def gj_xr (u : Nat → Int32) (t : Nat) (p : Nat → Nat) : Prop := ∀ e, e < 8 → u (t * 8 + e) = gj_cx (p e) e
/-- the same but for the row t -/
def gj_eo (t : Nat) (u w : Nat → Int32) : Prop := ∀ j, (j < t * 8 ∨ t * 8 + 8 ≤ j) → w j = u j
theorem gj_eo_r {t : Nat} {u : Nat → Int32} : gj_eo t u u := fun _ _ => rfl
theorem gj_eo_t {t : Nat} {u v w : Nat → Int32} (h1 : gj_eo t u v) (h2 : gj_eo t v w) : gj_eo t u w := fun j hj => (h2 j hj).trans (h1 j hj)
theorem gj_xr_eo {u w : Nat → Int32} {s t : Nat} {p : Nat → Nat} (h : gj_xr u s p) (k : gj_eo t u w) (hst : s ≠ t) : gj_xr w s p := by
  intro e he
  rw [k _ (by omega)]
  exact h e he
theorem gj_nm {v : Nat} (h : v < 2 ^ 31) : ¬ nI v = -1 := fun z => nI_pos h (by rw [z]; decide)
theorem gj_cx_p {v e : Nat} (h : v = e) : gj_cx v e = -1 := if_pos h
theorem gj_cx_n {v e : Nat} (h : v ≠ e) : gj_cx v e = nI v := if_neg h
theorem gj_xi (t e : Nat) : nI t * 8 + nI e = nI (t * 8 + e) := by
  have h : nI t * nI 8 = nI (t * 8) := pk_mul t 8
  have h8 : nI 8 = 8 := rfl
  rw [h8] at h
  rw [h, nI_add]
theorem gj_xc {t e : Nat} (ht : t < 768) (he : e < 8) : (nI t * 8 + nI e).toNatClampNeg = t * 8 + e := by
  rw [gj_xi, nI_clamp (by omega)]
theorem gj_xv {t e : Nat} (ht : t < 768) (he : e < 8) : vp_in (nI t * 8 + nI e) 6144 := by
  rw [gj_xi]
  exact vp_in_nI (by omega) (by omega)
theorem gx_loose {post : Int32 → Prop} {u : Nat → Int32} {t e : Nat} {p : Nat → Nat} (hp : gj_V p) (h : gj_xr u t p) (ht : t < 768) (he : e < 8) (h1 : p e = e → post 1) (h0 : p e ≠ e → post 0) : wpX_isLoose post u (nI t) (nI e) := by
  unfold wpX_isLoose
  refine ⟨gj_xv ht he, ?_⟩
  rw [gj_xc ht he, h e he]
  have := gj_V_lt hp he
  by_cases z : p e = e
  · rw [gj_cx_p z]; exact br_t rfl (h1 z)
  · rw [gj_cx_n z]; exact br_f (gj_nm (by omega)) (h0 z)
theorem gx_copy_l {post : SX → Prop} {u : Nat → Int32} {t f : Nat} (ht : t < 768) (hf : f < 768) (H : ∀ w, gj_eo t u w → (∀ e, e < 8 → w (t * 8 + e) = u (f * 8 + e)) → post w) : ∀ d e w, e + d = 8 → (∀ j, (j < t * 8 ∨ t * 8 + e ≤ j) → w j = u j) → (∀ i, i < e → w (t * 8 + i) = u (f * 8 + i)) → wX_copyRow_2 post (nI t) (nI f) (d + 1) (nI e) w := by
  intro d
  induction d with
  | zero =>
    intro e w he h1 h2
    have : e = 8 := by omega
    subst this
    exact br_t (nI_le (a := 8) (by omega) (by omega)) (H w h1 h2)
  | succ d ih =>
    intro e w he h1 h2
    refine br_f (nI_ge (b := 8) (by omega) (by omega)) ⟨gj_xv hf (by omega), gj_xv ht (by omega), ?_⟩
    intro y ey
    refine nm_r (nI_1 e) ?_
    rw [gj_xc ht (by omega), gj_xc hf (by omega)] at ey
    refine ih (e + 1) y (by omega) (fun j hj => ?_) (fun i hi => ?_)
    · rw [ey, pk_un (by omega)]
      exact h1 j (by omega)
    · by_cases z : i = e
      · rw [z, ey, pk_us]
        exact h1 _ (by omega)
      · rw [ey, pk_un (by omega)]
        exact h2 i (by omega)
theorem gx_copy {post : SX → Prop} {u : Nat → Int32} {t f : Nat} (ht : t < 768) (hf : f < 768) (H : ∀ w, gj_eo t u w → (∀ e, e < 8 → w (t * 8 + e) = u (f * 8 + e)) → post w) : wpX_copyRow post u (nI t) (nI f) := by
  unfold wpX_copyRow
  exact ⟨9, gx_copy_l ht hf H 8 0 u rfl (fun _ _ => rfl) (fun i hi => absurd hi (by omega))⟩
theorem gx_copyr {post : SX → Prop} {u : Nat → Int32} {t f : Nat} {p : Nat → Nat} (ht : t < 768) (hf : f < 768) (h : gj_xr u f p) (H : ∀ w, gj_eo t u w → gj_xr w t p → post w) : wpX_copyRow post u (nI t) (nI f) :=
  gx_copy ht hf (fun w k1 k2 => H w k1 (fun e he => by rw [k2 e he]; exact h e he))
/-- the four stores of makeJoint give the made joint -/
theorem gx_mk_p {u w : Nat → Int32} {t a b : Nat} {p : Nat → Nat} (hp : gj_V p) (h : gj_xr u t p) (ha : a < 8) (hb : b < 8) (hab : a ≠ b) (hpa : p a ≠ b) (hw : ∀ j, w j = if j = t * 8 + b then nI a else if j = t * 8 + a then nI b else if p b ≠ b ∧ j = t * 8 + p b then gj_cx (p a) a else if p a ≠ a ∧ j = t * 8 + p a then gj_cx (p b) b else u j) : gj_xr w t (gj_mk p a b) ∧ gj_eo t u w := by
  have l1 := gj_V_lt hp ha
  have l2 := gj_V_lt hp hb
  constructor
  · intro e he
    have i1 := hp.1 a
    have i2 := hp.1 b
    have i3 := hp.1 e
    have k := h e he
    have q : ∀ x, (t * 8 + e = t * 8 + x) = (e = x) := fun x => by rw [Nat.add_left_cancel_iff]
    rw [hw]
    simp only [q, k]
    unfold gj_cx gj_mk
    grind
  · intro j hj
    rw [hw, if_neg (by omega), if_neg (by omega), if_neg (by omega), if_neg (by omega)]
theorem gx_make_64 {post : SX → Prop} {t a b : Nat} (ht : t < 768) (ha : a < 8) (hb : b < 8) {u : Nat → Int32} (H : post (upd (upd u (t * 8 + a) (nI b)) (t * 8 + b) (nI a))) : wX_makeJoint_64 post (nI a) (nI b) (nI t * 8) u := by
  unfold wX_makeJoint_64
  refine ⟨gj_xv ht ha, ?_⟩
  intro y ey
  refine ⟨gj_xv ht hb, ?_⟩
  intro z ez
  rw [gj_xc ht ha] at ey
  rw [gj_xc ht hb] at ez
  rw [ez, ey]
  exact H
theorem gx_make {post : SX → Prop} {u : Nat → Int32} {t a b : Nat} {p : Nat → Nat} (hp : gj_V p) (h : gj_xr u t p) (ht : t < 768) (ha : a < 8) (hb : b < 8) (hab : a ≠ b) (hpa : p a ≠ b) (H : ∀ w, gj_xr w t (gj_mk p a b) → gj_eo t u w → post w) : wpX_makeJoint post u (nI t) (nI a) (nI b) := by
  have l1 := gj_V_lt hp ha
  have l2 := gj_V_lt hp hb
  unfold wpX_makeJoint
  refine nm_e ⟨gj_xv ht ha, nm_r (e' := gj_cx (p a) a) (by rw [gj_xc ht ha, h a ha]) ⟨gj_xv ht hb, nm_r (e' := gj_cx (p b) b) (by rw [gj_xc ht hb, h b hb]) ?_⟩⟩
  by_cases za : p a = a
  · rw [gj_cx_p za]
    refine br_t rfl ?_
    unfold wX_makeJoint_46
    by_cases zb : p b = b
    · rw [gj_cx_p zb]
      refine br_t rfl (gx_make_64 ht ha hb ?_)
      have := gx_mk_p (w := upd (upd u (t * 8 + a) (nI b)) (t * 8 + b) (nI a)) hp h ha hb hab hpa (fun j => by
        unfold upd
        simp only [za, zb, ne_eq, not_true, false_and, if_false])
      exact H _ this.1 this.2
    · rw [gj_cx_n zb]
      refine br_f (gj_nm (by omega)) ⟨gj_xv ht l2, nm_r (by rw [gj_xc ht l2]) (gx_make_64 ht ha hb ?_)⟩
      have := gx_mk_p (w := upd (upd (upd u (t * 8 + p b) (-1)) (t * 8 + a) (nI b)) (t * 8 + b) (nI a)) hp h ha hb hab hpa (fun j => by
        unfold upd
        rw [gj_cx_p za]
        simp only [za, zb, ne_eq, not_true, false_and, if_false, not_false_iff, true_and])
      exact H _ this.1 this.2
  · rw [gj_cx_n za]
    refine br_f (gj_nm (by omega)) ⟨gj_xv ht l1, nm_r (by rw [gj_xc ht l1]) ?_⟩
    unfold wX_makeJoint_46
    by_cases zb : p b = b
    · rw [gj_cx_p zb]
      refine br_t rfl (gx_make_64 ht ha hb ?_)
      have := gx_mk_p (w := upd (upd (upd u (t * 8 + p a) (-1)) (t * 8 + a) (nI b)) (t * 8 + b) (nI a)) hp h ha hb hab hpa (fun j => by
        unfold upd
        rw [gj_cx_p zb]
        simp only [za, zb, ne_eq, not_true, false_and, if_false, not_false_iff, true_and])
      exact H _ this.1 this.2
    · rw [gj_cx_n zb]
      refine br_f (gj_nm (by omega)) ⟨gj_xv ht l2, nm_r (by rw [gj_xc ht l2]) (gx_make_64 ht ha hb ?_)⟩
      have := gx_mk_p (w := upd (upd (upd (upd u (t * 8 + p a) (nI (p b))) (t * 8 + p b) (nI (p a))) (t * 8 + a) (nI b)) (t * 8 + b) (nI a)) hp h ha hb hab hpa (fun j => by
        unfold upd
        rw [gj_cx_n za, gj_cx_n zb]
        simp only [za, zb, ne_eq, not_false_iff, true_and])
      exact H _ this.1 this.2
theorem gx_take {post : SX → Prop} {u : Nat → Int32} {t a : Nat} {p : Nat → Nat} (hp : gj_V p) (h : gj_xr u t p) (ht : t < 768) (ha : a < 8) (hpa : p a ≠ a) (H : ∀ w, gj_xr w t (gj_rm p a) → gj_eo t u w → post w) : wpX_takeJoint post u (nI t) (nI a) (nI (p a)) := by
  have l1 := gj_V_lt hp ha
  unfold wpX_takeJoint
  refine ⟨gj_xv ht ha, nm_r (by rw [gj_xc ht ha]) ⟨gj_xv ht l1, nm_r (by rw [gj_xc ht l1]) ?_⟩⟩
  refine H _ ?_ ?_
  · intro e he
    have i1 := hp.1 a
    have i3 := hp.1 e
    have k := h e he
    have q : ∀ x, (t * 8 + e = t * 8 + x) = (e = x) := fun x => by rw [Nat.add_left_cancel_iff]
    unfold upd
    simp only [q, k]
    unfold gj_cx gj_rm
    grind
  · intro j hj
    rw [pk_un (by omega), pk_un (by omega)]
theorem gx_count_l {post : Int32 → Prop} {u : Nat → Int32} {t : Nat} {p : Nat → Nat} (hp : gj_V p) (h : gj_xr u t p) (ht : t < 768) (H : post (nI (gj_jn p))) : ∀ d e, e + d = 8 → wX_countJoints_4 post (nI t) u (d + 1) (nI (gj_cn (fun e => decide (p e ≠ e)) e)) (nI e) := by
  intro d
  induction d with
  | zero =>
    intro e he
    have : e = 8 := by omega
    subst this
    refine br_t (nI_le (a := 8) (by omega) (by omega)) ⟨by decide, ?_⟩
    have e1 : gj_cn (fun e => decide (p e ≠ e)) 8 = 2 * gj_jn p := gj_j hp
    have e2 : gj_jn p ≤ 8 := gj_cn_le _ 8
    rw [e1]
    have e3 : nI (2 * gj_jn p) / nI 2 = nI (2 * gj_jn p / 2) := pk_div (by omega) (by omega) (by omega)
    have e4 : nI 2 = 2 := rfl
    rw [e4] at e3
    rw [e3, Nat.mul_div_cancel_left _ (by omega)]
    exact H
  | succ d ih =>
    intro e he
    refine br_f (nI_ge (b := 8) (by omega) (by omega)) ⟨gj_xv ht (by omega), ?_⟩
    rw [gj_xc ht (by omega), h e (by omega)]
    have l1 := gj_V_lt hp (e := e) (by omega)
    have ih1 := ih (e + 1) (by omega)
    by_cases z : p e = e
    · rw [gj_cx_p z]
      refine br_t rfl (nm_r (nI_1 e) ?_)
      have : gj_cn (fun e => decide (p e ≠ e)) (e + 1) = gj_cn (fun e => decide (p e ≠ e)) e := by
        show gj_cn (fun e => decide (p e ≠ e)) e + (if decide (p e ≠ e) = true then 1 else 0) = _
        rw [decide_eq_false (fun y => y z)]
        rfl
      rw [this] at ih1
      exact ih1
    · rw [gj_cx_n z]
      refine br_f (gj_nm (by omega)) (nm_r (nI_1 _) (nm_r (nI_1 e) ?_))
      have : gj_cn (fun e => decide (p e ≠ e)) (e + 1) = gj_cn (fun e => decide (p e ≠ e)) e + 1 := by
        show gj_cn (fun e => decide (p e ≠ e)) e + (if decide (p e ≠ e) = true then 1 else 0) = _
        rw [decide_eq_true z]
        rfl
      rw [this] at ih1
      exact ih1
theorem gx_count {post : Int32 → Prop} {u : Nat → Int32} {t : Nat} {p : Nat → Nat} (hp : gj_V p) (h : gj_xr u t p) (ht : t < 768) (H : post (nI (gj_jn p))) : wpX_countJoints post u (nI t) := by
  unfold wpX_countJoints
  exact ⟨9, gx_count_l hp h ht H 8 0 rfl⟩
theorem gx_lack_l {post : Int32 → Prop} {u : Nat → Int32} {t g : Nat} {p r : Nat → Nat} (hp : gj_V p) (hr : gj_V r) (h : gj_xr u t p) (k : gj_xr u g r) (ht : t < 768) (hg : g < 768) (H1 : gj_l p r < 8 → post (nI (gj_l p r))) (H0 : ¬ gj_l p r < 8 → post (-1)) : ∀ d e, e + d = 8 → gj_lk p r d e = gj_l p r → wX_leastEndLacking_2 post (nI t) (nI g) u (d + 1) (nI e) := by
  intro d
  induction d with
  | zero =>
    intro e he hl
    have : e = 8 := by omega
    subst this
    have hl2 : 8 = gj_l p r := hl
    exact br_t (nI_le (a := 8) (by omega) (by omega)) (H0 (by omega))
  | succ d ih =>
    intro e he hl
    have lp := gj_V_lt hp (e := e) (by omega)
    have lr := gj_V_lt hr (e := e) (by omega)
    have hl2 : (if r e ≠ e ∧ p e ≠ r e then e else gj_lk p r d (e + 1)) = gj_l p r := hl
    refine br_f (nI_ge (b := 8) (by omega) (by omega)) ⟨gj_xv hg (by omega), nm_r (e' := gj_cx (r e) e) (by rw [gj_xc hg (by omega), k e (by omega)]) ?_⟩
    by_cases z : r e = e
    · rw [if_neg (fun y => y.1 z)] at hl2
      rw [gj_cx_p z]
      exact br_t rfl (nm_r (nI_1 e) (ih (e + 1) (by omega) hl2))
    · rw [gj_cx_n z]
      refine br_f (gj_nm (by omega)) ⟨gj_xv ht (by omega), ?_⟩
      rw [gj_xc ht (by omega), h e (by omega)]
      by_cases y : p e = r e
      · rw [if_neg (fun x => x.2 y)] at hl2
        rw [y, gj_cx_n z]
        exact br_t rfl (nm_r (nI_1 e) (ih (e + 1) (by omega) hl2))
      · rw [if_pos ⟨z, y⟩] at hl2
        refine br_f ?_ ?_
        · by_cases x : p e = e
          · rw [gj_cx_p x]
            exact fun w => gj_nm (v := r e) (by omega) w.symm
          · rw [gj_cx_n x]
            exact fun w => y ((nI_eq (by omega) (by omega)).mp w)
        · rw [hl2]
          exact H1 (by omega)
theorem gx_lack {post : Int32 → Prop} {u : Nat → Int32} {t g : Nat} {p r : Nat → Nat} (hp : gj_V p) (hr : gj_V r) (h : gj_xr u t p) (k : gj_xr u g r) (ht : t < 768) (hg : g < 768) (H1 : gj_l p r < 8 → post (nI (gj_l p r))) (H0 : ¬ gj_l p r < 8 → post (-1)) : wpX_leastEndLacking post u (nI t) (nI g) := by
  unfold wpX_leastEndLacking
  exact ⟨9, gx_lack_l hp hr h k ht hg H1 H0 8 0 rfl rfl⟩
theorem gx_step {post : Int32 → SX → Prop} {u : Nat → Int32} {t g : Nat} {p r : Nat → Nat} (hp : gj_V p) (hr : gj_V r) (h : gj_xr u t p) (k : gj_xr u g r) (ht : t < 768) (hg : g < 768) (H0 : ¬ (gj_l p r < 8 ∨ gj_l r p < 8) → post 0 u) (H1 : (gj_l p r < 8 ∨ gj_l r p < 8) → ∀ w, gj_xr w t (gj_st p r) → gj_eo t u w → post 1 w) : wpX_stepTowards post u (nI t) (nI g) := by
  unfold wpX_stepTowards
  refine gx_lack hp hr h k ht hg (fun z => ?_) (fun z => ?_)
  · obtain ⟨c1, c2⟩ := gj_l_t z
    have lr := gj_V_lt hr z
    refine br_f (gj_nm (by omega)) ⟨gj_xv hg z, ?_⟩
    rw [gj_xc hg z, k _ z, gj_cx_n c1]
    refine gx_make hp h ht z lr (fun y => c1 y.symm) c2 (fun w h1 h2 => H1 (Or.inl z) w ?_ h2)
    rw [gj_st_mk z]
    exact h1
  · refine br_t rfl (gx_lack hr hp k h hg ht (fun y => ?_) (fun y => ?_))
    · obtain ⟨c1, c2⟩ := gj_l_r hr z y
      refine br_f (gj_nm (by omega)) ⟨gj_xv ht y, ?_⟩
      rw [gj_xc ht y, h _ y, gj_cx_n c1]
      refine gx_take hp h ht y c1 (fun w h1 h2 => H1 (Or.inr y) w ?_ h2)
      rw [gj_st_rm z y]
      exact h1
    · exact br_t rfl (H0 (fun x => x.elim z y))
theorem gx_btw_l {post : Int32 → SX → Prop} {u : Nat → Int32} {g m : Nat} {r : Nat → Nat} (hr : gj_V r) (k : gj_xr u g r) (hg : g < 768) (hg3 : g ≠ 3) (hm : m ≤ 8) (H : ∀ w, gj_eo 3 u w → post (nI m) w) : ∀ d q w c, gj_V q → gj_xr w 3 q → gj_eo 3 u w → gj_D q r = d → c + d = m → wX_stepsBetween_8 post (nI g) (d + 1) (nI c) w := by
  intro d
  induction d with
  | zero =>
    intro q w c hq h1 h2 h3 h4
    have hc : c = m := by omega
    subst hc
    have hn : ¬ (gj_l q r < 8 ∨ gj_l r q < 8) := fun z => by rw [gj_D_s hq hr z] at h3; omega
    by_cases h8 : 8 ≤ c
    · exact br_t (nI_le (a := 8) h8 (by omega)) (H w h2)
    · refine br_f (nI_ge (b := 8) (by omega) (by omega)) ?_
      exact gx_step (t := 3) hq hr h1 (gj_xr_eo k h2 hg3) (by omega) hg (fun _ => br_t rfl (H w h2)) (fun z => absurd z hn)
  | succ d ih =>
    intro q w c hq h1 h2 h3 h4
    have hy : gj_l q r < 8 ∨ gj_l r q < 8 := by
      by_cases z : gj_l q r < 8 ∨ gj_l r q < 8
      · exact z
      · rw [gj_ne_l hq hr z, gj_D_self] at h3; omega
    refine br_f (nI_ge (b := 8) (by omega) (by omega)) ?_
    refine gx_step (t := 3) hq hr h1 (gj_xr_eo k h2 hg3) (by omega) hg (fun z => absurd hy z) (fun _ w' k1 k2 => ?_)
    refine br_f (by decide) (nm_r (nI_1 c) ?_)
    refine ih _ w' (c + 1) (gj_st_V hq hr) k1 (gj_eo_t h2 k2) ?_ (by omega)
    have := gj_D_s hq hr hy
    omega
theorem gx_btw {post : Int32 → SX → Prop} {u : Nat → Int32} {f g : Nat} {p r : Nat → Nat} (hp : gj_V p) (hr : gj_V r) (h : gj_xr u f p) (k : gj_xr u g r) (hf : f < 768) (hg : g < 768) (hg3 : g ≠ 3) (H : ∀ w, gj_eo 3 u w → post (nI (gj_D p r)) w) : wpX_stepsBetween post u (nI f) (nI g) := by
  unfold wpX_stepsBetween
  refine gx_copyr (t := 3) (by omega) hf h (fun w h1 h2 => ?_)
  exact ⟨_, gx_btw_l hr k hg hg3 (gj_D_le p r) H (gj_D p r) p w 0 hp h2 h1 rfl (by omega)⟩
