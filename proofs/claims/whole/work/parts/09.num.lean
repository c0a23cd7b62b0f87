theorem gj_in9_v {x : Int32} (h : gj_in9 x = true) : vp_in x 9 := by
  unfold gj_in9 at h
  rw [Bool.and_eq_true] at h
  have h1 : ¬ x < 0 := Int32.not_lt.mpr (of_decide_eq_true h.1)
  obtain ⟨j, hj, rfl⟩ := nI_of h1
  have h2 : nI j < nI 9 := of_decide_eq_true h.2
  rw [nI_ltI hj (by omega)] at h2
  exact vp_in_nI h2 (by omega)
/-- the reference's table of numbers -/
def gj_nq (n : Nat → Int32) : Prop := ∀ i, i < 9 → n i = gj_nt i
theorem gj_nq_v {n : Nat → Int32} (h : gj_nq n) {x : Int32} (hx : vp_in x 9) : n x.toNatClampNeg = gj_nt x.toNatClampNeg := by
  obtain ⟨j, hj, rfl⟩ := vp_in_of hx (by omega)
  rw [nI_clamp (by omega)]
  exact h j hj
theorem gy_bits_l {post : Int32 → Prop} {q s n : Nat → Int32} {x : Int32} : ∀ k c e, e + k = 8 → post (gj_bt k x c e) → wY_bits_4 post x q s n (k + 1) c (nI e) := by
  intro k
  induction k with
  | zero =>
    intro c e he H
    have : e = 8 := by omega
    subst this
    exact br_t (nI_le (a := 8) (by omega) (by omega)) H
  | succ k ih =>
    intro c e he H
    exact br_f (nI_ge (b := 8) (by omega) (by omega)) (nm_e (nm_r (nI_1 e) (ih _ (e + 1) (by omega) H)))
theorem gy_bits {post : Int32 → Prop} {q s n : Nat → Int32} {x : Int32} (H : post (gj_bt 8 x 0 0)) : wpY_bits post (q, s, n) x := by
  unfold wpY_bits
  exact ⟨9, gy_bits_l 8 0 0 rfl H⟩
theorem gy_no_l {post : Int32 → Prop} {q s n : Nat → Int32} {p : Nat → Nat} {res : Int32} (hp : gj_V p) (h : gj_yr q 4 p) (hn : gj_nq n) (H : post res) : ∀ k e x1 x2 x3, e + k = 8 → gj_no p k x1 x2 x3 e = some res → wY_numberOf_12 post q s n (k + 1) x1 x2 x3 (nI e) := by
  intro k
  induction k with
  | zero =>
    intro e x1 x2 x3 he hs
    have : e = 8 := by omega
    subst this
    have hs2 : some x1 = some res := hs
    rw [Option.some.inj hs2]
    exact br_t (nI_le (a := 8) (by omega) (by omega)) H
  | succ k ih =>
    intro e x1 x2 x3 he hs
    have l1 := gj_V_lt hp (e := e) (by omega)
    unfold gj_no at hs
    refine br_f (nI_ge (b := 8) (by omega) (by omega)) ⟨gj_yv4 (by omega), nm_r (e' := nI (p e)) (by rw [gj_yc4 (by omega), h e (by omega)]) (nm_e ?_)⟩
    by_cases z : p e ≤ e
    · rw [if_pos z] at hs
      by_cases y : p e = e
      · rw [if_pos y] at hs
        refine br_t (by rw [y]) (nm_e ?_)
        unfold wY_numberOf_50
        exact br_t (nI_le z (by omega)) (nm_r (nI_1 e) (ih (e + 1) _ _ _ (by omega) hs))
      · rw [if_neg y] at hs
        refine br_f (fun x => y ((nI_eq (by omega) (by omega)).mp x)) ?_
        unfold wY_numberOf_50
        exact br_t (nI_le z (by omega)) (nm_r (nI_1 e) (ih (e + 1) _ _ _ (by omega) hs))
    · rw [if_neg z] at hs
      by_cases c : (gj_in9 (x3 - 1) && gj_in9 (x3 - 2)) = true
      · rw [if_pos c] at hs
        rw [Bool.and_eq_true] at c
        have v1 := gj_in9_v c.1
        have v2 := gj_in9_v c.2
        refine br_f (fun x => z (by rw [(nI_eq (by omega) (by omega)).mp x]; exact Nat.le_refl _)) ?_
        unfold wY_numberOf_50
        refine br_f (nI_ge (by omega) (by omega)) (nm_e ⟨v1, gy_bits ⟨v2, nm_e (nm_e (nm_e (nm_r (nI_1 e) ?_)))⟩⟩)
        rw [gj_nq_v hn v1, gj_nq_v hn v2]
        exact ih (e + 1) _ _ _ (by omega) hs
      · rw [if_neg c] at hs
        exact absurd hs (by simp)
theorem gy_no {post : Int32 → Prop} {q s n : Nat → Int32} {i : Nat} (hi : i < 764) (h : gj_yr q 4 (gj_S i)) (hn : gj_nq n) (H : post (nI i)) : wpY_numberOf post (q, s, n) := by
  unfold wpY_numberOf
  exact ⟨9, gy_no_l (gj_S_V hi) h hn H 8 0 0 255 8 rfl (gj_no_S hi)⟩
theorem gy_ba_l {post : Int32 → Prop} {q s n : Nat → Int32} {x : Int32} : ∀ k l e, e + k = 8 → post (gj_ba k x l e) → wY_bitAt_5 post x q s n (k + 1) l (nI e) := by
  intro k
  induction k with
  | zero =>
    intro l e he H
    have : e = 8 := by omega
    subst this
    exact br_t (nI_le (a := 8) (by omega) (by omega)) H
  | succ k ih =>
    intro l e he H
    unfold gj_ba at H
    refine br_f (nI_ge (b := 8) (by omega) (by omega)) ?_
    by_cases z : (x >>> (nI e &&& 31)) &&& 1 = 1
    · rw [if_pos z] at H
      by_cases y : l = 0
      · rw [if_pos y] at H
        exact br_t z (br_t y H)
      · rw [if_neg y] at H
        exact br_t z (br_f y (nm_e (nm_r (nI_1 e) (ih _ (e + 1) (by omega) H))))
    · rw [if_neg z] at H
      exact br_f z (nm_r (nI_1 e) (ih _ (e + 1) (by omega) H))
theorem gy_ba {post : Int32 → Prop} {q s n : Nat → Int32} {x l : Int32} (H : post (gj_ba 8 x l 0)) : wpY_bitAt post (q, s, n) x l := by
  unfold wpY_bitAt
  exact ⟨9, gy_ba_l 8 l 0 rfl H⟩
theorem gj_ba_r {x : Int32} : ∀ k l e, e + k = 8 → ∃ c, c < 8 ∧ gj_ba k x l e = nI c := by
  intro k
  induction k with
  | zero => intro l e he; exact ⟨0, by omega, rfl⟩
  | succ k ih =>
    intro l e he
    unfold gj_ba
    split
    · split
      · exact ⟨e, by omega, rfl⟩
      · exact ih _ (e + 1) (by omega)
    · exact ih _ (e + 1) (by omega)
theorem gy_sn_l {post : SY → Prop} {u s n : Nat → Int32} {res : Nat → Nat} (hn : gj_nq n) (H : ∀ w, gj_yr w 4 res → gj_eo 4 u w → post (w, s, n)) : ∀ k e x2 x3 x4 p w, e + k = 8 → gj_sn k x2 x3 x4 e p = some res → gj_yr w 4 p → gj_eo 4 u w → wY_setNumber_41 post (k + 1) x2 x3 x4 (nI e) w s n := by
  intro k
  induction k with
  | zero =>
    intro e x2 x3 x4 p w he hs h1 h2
    have : e = 8 := by omega
    subst this
    have hs2 : some p = some res := hs
    rw [Option.some.inj hs2] at h1
    exact br_t (nI_le (a := 8) (by omega) (by omega)) (H w h1 h2)
  | succ k ih =>
    intro e x2 x3 x4 p w he hs h1 h2
    unfold gj_sn at hs
    refine br_f (nI_ge (b := 8) (by omega) (by omega)) ?_
    by_cases z : (x3 >>> (nI e &&& 31)) &&& 1 = 1
    · rw [if_pos z] at hs
      by_cases y : gj_in9 (x4 - 1) = true
      · rw [if_pos y] at hs
        have v1 := gj_in9_v y
        refine br_t z (nm_e ⟨v1, nm_r (gj_nq_v hn v1) ?_⟩)
        by_cases c : gj_nt (x4 - 1).toNatClampNeg ≤ x2
        · rw [if_pos c] at hs
          by_cases d : (gj_in9 (x4 - 2) && decide (gj_nt (x4 - 2).toNatClampNeg ≠ 0)) = true
          · rw [if_pos d] at hs
            rw [Bool.and_eq_true] at d
            have v2 := gj_in9_v d.1
            have d2 : ¬ gj_nt (x4 - 2).toNatClampNeg = 0 := of_decide_eq_true d.2
            refine br_t c (nm_e ⟨v2, ?_⟩)
            rw [gj_nq_v hn v2]
            refine ⟨d2, gy_ba ⟨v2, d2, nm_e ?_⟩⟩
            obtain ⟨b, hb, eb⟩ := gj_ba_r (x := x3 &&& (((1 : Int32) <<< (nI e &&& 31)) ^^^ (-1))) 8 ((x2 - gj_nt (x4 - 1).toNatClampNeg) / gj_nt (x4 - 2).toNatClampNeg) 0 rfl
            rw [eb, nI_clamp (by omega)] at hs
            rw [eb]
            refine gy_link (t := 4) (by omega) (by omega) hb ?_
            dsimp only
            refine nm_e (nm_e (nm_r (nI_1 e) (ih (e + 1) _ _ _ _ _ (by omega) hs ?_ ?_)))
            · intro f hf
              have kf := h1 f hf
              have ww : ∀ x, (4 * 8 + f = 4 * 8 + x) = (f = x) := fun x => by rw [Nat.add_left_cancel_iff]
              unfold upd gj_ln
              simp only [ww, kf]
              grind
            · intro j hj
              rw [pk_un (by omega), pk_un (by omega)]
              exact h2 j hj
          · rw [if_neg d] at hs
            exact absurd hs (by simp)
        · rw [if_neg c] at hs
          exact br_f c (nm_e (nm_r (nI_1 e) (ih (e + 1) _ _ _ _ _ (by omega) hs h1 h2)))
      · rw [if_neg y] at hs
        exact absurd hs (by simp)
    · rw [if_neg z] at hs
      exact br_f z (nm_r (nI_1 e) (ih (e + 1) _ _ _ _ _ (by omega) hs h1 h2))
theorem gy_sn_13 {post : SY → Prop} {u s n : Nat → Int32} {x2 x3 x4 : Int32} (H : ∀ w, gj_yr w 4 (fun e => e) → gj_eo 4 u w → wY_setNumber_41 post 9 x2 x3 x4 0 w s n) : ∀ k e w, e + k = 8 → (∀ i, i < e → w (4 * 8 + i) = nI i) → gj_eo 4 u w → wY_setNumber_13 post x2 x3 x4 (k + 1) (nI e) w s n := by
  intro k
  induction k with
  | zero =>
    intro e w he h1 h2
    have : e = 8 := by omega
    subst this
    exact br_t (nI_le (a := 8) (by omega) (by omega)) ⟨9, H w h1 h2⟩
  | succ k ih =>
    intro e w he h1 h2
    refine br_f (nI_ge (b := 8) (by omega) (by omega)) ⟨gj_yv4 (by omega), nm_r (by rw [gj_yc4 (by omega)]) (nm_r (nI_1 e) (ih (e + 1) _ (by omega) (fun i hi => ?_) (fun j hj => ?_)))⟩
    · by_cases z : i = e
      · rw [z, pk_us]
      · rw [pk_un (by omega)]; exact h1 i (by omega)
    · rw [pk_un (by omega)]
      exact h2 j hj
theorem gy_sn {post : SY → Prop} {u s n : Nat → Int32} {i : Nat} (hi : i < 764) (hn : gj_nq n) (H : ∀ w, gj_yr w 4 (gj_S i) → gj_eo 4 u w → post (w, s, n)) : wpY_setNumber post (u, s, n) (nI i) := by
  obtain ⟨q, hq, hS⟩ := gj_sn_S hi
  unfold wpY_setNumber
  refine ⟨9, gy_sn_13 (u := u) (fun w h1 h2 => ?_) 8 0 u rfl (fun i hi => absurd hi (by omega)) gj_eo_r⟩
  exact gy_sn_l (u := u) hn (fun w' k1 k2 => H w' (fun e he => by rw [k1 e he, hS e he]) k2) 8 0 _ _ _ _ w rfl hq h1 h2
/-- the constructors -/
def gj_lst (m : Nat) (w : Nat → Int32) : Prop := (∀ j, j < 24 → w j = -1) ∧ ∀ j, j < m → gj_xr w (4 + j) (gj_T j)
theorem gx_list_r {post : SX → Prop} {J4 J14 : Int32 → Int32 → (Nat → Int32) → Prop} {a b L res : Nat} (ha : a < 8) (hb : b < 8) (hab : a ≠ b) (hL : L ≤ 764) (H : ∀ w, res ≤ 764 → L ≤ res → gj_lst res w → J14 (nI (4 + res)) (nI (b + 1)) w) : ∀ k row m w, row + k = L → L ≤ m → m ≤ 764 → gj_sr a b k row m = some res → gj_lst m w → wX_listAllGenomes_26 post J4 J14 (nI a) (nI b) (nI (4 + L)) (k + 1) (nI (4 + m)) (nI (4 + row)) w := by
  intro k
  induction k with
  | zero =>
    intro row m w hr hm h7 hs hw
    have hs2 : some m = some res := hs
    have e := Option.some.inj hs2
    subst e
    have : row = L := by omega
    subst this
    exact br_t (nI_le (by omega) (by omega)) (nm_r (nI_1 b) (H w h7 hm hw))
  | succ k ih =>
    intro row m w hr hm h7 hs hw
    unfold gj_sr at hs
    have hV := gj_T_V (j := row) (by omega)
    have hx := hw.2 row (by omega)
    refine br_f (nI_ge (by omega) (by omega)) ?_
    by_cases h8 : m < 764
    · refine br_f (nI_ge (b := 768) (by omega) (by omega)) (gx_loose hV hx (by omega) ha (fun za => ?_) (fun za => ?_))
      · refine br_f (by decide) (gx_loose hV hx (by omega) hb (fun zb => ?_) (fun zb => ?_))
        · have c : (Nat.blt m 764 && Nat.beq (gj_T row a) a && Nat.beq (gj_T row b) b) = true := by
            rw [za, zb]
            simp [Nat.blt, h8]
            omega
          rw [if_pos c] at hs
          by_cases d : gj_eq (gj_mk (gj_T row) a b) (gj_T m) = true
          · rw [if_pos d] at hs
            have hmV := gj_mk_V hV ha hb hab (by rw [za]; exact hab)
            have e := gj_eq_i d hmV.2 (gj_T_8 m)
            refine br_f (by decide) (gx_copyr (by omega) (by omega) hx (fun w1 k1 k2 => ?_))
            refine gx_make hV k2 (by omega) ha hb hab (by rw [za]; exact hab) (fun w2 k3 k4 => ?_)
            refine nm_r (nI_1 (4 + m)) (nm_r (nI_1 (4 + row)) ?_)
            have k5 := gj_eo_t k1 k4
            refine ih (row + 1) (m + 1) w2 (by omega) (by omega) (by omega) hs ⟨fun j hj => ?_, fun j hj => ?_⟩
            · rw [k5 j (by omega)]
              exact hw.1 j hj
            · by_cases z : j = m
              · rw [z, ← e]; exact k3
              · exact gj_xr_eo (hw.2 j (by omega)) k5 (by omega)
          · rw [if_neg d] at hs
            exact absurd hs (by simp)
        · have c : ¬ (Nat.blt m 764 && Nat.beq (gj_T row a) a && Nat.beq (gj_T row b) b) = true := by
            rw [Bool.and_eq_true]
            exact fun z => zb (Nat.eq_of_beq_eq_true z.2)
          rw [if_neg c] at hs
          exact br_t rfl (nm_r (nI_1 (4 + row)) (ih (row + 1) m w (by omega) hm h7 hs hw))
      · have c : ¬ (Nat.blt m 764 && Nat.beq (gj_T row a) a && Nat.beq (gj_T row b) b) = true := by
          rw [Bool.and_eq_true, Bool.and_eq_true]
          exact fun z => za (Nat.eq_of_beq_eq_true z.1.2)
        rw [if_neg c] at hs
        exact br_t rfl (nm_r (nI_1 (4 + row)) (ih (row + 1) m w (by omega) hm h7 hs hw))
    · have c : ¬ (Nat.blt m 764 && Nat.beq (gj_T row a) a && Nat.beq (gj_T row b) b) = true := by
        rw [Bool.and_eq_true, Bool.and_eq_true]
        exact fun z => h8 (Nat.le_of_ble_eq_true z.1.1)
      rw [if_neg c] at hs
      exact br_t (nI_le (a := 768) (by omega) (by omega)) (nm_r (nI_1 (4 + row)) (ih (row + 1) m w (by omega) hm h7 hs hw))
theorem gx_list_b {post : SX → Prop} {J4 : Int32 → Int32 → (Nat → Int32) → Prop} {a res : Nat} (ha : a < 8) (H : ∀ w, res ≤ 764 → gj_lst res w → J4 (nI (4 + res)) (nI (a + 1)) w) : ∀ k b m w, b + k = 8 → a < b → m ≤ 764 → gj_sb a k b m = some res → gj_lst m w → wX_listAllGenomes_14 post J4 (nI a) (k + 1) (nI (4 + m)) (nI b) w := by
  intro k
  induction k with
  | zero =>
    intro b m w hb hab h7 hs hw
    have : b = 8 := by omega
    subst this
    have hs2 : some m = some res := hs
    have e := Option.some.inj hs2
    subst e
    exact br_t (nI_le (a := 8) (by omega) (by omega)) (nm_r (nI_1 a) (H w h7 hw))
  | succ k ih =>
    intro b m w hb hab h7 hs hw
    unfold gj_sb at hs
    split at hs
    · rename_i m' hm'
      refine br_f (nI_ge (b := 8) (by omega) (by omega)) ⟨m + 1, ?_⟩
      refine gx_list_r (L := m) (res := m') ha (by omega) (by omega) h7 (fun w' g1 g2 g3 => ?_) m 0 m w (by omega) (Nat.le_refl _) h7 hm' hw
      exact ih (b + 1) m' w' (by omega) (by omega) g1 hs g3
    · exact absurd hs (by simp)
theorem gx_list_a {post : SX → Prop} {res : Nat} (H : ∀ w, gj_lst res w → post w) : ∀ k a m w, a + k = 8 → m ≤ 764 → gj_sa k a m = some res → gj_lst m w → wX_listAllGenomes_4 post (k + 1) (nI (4 + m)) (nI a) w := by
  intro k
  induction k with
  | zero =>
    intro a m w ha h7 hs hw
    have : a = 8 := by omega
    subst this
    have hs2 : some m = some res := hs
    have e := Option.some.inj hs2
    subst e
    exact br_t (nI_le (a := 8) (by omega) (by omega)) (H w hw)
  | succ k ih =>
    intro a m w ha h7 hs hw
    unfold gj_sa at hs
    split at hs
    · rename_i m' hm'
      refine br_f (nI_ge (b := 8) (by omega) (by omega)) (nm_r (nI_1 a) ⟨7 - a + 1, ?_⟩)
      refine gx_list_b (res := m') (by omega) (fun w' g1 g3 => ?_) (7 - a) (a + 1) m w (by omega) (by omega) h7 hm' hw
      exact ih (a + 1) m' w' (by omega) g1 hs g3
    · exact absurd hs (by simp)
theorem gx_list {post : SX → Prop} {w : Nat → Int32} (hw : ∀ j, j < 6144 → w j = -1) (H : ∀ w, gj_lst 764 w → post w) : wpX_listAllGenomes post w := by
  unfold wpX_listAllGenomes
  refine ⟨9, gx_list_a (res := 764) H 8 0 1 w rfl (by omega) gj_sa_764 ⟨fun j hj => hw j (by omega), fun j hj e he => ?_⟩⟩
  have : j = 0 := by omega
  subst this
  rw [gj_T0, hw _ (by omega)]
  exact (gj_cx_p rfl).symm
theorem gx_init_l {post : SX → Prop} (H : ∀ w, gj_lst 764 w → post w) : ∀ k e w, e + k = 6144 → (∀ j, j < e → w j = -1) → wX_init_15 post (k + 1) (nI e) w := by
  intro k
  induction k with
  | zero =>
    intro e w he hw
    have : e = 6144 := by omega
    subst this
    exact br_t (nI_le (a := 6144) (by omega) (by omega)) (gx_list hw H)
  | succ k ih =>
    intro e w he hw
    refine br_f (nI_ge (b := 6144) (by omega) (by omega)) ⟨vp_in_nI (by omega) (by omega), nm_r (by rw [nI_clamp (by omega)]) (nm_r (nI_1 e) (ih (e + 1) _ (by omega) (fun j hj => ?_)))⟩
    by_cases z : j = e
    · rw [z, pk_us]
    · rw [pk_un z]; exact hw j (by omega)
theorem gx_init {post : SX → Prop} (H : ∀ w, gj_lst 764 w → post w) : wpX_init post := by
  unfold wpX_init
  exact ⟨6145, gx_init_l H 6144 0 _ rfl (fun j hj => absurd hj (by omega))⟩
