/-- the relation: the same three genomes on both sides, the component's list, the reference's numbers -/
def i_Rel (k : Nat) (u : SX) (v : SY) : Prop := ∃ (P : Nat → Nat → Nat) (q s n : Nat → Int32), v = (q, s, n) ∧ gj_P P ∧ gj_X u P ∧ gj_Y q n P
theorem i_up {k : Nat} {u : SX} {v : SY} (h : i_Rel k u v) : i_Rel (k + 5) u v := h
def gj_up (P : Nat → Nat → Nat) (t : Nat) (p : Nat → Nat) : Nat → Nat → Nat := fun s => if s = t then p else P s
theorem gj_up_s (P : Nat → Nat → Nat) (t : Nat) (p : Nat → Nat) : gj_up P t p t = p := if_pos rfl
theorem gj_up_P {P : Nat → Nat → Nat} {t : Nat} {p : Nat → Nat} (h : gj_P P) (hp : gj_V p) : gj_P (gj_up P t p) := by
  intro s hs
  unfold gj_up
  split
  · exact hp
  · exact h s hs
theorem gj_up_X {P : Nat → Nat → Nat} {t : Nat} {p : Nat → Nat} {u w : Nat → Int32} (h : gj_X u P) (ht : t < 3) (k1 : gj_xr w t p) (k2 : gj_eo t u w) : gj_X w (gj_up P t p) := by
  refine ⟨fun s hs => ?_, fun j hj => gj_xr_eo (h.2 j hj) k2 (by omega)⟩
  unfold gj_up
  split
  · rename_i z
    rw [z]; exact k1
  · rename_i z
    exact gj_xr_eo (h.1 s hs) k2 z
theorem gj_up_Y {P : Nat → Nat → Nat} {t : Nat} {p : Nat → Nat} {u w n : Nat → Int32} (h : gj_Y u n P) (k1 : gj_yr w t p) (k2 : gj_eo t u w) : gj_Y w n (gj_up P t p) := by
  refine ⟨fun s hs => ?_, h.2⟩
  unfold gj_up
  split
  · rename_i z
    rw [z]; exact k1
  · rename_i z
    exact gj_yr_eo (h.1 s hs) k2 z
theorem gj_up_R {k : Nat} {P : Nat → Nat → Nat} {t : Nat} {p : Nat → Nat} {u w q q' s n : Nat → Int32} (hP : gj_P P) (hX : gj_X u P) (hY : gj_Y q n P) (ht : t < 3) (hp : gj_V p) (k1 : gj_xr w t p) (k2 : gj_eo t u w) (k3 : gj_yr q' t p) (k4 : gj_eo t q q') : i_Rel k w (q', s, n) :=
  ⟨gj_up P t p, q', s, n, rfl, gj_up_P hP hp, gj_up_X hX ht k1 k2, gj_up_Y hY k3 k4⟩
/-- the arguments: good, or bad -/
def gj_bad (n : Nat) (x : Int32) : Prop := x < 0 ∨ ∃ j, n ≤ j ∧ j < 2 ^ 31 ∧ x = nI j
theorem gj_gb (n : Nat) (x : Int32) : gj_bad n x ∨ ∃ j, j < n ∧ x = nI j := by
  by_cases h : x < 0
  · exact Or.inl (Or.inl h)
  · obtain ⟨j, hj, rfl⟩ := nI_of h
    by_cases h2 : j < n
    · exact Or.inr ⟨j, h2, rfl⟩
    · exact Or.inl (Or.inr ⟨j, by omega, hj, rfl⟩)
theorem gx_slot {post : Int32 → Prop} {t : Nat} (h : t < 3) (H : post 0) : wpX_isNoSlot post (nI t) := by
  unfold wpX_isNoSlot
  exact br_f (nI_pos (by omega)) (br_t (nI_lt (b := 3) h (by omega)) H)
theorem gx_slotN {post : Int32 → Prop} {x : Int32} (h : gj_bad 3 x) (H : post 1) : wpX_isNoSlot post x := by
  unfold wpX_isNoSlot
  rcases h with h | ⟨j, h1, h2, rfl⟩
  · exact br_t h H
  · exact br_f (nI_pos h2) (br_f (nI_nlt (b := 3) h1 h2) H)
theorem gx_end {post : Int32 → Prop} {t : Nat} (h : t < 8) (H : post 0) : wpX_isNoEnd post (nI t) := by
  unfold wpX_isNoEnd
  exact br_f (nI_pos (by omega)) (br_t (nI_lt (b := 8) h (by omega)) H)
theorem gx_endN {post : Int32 → Prop} {x : Int32} (h : gj_bad 8 x) (H : post 1) : wpX_isNoEnd post x := by
  unfold wpX_isNoEnd
  rcases h with h | ⟨j, h1, h2, rfl⟩
  · exact br_t h H
  · exact br_f (nI_pos h2) (br_f (nI_nlt (b := 8) h1 h2) H)
theorem gy_slot {post : Int32 → Prop} {q s n : Nat → Int32} {t : Nat} (h : t < 3) (H : post 1) : wpY_isSlot post (q, s, n) (nI t) := by
  unfold wpY_isSlot
  exact br_f (nI_pos (by omega)) (br_f (nI_nlt (a := 2) (by omega) (by omega)) H)
theorem gy_slotN {post : Int32 → Prop} {q s n : Nat → Int32} {x : Int32} (h : gj_bad 3 x) (H : post 0) : wpY_isSlot post (q, s, n) x := by
  unfold wpY_isSlot
  rcases h with h | ⟨j, h1, h2, rfl⟩
  · exact br_t h H
  · exact br_f (nI_pos h2) (br_t (nI_lt (a := 2) (by omega) h2) H)
theorem gy_end {post : Int32 → Prop} {q s n : Nat → Int32} {t : Nat} (h : t < 8) (H : post 1) : wpY_isEnd post (q, s, n) (nI t) := by
  unfold wpY_isEnd
  exact br_f (nI_pos (by omega)) (br_f (nI_nlt (a := 7) (by omega) (by omega)) H)
theorem gy_endN {post : Int32 → Prop} {q s n : Nat → Int32} {x : Int32} (h : gj_bad 8 x) (H : post 0) : wpY_isEnd post (q, s, n) x := by
  unfold wpY_isEnd
  rcases h with h | ⟨j, h1, h2, rfl⟩
  · exact br_t h H
  · exact br_f (nI_pos h2) (br_t (nI_lt (a := 7) (by omega) h2) H)
theorem gx_lo_t {post : Int32 → Prop} {u : Nat → Int32} {t e : Nat} {p : Nat → Nat} (hp : gj_V p) (h : gj_xr u t p) (ht : t < 3) (he : e < 8) (z : p e = e) (H : post 1) : wpX_isLoose post u (nI t) (nI e) := gx_loose hp h (by omega) he (fun _ => H) (fun y => absurd z y)
theorem gx_lo_f {post : Int32 → Prop} {u : Nat → Int32} {t e : Nat} {p : Nat → Nat} (hp : gj_V p) (h : gj_xr u t p) (ht : t < 3) (he : e < 8) (z : p e ≠ e) (H : post 0) : wpX_isLoose post u (nI t) (nI e) := gx_loose hp h (by omega) he (fun y => absurd y z) (fun _ => H)
theorem gy_lo_t {post : Int32 → Prop} {q s n : Nat → Int32} {t e : Nat} {p : Nat → Nat} (hp : gj_V p) (h : gj_yr q t p) (ht : t < 3) (he : e < 8) (z : p e = e) (H : post 1) : wpY_isLoose post (q, s, n) (nI t) (nI e) := gy_loose hp h (by omega) he (fun _ => H) (fun y => absurd z y)
theorem gy_lo_f {post : Int32 → Prop} {q s n : Nat → Int32} {t e : Nat} {p : Nat → Nat} (hp : gj_V p) (h : gj_yr q t p) (ht : t < 3) (he : e < 8) (z : p e ≠ e) (H : post 0) : wpY_isLoose post (q, s, n) (nI t) (nI e) := gy_loose hp h (by omega) he (fun y => absurd y z) (fun _ => H)
theorem gj_nt_s : ∀ k, k < 7 → gj_nt (k + 2) = gj_nt (k + 1) + nI (k + 1) * gj_nt k := by decide +kernel
theorem gy_init_69 {post : SY → Prop} {q s : Nat → Int32} (H : ∀ n, gj_nq n → post (q, s, n)) : ∀ d k n, k + d = 7 → (∀ i, i < k + 2 → n i = gj_nt i) → wY_init_69 post (d + 1) (nI (k + 2)) q s n := by
  intro d
  induction d with
  | zero =>
    intro k n hk hn
    have : k = 7 := by omega
    subst this
    exact br_t (nI_le (a := 9) (by omega) (by omega)) (H n hn)
  | succ d ih =>
    intro k n hk hn
    have e1 : nI (k + 2) - 1 = nI (k + 1) := pk_sub (a := k + 2) (b := 1) (by omega)
    have e2 : nI (k + 2) - 2 = nI k := pk_sub (a := k + 2) (b := 2) (by omega)
    refine br_f (nI_ge (b := 9) (by omega) (by omega)) ⟨by rw [e1]; exact vp_in_nI (by omega) (by omega), by rw [e2]; exact vp_in_nI (by omega) (by omega), vp_in_nI (by omega) (by omega), ?_⟩
    rw [e1, e2, nI_clamp (n := k + 1) (by omega), nI_clamp (n := k) (by omega), nI_clamp (n := k + 2) (by omega), hn (k + 1) (by omega), hn k (by omega), ← gj_nt_s k (by omega)]
    refine nm_e (nm_r (nI_1 (k + 2)) (ih (k + 1) _ (by omega) (fun i hi => ?_)))
    by_cases z : i = k + 2
    · rw [z, pk_us]
    · rw [pk_un z]; exact hn i (by omega)
theorem gy_init_31 {post : SY → Prop} {s : Nat → Int32} (H : ∀ q n, (∀ i, i < 40 → q i = nI (i % 8)) → gj_nq n → post (q, s, n)) : ∀ d k q n, k + d = 40 → (∀ i, i < k → q i = nI (i % 8)) → wY_init_31 post (d + 1) (nI k) q s n := by
  intro d
  induction d with
  | zero =>
    intro k q n hk hq
    have : k = 40 := by omega
    subst this
    refine br_t (nI_le (a := 40) (by omega) (by omega)) (nm_e (nm_e ⟨8, gy_init_69 (fun n' hn' => H q n' hq hn') 7 0 _ rfl (fun i hi => ?_)⟩))
    by_cases z : i = 1
    · rw [z, pk_us]; rfl
    · have z0 : i = 0 := by omega
      rw [z0, pk_un (by omega), pk_us]; rfl
  | succ d ih =>
    intro k q n hk hq
    have e8 : nI k - nI k / 8 * 8 = nI (k % 8) := pk_rem (a := k) (d := 8) (by omega) (by omega) (by omega)
    refine br_f (nI_ge (b := 40) (by omega) (by omega)) ⟨by decide, vp_in_nI (by omega) (by omega), nm_r (by rw [e8, nI_clamp (by omega)]) (nm_r (nI_1 k) (ih (k + 1) _ n (by omega) (fun i hi => ?_)))⟩
    by_cases z : i = k
    · rw [z, pk_us]
    · rw [pk_un z]; exact hq i (by omega)
theorem gy_init {post : SY → Prop} (H : ∀ q s n, (∀ i, i < 40 → q i = nI (i % 8)) → gj_nq n → post (q, s, n)) : wpY_init post := by
  unfold wpY_init
  exact ⟨41, gy_init_31 (fun q n h1 h2 => H q _ n h1 h2) 40 0 _ _ rfl (fun i hi => absurd hi (by omega))⟩
theorem gj_mn_u {F : Nat → Nat} {m m' : Nat} (h : gj_mn F m 764) (k : gj_mn (fun i => F (gj_ix i)) m' 764) : m' = m := by
  obtain ⟨h1, i, hi, e⟩ := h
  obtain ⟨k1, j, hj, f⟩ := k
  have a1 := h1 (gj_ix j) (gj_ix_lt hj)
  obtain ⟨i', hi', e'⟩ := gj_ix_sur hi
  have a2 := k1 i' hi'
  dsimp only at a2 f
  rw [e', e] at a2
  omega
theorem gj_cn_near (p r : Nat → Nat) (W : Nat) : gj_cn (fun i => decide (gj_D p (gj_S i) = 1) && decide (gj_D (gj_S i) r < W)) 764 = gj_cn (fun j => decide (gj_D p (gj_T j) = 1) && decide (gj_D (gj_T j) r < W)) 764 := by
  have h := gj_cn_ix (fun j => decide (gj_D p (gj_T j) = 1) && decide (gj_D (gj_T j) r < W))
  exact Eq.trans (gj_cn_c (fun e he => rfl)) h.symm
theorem gj_cn_step (p : Nat → Nat) : gj_cn (fun i => decide (gj_D p (gj_S i) = 1) && true) 764 = gj_cn (fun j => decide (gj_D p (gj_T j) = 1)) 764 := by
  have h := gj_cn_ix (fun j => decide (gj_D p (gj_T j) = 1))
  exact Eq.trans (gj_cn_c (fun e he => Bool.and_true _)) h.symm
theorem gj_cn_mids (P : Nat → Nat → Nat) (m : Nat) : gj_cn (fun i => decide (gj_sm P (gj_S i) 3 = m)) 764 = gj_cn (fun i => decide (gj_sm P (gj_T i) 3 = m)) 764 := by
  have h := gj_cn_ix (fun i => decide (gj_sm P (gj_T i) 3 = m))
  exact Eq.trans (gj_cn_c (fun e he => rfl)) h.symm
