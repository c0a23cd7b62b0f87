/-- one look of the growing set of genes at an end -/
def gj_ts (p : Nat → Nat) (n a : Nat) : Nat := if n.testBit (a / 2) = true then n ||| (1 <<< (p a / 2)) else n
def gj_ty (p : Nat → Nat) : Nat → Nat → Nat → Nat
  | 0, n, _ => n
  | k + 1, n, i => gj_ty p k (gj_ts p n (i % 8)) (i + 1)
def gj_tz (p : Nat → Nat) (g : Nat) : Nat := gj_ty p 32 (2 ^ g) 0
theorem gj_b1 : ∀ n, n < 16 → ∀ a, a < 8 → (((nI n >>> ((nI a / 2) &&& 31)) &&& 1 = 1) ↔ n.testBit (a / 2) = true) := by decide +kernel
theorem gj_b2 : ∀ n, n < 16 → ∀ a, a < 8 → nI n ||| ((1 : Int32) <<< ((nI a / 2) &&& 31)) = nI (n ||| (1 <<< (a / 2))) := by decide +kernel
theorem gj_b3 : ∀ n, n < 16 → ∀ a, a < 8 → n ||| (1 <<< (a / 2)) < 16 := by decide +kernel
theorem gj_b4 : ∀ n, n < 16 → ∀ a, a < 8 → n.testBit (a / 2) = true → n ||| (1 <<< (a / 2)) = n := by decide +kernel
theorem gj_b5 : ∀ g, g < 4 → (1 : Int32) <<< (nI g &&& 31) = nI (2 ^ g) := by decide +kernel
theorem gj_b6 : ∀ g, g < 4 → 2 ^ g < 16 := by decide +kernel
theorem gx_gene {post : Int32 → Prop} {n a : Nat} (hn : n < 16) (ha : a < 8) (h1 : n.testBit (a / 2) = true → post 1) (h0 : ¬ n.testBit (a / 2) = true → post 0) : wpX_isGeneOfEndIn post (nI a) (nI n) := by
  unfold wpX_isGeneOfEndIn
  refine ⟨by decide, br_c (fun z => h1 ((gj_b1 n hn a ha).mp z)) (fun z => h0 (fun y => z ((gj_b1 n hn a ha).mpr y)))⟩
theorem gx_ga_16 {post : Int32 → Prop} {J7 : Int32 → Int32 → Prop} {u : Nat → Int32} {t pass res : Nat} {p : Nat → Nat} (hp : gj_V p) (h : gj_xr u t p) (ht : t < 768) (hpass : pass < 4) (hJ : ∀ n, n < 16 → gj_ty p (8 * (3 - pass)) n (8 * pass + 8) = res → J7 (nI n) (nI (pass + 1))) : ∀ d a n, a + d = 8 → n < 16 → gj_ty p (8 * (3 - pass) + d) n (8 * pass + a) = res → wX_genesAround_16 post J7 (nI t) (nI pass) u (d + 1) (nI n) (nI a) := by
  intro d
  induction d with
  | zero =>
    intro a n ha hn hs
    have : a = 8 := by omega
    subst this
    exact br_t (nI_le (a := 8) (by omega) (by omega)) (nm_r (nI_1 pass) (hJ n hn hs))
  | succ d ih =>
    intro a n ha hn hs
    have l1 := gj_V_lt hp (e := a) (by omega)
    have hs2 : gj_ty p (8 * (3 - pass) + d) (gj_ts p n ((8 * pass + a) % 8)) (8 * pass + a + 1) = res := hs
    rw [show (8 * pass + a) % 8 = a from by omega] at hs2
    refine br_f (nI_ge (b := 8) (by omega) (by omega)) ⟨gj_xv ht (by omega), nm_r (e' := gj_cx (p a) a) (by rw [gj_xc ht (by omega), h a (by omega)]) ?_⟩
    by_cases z : p a = a
    · rw [gj_cx_p z]
      have e : gj_ts p n a = n := by
        unfold gj_ts
        rw [z]
        split
        · rename_i y
          exact gj_b4 n hn a (by omega) y
        · rfl
      rw [e] at hs2
      exact br_t rfl (nm_r (nI_1 a) (ih (a + 1) n (by omega) hn hs2))
    · rw [gj_cx_n z]
      refine br_f (gj_nm (by omega)) (gx_gene hn (by omega) (fun y => ?_) (fun y => ?_))
      · unfold gj_ts at hs2
        rw [if_pos y] at hs2
        exact br_f (by decide) ⟨by decide, nm_r (gj_b2 n hn (p a) l1) (nm_r (nI_1 a) (ih (a + 1) _ (by omega) (gj_b3 n hn (p a) l1) hs2))⟩
      · unfold gj_ts at hs2
        rw [if_neg y] at hs2
        exact br_t rfl (nm_r (nI_1 a) (ih (a + 1) n (by omega) hn hs2))
theorem gx_ga_7 {post : Int32 → Prop} {u : Nat → Int32} {t res : Nat} {p : Nat → Nat} (hp : gj_V p) (h : gj_xr u t p) (ht : t < 768) (H : res < 16 → post (nI res)) : ∀ d pass n, pass + d = 4 → n < 16 → gj_ty p (8 * d) n (8 * pass) = res → wX_genesAround_7 post (nI t) u (d + 1) (nI n) (nI pass) := by
  intro d
  induction d with
  | zero =>
    intro pass n hd hn hs
    have : pass = 4 := by omega
    subst this
    have e : n = res := hs
    subst e
    exact br_t (nI_le (a := 4) (by omega) (by omega)) (H hn)
  | succ d ih =>
    intro pass n hd hn hs
    refine br_f (nI_ge (b := 4) (by omega) (by omega)) ⟨9, gx_ga_16 (res := res) hp h ht (by omega) (fun n' hn' hs' => ?_) 8 0 n rfl hn ?_⟩
    · refine ih (pass + 1) n' (by omega) hn' ?_
      rw [show 8 * d = 8 * (3 - pass) from by omega]
      exact hs'
    · rw [show 8 * (3 - pass) + 8 = 8 * (d + 1) from by omega]
      exact hs
theorem gx_ga {post : Int32 → Prop} {u : Nat → Int32} {t g : Nat} {p : Nat → Nat} (hp : gj_V p) (h : gj_xr u t p) (ht : t < 768) (hg : g < 4) (H : gj_tz p g < 16 → post (nI (gj_tz p g))) : wpX_genesAround post u (nI t) (nI g) := by
  unfold wpX_genesAround
  exact nm_r (gj_b5 g hg) ⟨5, gx_ga_7 hp h ht H 4 0 _ rfl (gj_b6 g hg) rfl⟩
theorem gy_to_l {post : Int32 → Prop} {q s m : Nat → Int32} {t res : Nat} {p : Nat → Nat} (hp : gj_V p) (h : gj_yr q t p) (ht : t < 5) (H : post (nI res)) : ∀ k i n, i + k = 32 → n < 16 → gj_ty p k n i = res → wY_together_7 post (nI t) q s m (k + 1) (nI n) (nI i) := by
  intro k
  induction k with
  | zero =>
    intro i n hi hn hs
    have : i = 32 := by omega
    subst this
    have e : n = res := hs
    subst e
    exact br_t (nI_le (a := 32) (by omega) (by omega)) H
  | succ k ih =>
    intro i n hi hn hs
    have ha : i % 8 < 8 := Nat.mod_lt _ (by omega)
    have l1 := gj_V_lt hp ha
    have hs2 : gj_ty p k (gj_ts p n (i % 8)) (i + 1) = res := hs
    have e8 : nI i - nI i / 8 * 8 = nI (i % 8) := pk_rem (a := i) (d := 8) (by omega) (by omega) (by omega)
    refine br_f (nI_ge (b := 32) (by omega) (by omega)) ⟨by decide, nm_r e8 ⟨gj_yv ht ha, nm_r (e' := nI (p (i % 8))) (by rw [gj_yc ht ha, h _ ha]) ⟨by decide, ?_⟩⟩⟩
    unfold gj_ts at hs2
    by_cases z : n.testBit ((i % 8) / 2) = true
    · rw [if_pos z] at hs2
      exact br_t ((gj_b1 n hn _ ha).mpr z) ⟨by decide, nm_r (gj_b2 n hn _ l1) (nm_r (nI_1 i) (ih (i + 1) _ (by omega) (gj_b3 n hn _ l1) hs2))⟩
    · rw [if_neg z] at hs2
      exact br_f (fun y => z ((gj_b1 n hn _ ha).mp y)) (nm_r (nI_1 i) (ih (i + 1) n (by omega) hn hs2))
theorem gy_to {post : Int32 → Prop} {q s m : Nat → Int32} {t g : Nat} {p : Nat → Nat} (hp : gj_V p) (h : gj_yr q t p) (ht : t < 5) (hg : g < 4) (H : post (nI (gj_tz p g))) : wpY_together post (q, s, m) (nI t) (nI g) := by
  unfold wpY_together
  exact nm_r (gj_b5 g hg) ⟨33, gy_to_l hp h ht H 32 0 _ rfl (gj_b6 g hg) rfl⟩
/-- the chromosome is counted at its least gene -/
def gj_fc (p : Nat → Nat) (g : Nat) : Bool := decide (nI (gj_tz p g) &&& (((1 : Int32) <<< (nI g &&& 31)) - 1) = 0)
theorem gj_cn_t {f : Nat → Bool} {n : Nat} (h : f n = true) : gj_cn f (n + 1) = gj_cn f n + 1 := by
  show gj_cn f n + (if f n = true then 1 else 0) = _
  rw [if_pos h]
theorem gj_cn_f {f : Nat → Bool} {n : Nat} (h : ¬ f n = true) : gj_cn f (n + 1) = gj_cn f n := by
  show gj_cn f n + (if f n = true then 1 else 0) = _
  rw [if_neg h]; rfl
theorem gx_least {post : Int32 → Prop} {p : Nat → Nat} {g : Nat} (h1 : gj_fc p g = true → post 1) (h0 : ¬ gj_fc p g = true → post 0) : wpX_isLeastOf post (nI g) (nI (gj_tz p g)) := by
  unfold wpX_isLeastOf
  refine nm_e (br_c (fun z => h1 (decide_eq_true z)) (fun z => h0 (fun y => z (of_decide_eq_true y))))
theorem gx_ch_l {post : Int32 → Prop} {u : Nat → Int32} {t : Nat} {p : Nat → Nat} (hp : gj_V p) (h : gj_xr u t p) (ht : t < 768) (H : post (nI (gj_cn (gj_fc p) 4))) : ∀ d g, g + d = 4 → wX_chromosomes_13 post (nI t) u (d + 1) (nI (gj_cn (gj_fc p) g)) (nI g) := by
  intro d
  induction d with
  | zero =>
    intro g hg
    have : g = 4 := by omega
    subst this
    exact br_t (nI_le (a := 4) (by omega) (by omega)) H
  | succ d ih =>
    intro g hg
    have ih1 := ih (g + 1) (by omega)
    refine br_f (nI_ge (b := 4) (by omega) (by omega)) (gx_ga hp h ht (by omega) (fun _ => gx_least (fun z => ?_) (fun z => ?_)))
    · rw [gj_cn_t z] at ih1
      exact br_f (by decide) (nm_r (nI_1 _) (nm_r (nI_1 g) ih1))
    · rw [gj_cn_f z] at ih1
      exact br_t rfl (nm_r (nI_1 g) ih1)
theorem gx_ch {post : Int32 → Prop} {u : Nat → Int32} {t : Nat} {p : Nat → Nat} (hp : gj_V p) (h : gj_xr u t p) (ht : t < 768) (H : post (nI (gj_cn (gj_fc p) 4))) : ∃ n, wX_chromosomes_13 post (nI t) u n 0 0 := ⟨5, gx_ch_l hp h ht H 4 0 rfl⟩
theorem gy_ch_l {post : Int32 → Prop} {q s m : Nat → Int32} {t : Nat} {p : Nat → Nat} (hp : gj_V p) (h : gj_yr q t p) (ht : t < 5) (H : post (nI (gj_cn (gj_fc p) 4))) : ∀ d g, g + d = 4 → wY_chromosomes_14 post (nI t) q s m (d + 1) (nI (gj_cn (gj_fc p) g)) (nI g) := by
  intro d
  induction d with
  | zero =>
    intro g hg
    have : g = 4 := by omega
    subst this
    exact br_t (nI_le (a := 4) (by omega) (by omega)) H
  | succ d ih =>
    intro g hg
    have ih1 := ih (g + 1) (by omega)
    refine br_f (nI_ge (b := 4) (by omega) (by omega)) (gy_to hp h ht (by omega) (br_c (fun z => ?_) (fun z => ?_)))
    · rw [gj_cn_t (decide_eq_true z)] at ih1
      exact nm_r (nI_1 _) (nm_r (nI_1 g) ih1)
    · rw [gj_cn_f (fun y => z (of_decide_eq_true y))] at ih1
      exact nm_r (nI_1 g) ih1
theorem gy_ch {post : Int32 → Prop} {q s m : Nat → Int32} {t : Nat} {p : Nat → Nat} (hp : gj_V p) (h : gj_yr q t p) (ht : t < 5) (H : post (nI (gj_cn (gj_fc p) 4))) : ∃ n, wY_chromosomes_14 post (nI t) q s m n 0 0 := ⟨5, gy_ch_l hp h ht H 4 0 rfl⟩
/-- a loose end in the set of genes -/
def gj_lo (p : Nat → Nat) (n : Nat) : Nat → Nat → Bool
  | 0, _ => false
  | k + 1, a => if n.testBit (a / 2) = true ∧ p a = a then true else gj_lo p n k (a + 1)
theorem gx_hl_l {post : Int32 → Prop} {u : Nat → Int32} {t n : Nat} {p : Nat → Nat} (hp : gj_V p) (h : gj_xr u t p) (ht : t < 768) (hn : n < 16) (res : Bool) (H1 : res = true → post 1) (H0 : res = false → post 0) : ∀ d a, a + d = 8 → gj_lo p n d a = res → wX_hasLooseEnd_2 post (nI t) (nI n) u (d + 1) (nI a) := by
  intro d
  induction d with
  | zero =>
    intro a ha hs
    have : a = 8 := by omega
    subst this
    exact br_t (nI_le (a := 8) (by omega) (by omega)) (H0 hs.symm)
  | succ d ih =>
    intro a ha hs
    unfold gj_lo at hs
    refine br_f (nI_ge (b := 8) (by omega) (by omega)) (gx_gene hn (by omega) (fun z => ?_) (fun z => ?_))
    · refine br_f (by decide) (gx_loose hp h ht (by omega) (fun y => ?_) (fun y => ?_))
      · rw [if_pos ⟨z, y⟩] at hs
        exact br_f (by decide) (H1 hs.symm)
      · rw [if_neg (fun x => y x.2)] at hs
        exact br_t rfl (nm_r (nI_1 a) (ih (a + 1) (by omega) hs))
    · rw [if_neg (fun x => z x.1)] at hs
      exact br_t rfl (nm_r (nI_1 a) (ih (a + 1) (by omega) hs))
theorem gx_hl {post : Int32 → Prop} {u : Nat → Int32} {t n : Nat} {p : Nat → Nat} (hp : gj_V p) (h : gj_xr u t p) (ht : t < 768) (hn : n < 16) (H1 : gj_lo p n 8 0 = true → post 1) (H0 : gj_lo p n 8 0 = false → post 0) : wpX_hasLooseEnd post u (nI t) (nI n) := by
  unfold wpX_hasLooseEnd
  exact ⟨9, gx_hl_l hp h ht hn _ H1 H0 8 0 rfl rfl⟩
theorem gy_ir_l {post : Int32 → Prop} {q s m : Nat → Int32} {t n : Nat} {p : Nat → Nat} (hp : gj_V p) (h : gj_yr q t p) (ht : t < 5) (hn : n < 16) (res : Bool) (H1 : res = true → post 0) (H0 : res = false → post 1) : ∀ d a, a + d = 8 → gj_lo p n d a = res → wY_isRound_2 post (nI t) (nI n) q s m (d + 1) (nI a) := by
  intro d
  induction d with
  | zero =>
    intro a ha hs
    have : a = 8 := by omega
    subst this
    exact br_t (nI_le (a := 8) (by omega) (by omega)) (H0 hs.symm)
  | succ d ih =>
    intro a ha hs
    unfold gj_lo at hs
    refine br_f (nI_ge (b := 8) (by omega) (by omega)) ⟨by decide, ?_⟩
    by_cases z : n.testBit (a / 2) = true
    · refine br_t ((gj_b1 n hn a (by omega)).mpr z) (gy_loose hp h ht (by omega) (fun y => ?_) (fun y => ?_))
      · rw [if_pos ⟨z, y⟩] at hs
        exact br_f (by decide) (H1 hs.symm)
      · rw [if_neg (fun x => y x.2)] at hs
        exact br_t rfl (nm_r (nI_1 a) (ih (a + 1) (by omega) hs))
    · rw [if_neg (fun x => z x.1)] at hs
      exact br_f (fun y => z ((gj_b1 n hn a (by omega)).mp y)) (nm_r (nI_1 a) (ih (a + 1) (by omega) hs))
theorem gy_ir {post : Int32 → Prop} {q s m : Nat → Int32} {t n : Nat} {p : Nat → Nat} (hp : gj_V p) (h : gj_yr q t p) (ht : t < 5) (hn : n < 16) (H1 : gj_lo p n 8 0 = true → post 0) (H0 : gj_lo p n 8 0 = false → post 1) : wpY_isRound post (q, s, m) (nI t) (nI n) := by
  unfold wpY_isRound
  exact ⟨9, gy_ir_l hp h ht hn _ H1 H0 8 0 rfl rfl⟩
def gj_fr (p : Nat → Nat) (g : Nat) : Bool := gj_fc p g && !(gj_lo p (gj_tz p g) 8 0)
theorem gj_ts_16 {p : Nat → Nat} (hp : gj_V p) {n a : Nat} (hn : n < 16) (ha : a < 8) : gj_ts p n a < 16 := by
  unfold gj_ts
  split
  · exact gj_b3 n hn _ (gj_V_lt hp ha)
  · exact hn
theorem gj_ty_16 {p : Nat → Nat} (hp : gj_V p) : ∀ k n i, n < 16 → gj_ty p k n i < 16 := by
  intro k
  induction k with
  | zero => intro n i hn; exact hn
  | succ k ih => intro n i hn; exact ih _ _ (gj_ts_16 hp hn (Nat.mod_lt _ (by omega)))
theorem gj_tz_16 {p : Nat → Nat} (hp : gj_V p) {g : Nat} (hg : g < 4) : gj_tz p g < 16 := gj_ty_16 hp _ _ _ (gj_b6 g hg)
theorem gx_rd_l {post : Int32 → Prop} {u : Nat → Int32} {t : Nat} {p : Nat → Nat} (hp : gj_V p) (h : gj_xr u t p) (ht : t < 768) (H : post (nI (gj_cn (gj_fr p) 4))) : ∀ d g, g + d = 4 → wX_round_13 post (nI t) u (d + 1) (nI (gj_cn (gj_fr p) g)) (nI g) := by
  intro d
  induction d with
  | zero =>
    intro g hg
    have : g = 4 := by omega
    subst this
    exact br_t (nI_le (a := 4) (by omega) (by omega)) H
  | succ d ih =>
    intro g hg
    have ih1 := ih (g + 1) (by omega)
    refine br_f (nI_ge (b := 4) (by omega) (by omega)) (gx_ga hp h ht (by omega) (fun h16 => gx_least (fun z => ?_) (fun z => ?_)))
    · refine br_f (by decide) (gx_hl hp h ht h16 (fun y => ?_) (fun y => ?_))
      · rw [gj_cn_f (by unfold gj_fr; rw [z, y]; decide)] at ih1
        exact br_f (by decide) (nm_r (nI_1 g) ih1)
      · rw [gj_cn_t (by unfold gj_fr; rw [z, y]; rfl)] at ih1
        exact br_t rfl (nm_r (nI_1 _) (nm_r (nI_1 g) ih1))
    · rw [gj_cn_f (fun y => z (by unfold gj_fr at y; rw [Bool.and_eq_true] at y; exact y.1))] at ih1
      exact br_t rfl (nm_r (nI_1 g) ih1)
theorem gx_rd {post : Int32 → Prop} {u : Nat → Int32} {t : Nat} {p : Nat → Nat} (hp : gj_V p) (h : gj_xr u t p) (ht : t < 768) (H : post (nI (gj_cn (gj_fr p) 4))) : ∃ n, wX_round_13 post (nI t) u n 0 0 := ⟨5, gx_rd_l hp h ht H 4 0 rfl⟩
theorem gy_rd_l {post : Int32 → Prop} {q s m : Nat → Int32} {t : Nat} {p : Nat → Nat} (hp : gj_V p) (h : gj_yr q t p) (ht : t < 5) (H : post (nI (gj_cn (gj_fr p) 4))) : ∀ d g, g + d = 4 → wY_round_14 post (nI t) q s m (d + 1) (nI (gj_cn (gj_fr p) g)) (nI g) := by
  intro d
  induction d with
  | zero =>
    intro g hg
    have : g = 4 := by omega
    subst this
    exact br_t (nI_le (a := 4) (by omega) (by omega)) H
  | succ d ih =>
    intro g hg
    have ih1 := ih (g + 1) (by omega)
    refine br_f (nI_ge (b := 4) (by omega) (by omega)) (gy_to hp h ht (by omega) (br_c (fun z => ?_) (fun z => ?_)))
    · have z1 : gj_fc p g = true := decide_eq_true z
      refine gy_ir hp h ht (gj_tz_16 hp (by omega)) (fun y => ?_) (fun y => ?_)
      · rw [gj_cn_f (by unfold gj_fr; rw [z1, y]; decide)] at ih1
        exact br_t rfl (nm_r (nI_1 g) ih1)
      · rw [gj_cn_t (by unfold gj_fr; rw [z1, y]; rfl)] at ih1
        exact br_f (by decide) (nm_r (nI_1 _) (nm_r (nI_1 g) ih1))
    · rw [gj_cn_f (fun y => z (by unfold gj_fr at y; rw [Bool.and_eq_true] at y; exact of_decide_eq_true y.1))] at ih1
      exact nm_r (nI_1 g) ih1
theorem gy_rd {post : Int32 → Prop} {q s m : Nat → Int32} {t : Nat} {p : Nat → Nat} (hp : gj_V p) (h : gj_yr q t p) (ht : t < 5) (H : post (nI (gj_cn (gj_fr p) 4))) : ∃ n, wY_round_14 post (nI t) q s m n 0 0 := ⟨5, gy_rd_l hp h ht H 4 0 rfl⟩
