/-- any joint of r that is wanting may be made first -/
theorem gj_D_mk : ∀ n p r, gj_V p → gj_V r → gj_A p r ≤ n → ∀ a, r a ≠ a → p a ≠ r a → gj_D p r = gj_D (gj_mk p a (r a)) r + 1 := by
  intro n
  induction n with
  | zero =>
    intro p r hp hr hA a h1 h2
    have := gj_A_mk hp hr h1 h2
    omega
  | succ n ih =>
    intro p r hp hr hA a h1 h2
    have hl := gj_l_i hr h1 h2
    obtain ⟨c1, c2⟩ := gj_l_t hl
    have e0 := gj_D_mk0 hp hr hl
    generalize gj_l p r = c at *
    have ha : a < 8 := by
      by_cases h : a < 8
      · exact h
      · exact absurd (hr.2 a (by omega)) h1
    by_cases hca : c = a
    · subst hca; exact e0
    · by_cases hcb : c = r a
      · rw [e0, hcb, hr.1 a, gj_mk_s hp.1 (fun z => h1 z) (by rw [hcb, hr.1 a] at c2; exact c2)]
      · have hda : r c ≠ a := fun z => hcb (by rw [← z, hr.1 c])
        have hdb : r c ≠ r a := fun z => hca (by rw [← hr.1 c, z, hr.1 a])
        have A1 := gj_A_mk hp hr c1 c2
        have A2 := gj_A_mk hp hr h1 h2
        by_cases hb : gj_mk p a (r a) c = r c
        · rw [gj_mk_2 hp.1 (fun z => h1 z.symm) (fun z => c1 z.symm) h2 c2 hca hcb hda hdb hb]
          exact e0
        · have hx : gj_mk p c (r c) a ≠ r a := by
            intro z
            have := gj_mk_2 hp.1 (fun z => c1 z.symm) (fun z => h1 z.symm) c2 h2 (fun z => hca z.symm) (fun z => hda z.symm) (fun z => hcb z.symm) (fun z => hdb z.symm) z
            apply hb
            rw [← this]
            exact gj_mk_a
          have V1 := gj_mk_V hp hl (gj_V_lt hr hl) (fun z => c1 z.symm) c2
          have V2 := gj_mk_V hp ha (gj_V_lt hr ha) (fun z => h1 z.symm) h2
          have e1 := ih _ r V1 hr (by omega) a h1 hx
          have e2 := ih _ r V2 hr (by omega) c c1 hb
          rw [e0, e1, e2, gj_mk_c hp.1 (fun z => h1 z.symm) (fun z => c1 z.symm) h2 c2 hca hcb hda hdb hb]
theorem gj_D_m {p r : Nat → Nat} (hp : gj_V p) (hr : gj_V r) {a : Nat} (h1 : r a ≠ a) (h2 : p a ≠ r a) : gj_D p r = gj_D (gj_mk p a (r a)) r + 1 := gj_D_mk _ p r hp hr (Nat.le_refl _) a h1 h2
/-- any joint of p alone may be taken away first, once r's joints stand -/
theorem gj_D_rm : ∀ n p r, gj_V p → gj_V r → (∀ e, r e ≠ e → p e = r e) → gj_C p r ≤ n → ∀ a, p a ≠ a → r a = a → gj_D p r = gj_D (gj_rm p a) r + 1 := by
  intro n
  induction n with
  | zero =>
    intro p r hp hr h0 hC a h1 h2
    have := gj_C_rm hp hr h0 h1 h2
    omega
  | succ n ih =>
    intro p r hp hr h0 hC a h1 h2
    have hn : ¬ gj_l p r < 8 := fun z => (gj_l_t z).2 (h0 _ (gj_l_t z).1)
    have hl : gj_l r p < 8 := gj_l_i hp h1 (fun z => h1 (by rw [← z]; exact h2))
    obtain ⟨c1, c2⟩ := gj_l_r hr hn hl
    have e0 := gj_D_rm0 hp hr hn hl
    generalize gj_l r p = c at *
    by_cases hca : c = a
    · subst hca; exact e0
    · by_cases hcb : c = p a
      · rw [e0]
        have : gj_rm p c = gj_rm p a := by
          funext e
          unfold gj_rm
          rw [hcb, hp.1 a]
          grind
        rw [this]
      · have C1 := gj_C_rm hp hr h0 c1 c2
        have C2 := gj_C_rm hp hr h0 h1 h2
        have hda : p c ≠ a := fun z => hcb (by rw [← z, hp.1 c])
        have e1 := ih _ r (gj_rm_V hp c) hr (gj_rm_k hp hr h0 c1 c2) (by omega) a (by unfold gj_rm; rw [if_neg (fun z => hca z.symm), if_neg (fun z => hda z.symm)]; exact h1) h2
        have e2 := ih _ r (gj_rm_V hp a) hr (gj_rm_k hp hr h0 h1 h2) (by omega) c (by unfold gj_rm; rw [if_neg hca, if_neg hcb]; exact c1) c2
        rw [e0, e1, e2, gj_rm_c hp.1]
theorem gj_D_r {p r : Nat → Nat} (hp : gj_V p) (hr : gj_V r) (h0 : ∀ e, r e ≠ e → p e = r e) {a : Nat} (h1 : p a ≠ a) (h2 : r a = a) : gj_D p r = gj_D (gj_rm p a) r + 1 := gj_D_rm _ p r hp hr h0 (Nat.le_refl _) a h1 h2
/-- new names for two ends -/
def gj_sw (x y e : Nat) : Nat := if e = x then y else if e = y then x else e
theorem gj_sw_I (x y e : Nat) : gj_sw x y (gj_sw x y e) = e := by
  unfold gj_sw
  grind
theorem gj_sw_8 {x y e : Nat} (hx : x < 8) (hy : y < 8) (he : 8 ≤ e) : gj_sw x y e = e := by
  unfold gj_sw
  rw [if_neg (by omega), if_neg (by omega)]
def gj_cj (x y : Nat) (p : Nat → Nat) : Nat → Nat := fun e => gj_sw x y (p (gj_sw x y e))
theorem gj_sw_i {x y a b : Nat} : gj_sw x y a = gj_sw x y b ↔ a = b := ⟨fun h => by rw [← gj_sw_I x y a, h, gj_sw_I], fun h => by rw [h]⟩
theorem gj_sw_t {x y a b : Nat} : a = gj_sw x y b ↔ gj_sw x y a = b := ⟨fun h => by rw [h, gj_sw_I], fun h => by rw [← h, gj_sw_I]⟩
theorem gj_cj_V {x y : Nat} (hx : x < 8) (hy : y < 8) {p : Nat → Nat} (hp : gj_V p) : gj_V (gj_cj x y p) := by
  refine ⟨fun e => ?_, fun e he => ?_⟩
  · unfold gj_cj
    rw [gj_sw_I, hp.1, gj_sw_I]
  · unfold gj_cj
    rw [gj_sw_8 hx hy he, hp.2 e he, gj_sw_8 hx hy he]
theorem gj_cj_mk (x y : Nat) (p : Nat → Nat) (a b : Nat) : gj_mk (gj_cj x y p) (gj_sw x y a) (gj_sw x y b) = gj_cj x y (gj_mk p a b) := by
  funext e
  have ea : gj_cj x y p (gj_sw x y a) = gj_sw x y (p a) := by unfold gj_cj; rw [gj_sw_I]
  have eb : gj_cj x y p (gj_sw x y b) = gj_sw x y (p b) := by unfold gj_cj; rw [gj_sw_I]
  show (if e = gj_sw x y a then gj_sw x y b else if e = gj_sw x y b then gj_sw x y a else if e = gj_cj x y p (gj_sw x y a) then (if gj_cj x y p (gj_sw x y b) = gj_sw x y b then e else gj_cj x y p (gj_sw x y b)) else if e = gj_cj x y p (gj_sw x y b) then (if gj_cj x y p (gj_sw x y a) = gj_sw x y a then e else gj_cj x y p (gj_sw x y a)) else gj_cj x y p e) = gj_sw x y (gj_mk p a b (gj_sw x y e))
  rw [ea, eb]
  simp only [gj_sw_t (a := e), gj_sw_i]
  have ee := gj_sw_I x y e
  have ec : gj_cj x y p e = gj_sw x y (p (gj_sw x y e)) := rfl
  rw [ec]
  generalize gj_sw x y e = f at *
  subst ee
  unfold gj_mk
  grind
theorem gj_cj_rm (x y : Nat) (p : Nat → Nat) (a : Nat) : gj_rm (gj_cj x y p) (gj_sw x y a) = gj_cj x y (gj_rm p a) := by
  funext e
  have ea : gj_cj x y p (gj_sw x y a) = gj_sw x y (p a) := by unfold gj_cj; rw [gj_sw_I]
  show (if e = gj_sw x y a then e else if e = gj_cj x y p (gj_sw x y a) then e else gj_cj x y p e) = gj_sw x y (gj_rm p a (gj_sw x y e))
  rw [ea]
  simp only [gj_sw_t (a := e)]
  have ee := gj_sw_I x y e
  have ec : gj_cj x y p e = gj_sw x y (p (gj_sw x y e)) := rfl
  rw [ec]
  generalize gj_sw x y e = f at *
  subst ee
  unfold gj_rm
  grind
/-- the count doesn't see the names -/
theorem gj_D_cj {x y : Nat} (hx : x < 8) (hy : y < 8) : ∀ n p r, gj_V p → gj_V r → gj_D p r = n → gj_D (gj_cj x y p) (gj_cj x y r) = n := by
  intro n
  induction n with
  | zero =>
    intro p r hp hr h
    have : p = r := gj_ne_l hp hr (fun z => by rw [gj_D_s hp hr z] at h; omega)
    rw [this]
    exact gj_D_self _
  | succ n ih =>
    intro p r hp hr h
    by_cases h1 : gj_l p r < 8
    · have e0 := gj_D_mk0 hp hr h1
      obtain ⟨c1, c2⟩ := gj_l_t h1
      generalize gj_l p r = c at *
      have er : gj_cj x y r (gj_sw x y c) = gj_sw x y (r c) := by unfold gj_cj; rw [gj_sw_I]
      have ep : gj_cj x y p (gj_sw x y c) = gj_sw x y (p c) := by unfold gj_cj; rw [gj_sw_I]
      have e1 := gj_D_m (gj_cj_V hx hy hp) (gj_cj_V hx hy hr) (a := gj_sw x y c) (by rw [er]; exact fun z => c1 (gj_sw_i.mp z)) (by rw [er, ep]; exact fun z => c2 (gj_sw_i.mp z))
      rw [e1, er, gj_cj_mk]
      have := ih _ r (gj_mk_V hp h1 (gj_V_lt hr h1) (fun z => c1 z.symm) c2) hr (by omega)
      omega
    · by_cases h2 : gj_l r p < 8
      · have e0 := gj_D_rm0 hp hr h1 h2
        have hf := gj_l_f hr h1
        obtain ⟨c1, c2⟩ := gj_l_r hr h1 h2
        generalize gj_l r p = c at *
        have er : gj_cj x y r (gj_sw x y c) = gj_sw x y (r c) := by unfold gj_cj; rw [gj_sw_I]
        have ep : gj_cj x y p (gj_sw x y c) = gj_sw x y (p c) := by unfold gj_cj; rw [gj_sw_I]
        have e1 := gj_D_r (gj_cj_V hx hy hp) (gj_cj_V hx hy hr) (fun e he => by
          show gj_sw x y (p (gj_sw x y e)) = gj_sw x y (r (gj_sw x y e))
          rw [hf _ (fun z => he (by show gj_sw x y (r (gj_sw x y e)) = e; rw [z, gj_sw_I]))]) (a := gj_sw x y c) (by rw [ep]; exact fun z => c1 (gj_sw_i.mp z)) (by rw [er, c2])
        rw [e1, gj_cj_rm]
        have := ih _ r (gj_rm_V hp c) hr (by omega)
        omega
      · have := gj_D_s hp hr
        have e : p = r := gj_ne_l hp hr (fun z => z.elim h1 h2)
        rw [e, gj_D_self] at h
        omega
theorem gj_D_c {x y : Nat} (hx : x < 8) (hy : y < 8) {p r : Nat → Nat} (hp : gj_V p) (hr : gj_V r) : gj_D (gj_cj x y p) (gj_cj x y r) = gj_D p r := gj_D_cj hx hy _ p r hp hr rfl
/-- a joint of r made in the goal p, where p joins a to another end -/
theorem gj_L2a {p r : Nat → Nat} (hp : gj_V p) (hr : gj_V r) {a : Nat} (ha : a < 8) (h1 : r a ≠ a) (h2 : p a ≠ r a) (h3 : p a ≠ a) : gj_D r p = gj_D r (gj_mk p a (r a)) + 1 := by
  have e1 := gj_D_m hr hp (a := a) h3 (fun z => h2 z.symm)
  have hV := gj_mk_V hr ha (gj_V_lt hp ha) (fun z => h3 z.symm) (fun z => h2 z.symm)
  rw [e1, ← gj_D_c (x := p a) (y := r a) (gj_V_lt hp ha) (gj_V_lt hr ha) hV hp]
  have i1 := hr.1 a
  have i2 := hp.1 a
  have f1 : gj_cj (p a) (r a) (gj_mk r a (p a)) = r := by
    funext e
    have i3 := hr.1 (p a)
    have i4 := hr.1 e
    unfold gj_cj gj_mk gj_sw
    grind (splits := 30)
  have f2 : gj_cj (p a) (r a) p = gj_mk p a (r a) := by
    funext e
    have i3 := hp.1 (r a)
    have i4 := hp.1 e
    unfold gj_cj gj_mk gj_sw
    grind (splits := 30)
  rw [f1, f2]
/-- the same where p has a and its partner in r loose -/
theorem gj_L2b {p : Nat → Nat} (hp : gj_V p) {a b : Nat} (ha : a < 8) (hb : b < 8) (hab : a ≠ b) (h3 : p a = a) (h4 : p b = b) : ∀ n r, gj_V r → r a = b → gj_D r (gj_mk p a b) = n → gj_D r p = n + 1 := by
  have hq : gj_V (gj_mk p a b) := gj_mk_V hp ha hb hab (by rw [h3]; exact hab)
  have qo : ∀ e, e ≠ a → e ≠ b → gj_mk p a b e = p e := fun e z1 z2 => gj_mk_o z1 z2 (by rw [h3]; exact z1) (by rw [h4]; exact z2)
  have qa : gj_mk p a b a = b := gj_mk_a
  have qb : gj_mk p a b b = a := gj_mk_b
  have qr : gj_rm (gj_mk p a b) a = p := by
    funext e
    unfold gj_rm
    rw [qa]
    by_cases z1 : e = a
    · rw [if_pos z1, z1, h3]
    · by_cases z2 : e = b
      · rw [if_neg z1, if_pos z2, z2, h4]
      · rw [if_neg z1, if_neg z2, qo e z1 z2]
  generalize gj_mk p a b = q at *
  intro n
  induction n with
  | zero =>
    intro r hr hab' h
    have e : r = q := gj_ne_l hr hq (fun z => by rw [gj_D_s hr hq z] at h; omega)
    subst e
    rw [gj_D_r hr hp (fun e he => ?_) (a := a) (by rw [qa]; exact fun z => hab z.symm) h3, qr, gj_D_self]
    have z1 : e ≠ a := fun z => he (by rw [z]; exact h3)
    have z2 : e ≠ b := fun z => he (by rw [z]; exact h4)
    exact qo e z1 z2
  | succ n ih =>
    intro r hr hrab h
    have hrb : r b = a := by rw [← hrab, hr.1]
    by_cases h1 : gj_l r q < 8
    · have e0 := gj_D_mk0 hr hq h1
      obtain ⟨c1, c2⟩ := gj_l_t h1
      generalize gj_l r q = c at *
      have z1 : c ≠ a := fun z => c2 (by rw [z, hrab, qa])
      have z2 : c ≠ b := fun z => c2 (by rw [z, hrb, qb])
      rw [qo c z1 z2] at c1 c2 e0
      have z3 : p c ≠ a := fun z => z1 (by rw [← hp.1 c, z, h3])
      have z4 : p c ≠ b := fun z => z2 (by rw [← hp.1 c, z, h4])
      have hV := gj_mk_V hr h1 (gj_V_lt hp h1) (fun z => c1 z.symm) c2
      have e1 := gj_D_m hr hp c1 c2
      have ha' : gj_mk r c (p c) a = b := by
        rw [gj_mk_o (fun z => z1 z.symm) (fun z => z3 z.symm) (fun z => z2 (by rw [← hr.1 c, ← z, hrab])) (fun z => z4 (by rw [← hr.1 (p c), ← z, hrab]))]
        exact hrab
      rw [e1, ih _ hV ha' (by omega)]
    · by_cases h2 : gj_l q r < 8
      · have e0 := gj_D_rm0 hr hq h1 h2
        have hf := gj_l_f hq h1
        obtain ⟨c1, c2⟩ := gj_l_r hq h1 h2
        generalize gj_l q r = c at *
        have z1 : c ≠ a := fun z => hab (by rw [z, qa] at c2; exact c2.symm)
        have z2 : c ≠ b := fun z => hab (by rw [z, qb] at c2; exact c2)
        have c3 := c2
        rw [qo c z1 z2] at c3
        have e1 := gj_D_r hr hp (fun e he => by
          have y1 : e ≠ a := fun z => he (by rw [z]; exact h3)
          have y2 : e ≠ b := fun z => he (by rw [z]; exact h4)
          have := hf e (by rw [qo e y1 y2]; exact he)
          rw [this, qo e y1 y2]) c1 c3
        have ha' : gj_rm r c a = b := by
          unfold gj_rm
          rw [if_neg (fun z => z1 z.symm), if_neg (fun z => z2 (by rw [← hr.1 c, ← z, hrab]))]
          exact hrab
        rw [e1, ih _ (gj_rm_V hr c) ha' (by omega)]
      · have e : r = q := gj_ne_l hr hq (fun z => z.elim h1 h2)
        rw [e, gj_D_self] at h
        omega
theorem gj_L2 {p r : Nat → Nat} (hp : gj_V p) (hr : gj_V r) {a : Nat} (h1 : r a ≠ a) (h2 : p a ≠ r a) : gj_D r p = gj_D r (gj_mk p a (r a)) + 1 := by
  have ha : a < 8 := by
    by_cases h : a < 8
    · exact h
    · exact absurd (hr.2 a (by omega)) h1
  by_cases h3 : p a = a
  · by_cases h4 : p (r a) = r a
    · exact gj_L2b hp ha (gj_V_lt hr ha) (fun z => h1 z.symm) h3 h4 _ r hr rfl rfl
    · have e := gj_L2a hp hr (a := r a) (gj_V_lt hr ha) (by rw [hr.1]; exact fun z => h1 z.symm) (by rw [hr.1]; exact fun z => h4 (by have := hp.1 (r a); rw [z, h3] at this; rw [z]; exact this)) h4
      rw [hr.1] at e
      rw [e, gj_mk_s hp.1 (fun z => h1 z.symm) h2]
  · exact gj_L2a hp hr ha h1 h2 h3
/-- the greedy count is the same both ways -/
theorem gj_D_symm : ∀ n p r, gj_V p → gj_V r → gj_D p r = n → gj_D r p = n := by
  intro n
  induction n with
  | zero =>
    intro p r hp hr h
    have e : p = r := gj_ne_l hp hr (fun z => by rw [gj_D_s hp hr z] at h; omega)
    rw [e]; exact gj_D_self _
  | succ n ih =>
    intro p r hp hr h
    by_cases h1 : gj_l p r < 8
    · have e0 := gj_D_mk0 hp hr h1
      obtain ⟨c1, c2⟩ := gj_l_t h1
      have e1 := gj_L2 hp hr c1 c2
      have := ih _ r (gj_mk_V hp h1 (gj_V_lt hr h1) (fun z => c1 z.symm) c2) hr (by omega)
      omega
    · by_cases h2 : gj_l r p < 8
      · obtain ⟨c1, c2⟩ := gj_l_t h2
        have e0 := gj_D_mk0 hr hp h2
        have e1 := gj_L2 hr hp c1 c2
        have := ih p _ hp (gj_mk_V hr h2 (gj_V_lt hp h2) (fun z => c1 z.symm) c2) (by omega)
        omega
      · have e : p = r := gj_ne_l hp hr (fun z => z.elim h1 h2)
        rw [e, gj_D_self] at h
        omega
theorem gj_D_sy {p r : Nat → Nat} (hp : gj_V p) (hr : gj_V r) : gj_D r p = gj_D p r := gj_D_symm _ p r hp hr rfl
/-- one step from p, as the reference makes it -/
def gj_nb (p : Nat → Nat) (a b : Nat) : Nat → Nat := if p a = b then gj_rm p a else gj_mk p a b
theorem gj_nb_V {p : Nat → Nat} (hp : gj_V p) {a b : Nat} (ha : a < 8) (hb : b < 8) (hab : a ≠ b) : gj_V (gj_nb p a b) := by
  unfold gj_nb
  split
  · exact gj_rm_V hp a
  · rename_i h
    exact gj_mk_V hp ha hb hab h
theorem gj_nb_1 {p : Nat → Nat} (hp : gj_V p) {a b : Nat} (ha : a < 8) (hb : b < 8) (hab : a ≠ b) : gj_D p (gj_nb p a b) = 1 := by
  have hV := gj_nb_V hp ha hb hab
  by_cases h : p a = b
  · have e : gj_nb p a b = gj_rm p a := if_pos h
    rw [e] at hV ⊢
    have ra : gj_rm p a a = a := if_pos rfl
    rw [gj_D_r hp hV (fun e he => ?_) (a := a) (by rw [h]; exact fun z => hab z.symm) ra, gj_D_self]
    unfold gj_rm at he ⊢
    by_cases z1 : e = a
    · rw [if_pos z1] at he; exact absurd rfl he
    · by_cases z2 : e = p a
      · rw [if_neg z1, if_pos z2] at he; exact absurd rfl he
      · rw [if_neg z1, if_neg z2]
  · have e : gj_nb p a b = gj_mk p a b := if_neg h
    rw [e] at hV ⊢
    have ma : gj_mk p a b a = b := gj_mk_a
    rw [gj_D_m hp hV (a := a) (by rw [ma]; exact fun z => hab z.symm) (by rw [ma]; exact h), ma, gj_D_self]
theorem gj_1_nb {p n : Nat → Nat} (hp : gj_V p) (hn : gj_V n) (h : gj_D p n = 1) : ∃ a b, a < 8 ∧ b < 8 ∧ a ≠ b ∧ n = gj_nb p a b := by
  have h0 : gj_l p n < 8 ∨ gj_l n p < 8 := by
    by_cases z : gj_l p n < 8 ∨ gj_l n p < 8
    · exact z
    · rw [gj_ne_l hp hn z, gj_D_self] at h; omega
  have e := gj_D_s hp hn h0
  have e2 : gj_st p n = n := gj_ne_l (gj_st_V hp hn) hn (fun z => by rw [gj_D_s (gj_st_V hp hn) hn z] at e; omega)
  by_cases h1 : gj_l p n < 8
  · obtain ⟨c1, c2⟩ := gj_l_t h1
    rw [gj_st_mk h1] at e2
    exact ⟨gj_l p n, n (gj_l p n), h1, gj_V_lt hn h1, fun z => c1 z.symm, by unfold gj_nb; rw [if_neg c2, e2]⟩
  · have h2 : gj_l n p < 8 := h0.elim (fun z => absurd z h1) id
    obtain ⟨c1, c2⟩ := gj_l_r hn h1 h2
    rw [gj_st_rm h1 h2] at e2
    exact ⟨gj_l n p, p (gj_l n p), h2, gj_V_lt hp h2, fun z => c1 z.symm, by unfold gj_nb; rw [if_pos rfl, e2]⟩
