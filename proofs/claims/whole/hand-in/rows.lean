section
/-! pure rows to paste: stores, nI and lN arithmetic, masks, shifts, narrowing, branches by naturals (pk_le, pk_lt, pk_eq), loops (lp1 .. lp16: the measure of the state; rp1 ..: recursion), negatives. Take what you need -/
theorem pk_us {f : Nat → Int32} {k : Nat} {x : Int32} : upd f k x k = x := if_pos rfl
theorem pk_un {f : Nat → Int32} {k j : Nat} {x : Int32} (h : j ≠ k) : upd f k x j = f j := if_neg h
theorem pk_sub {a b : Nat} (h : b ≤ a) : nI a - nI b = nI (a - b) := by
  obtain ⟨c, rfl⟩ : ∃ c, a = c + b := ⟨a - b, by omega⟩
  rw [← nI_add, Int32.add_sub_cancel, Nat.add_sub_cancel]
theorem pk_m1 (n : Nat) : nI (n + 1) + (-1) = nI n := by
  rw [← nI_1, Int32.add_assoc, show (1 : Int32) + (-1) = 0 from rfl, Int32.add_zero]
theorem pk_mul (a b : Nat) : nI a * nI b = nI (a * b) := (Int32.ofNat_mul a b).symm
theorem pk_div {a d : Nat} (ha : a < 2 ^ 31) (h0 : 0 < d) (hd : d < 2 ^ 31) : nI a / nI d = nI (a / d) := by
  apply Int32.toInt_inj.mp
  rw [lg_idiv_nonneg (by rw [nI_toInt ha]; omega) (by rw [nI_toInt hd]; omega), nI_toInt ha, nI_toInt hd, nI_toInt (Nat.lt_of_le_of_lt (Nat.div_le_self a d) ha)]
  first | rfl | exact (Int.natCast_ediv _ _).symm
theorem pk_rem {a d : Nat} (ha : a < 2 ^ 31) (h0 : 0 < d) (hd : d < 2 ^ 31) : nI a - nI a / nI d * nI d = nI (a % d) := by
  rw [pk_div ha h0 hd, pk_mul, pk_sub (Nat.div_mul_le_self a d)]
  exact congrArg nI (by have := Nat.div_add_mod' a d; omega)
theorem pk_sub_toInt {a b : Nat} (ha : a < 2 ^ 30) (hb : b < 2 ^ 30) : (nI a - nI b).toInt = (a : Int) - b := by
  rw [Int32.toInt_sub, nI_toInt (by omega), nI_toInt (by omega)]
  exact Int.bmod_eq_of_le (by omega) (by omega)
theorem pk_sneg {a b : Nat} (hb : b < 2 ^ 30) (h : a < b) : nI a - nI b < 0 := by
  rw [Int32.lt_iff_toInt_lt, pk_sub_toInt (by omega) hb, show (0 : Int32).toInt = 0 from by decide]
  omega
theorem pk_ix (x : Int32) {n : Nat} (hn : n < 2 ^ 31) : x < 0 ∨ nI n ≤ x ∨ ∃ j : Nat, j < n ∧ x = nI j := by
  by_cases h : x < 0
  · exact Or.inl h
  · obtain ⟨j, hj, rfl⟩ := nI_of h
    by_cases h2 : j < n
    · exact Or.inr (Or.inr ⟨j, h2, rfl⟩)
    · exact Or.inr (Or.inl (nI_le (by omega) hj))
theorem pk_le {x y : Int32} {A B : Prop} (a b : Nat) (f : a ≤ b → A) (g : b < a → B) (hx : x = nI a := by rfl) (hy : y = nI b := by rfl) (ha : a < 2 ^ 31 := by omega) (hb : b < 2 ^ 31 := by omega) : (x ≤ y → A) ∧ (¬ x ≤ y → B) := by
  subst hx hy
  rw [nI_leI ha hb]
  exact ⟨f, fun z => g (by omega)⟩
theorem pk_lt {x y : Int32} {A B : Prop} (a b : Nat) (f : a < b → A) (g : b ≤ a → B) (hx : x = nI a := by rfl) (hy : y = nI b := by rfl) (ha : a < 2 ^ 31 := by omega) (hb : b < 2 ^ 31 := by omega) : (x < y → A) ∧ (¬ x < y → B) := by
  subst hx hy
  rw [nI_ltI ha hb]
  exact ⟨f, fun z => g (by omega)⟩
theorem pk_eq {x y : Int32} {A B : Prop} (a b : Nat) (f : a = b → A) (g : a ≠ b → B) (hx : x = nI a := by rfl) (hy : y = nI b := by rfl) (ha : a < 2 ^ 31 := by omega) (hb : b < 2 ^ 31 := by omega) : (x = y → A) ∧ (¬ x = y → B) := by
  subst hx hy
  rw [nI_eq ha hb]
  exact ⟨f, g⟩
theorem pk_in {x : Int32} (n N : Nat) (h : n < N) (hx : x = nI n := by rfl) (hN : N < 2 ^ 31 := by omega) : vp_in x N := by
  subst hx
  exact vp_in_nI h hN
theorem pk_cl {x : Int32} (n : Nat) (hx : x = nI n := by rfl) (h : n < 2 ^ 31 := by omega) : x.toNatClampNeg = n := by
  subst hx
  exact nI_clamp h
theorem pk_tn {n : Nat} (h : n < 2 ^ 32) : (nI n).toBitVec.toNat = n := Nat.mod_eq_of_lt h
theorem pk_and (x : Int32) {m : Int32} (k : Nat) (hm : m.toBitVec.toNat = 2 ^ k - 1) : x &&& m = nI (x.toBitVec.toNat % 2 ^ k) := by
  apply Int32.toBitVec_inj.mp
  apply BitVec.eq_of_toNat_eq
  rw [Int32.toBitVec_and, BitVec.toNat_and, hm, Nat.and_two_pow_sub_one_eq_mod]
  show _ = (BitVec.ofNat 32 _).toNat
  rw [BitVec.toNat_ofNat]
  exact (Nat.mod_eq_of_lt (Nat.lt_of_le_of_lt (Nat.mod_le _ _) x.toBitVec.isLt)).symm
theorem pk_andN {n : Nat} (h : n < 2 ^ 32) {m : Int32} (k : Nat) (hm : m.toBitVec.toNat = 2 ^ k - 1) : nI n &&& m = nI (n % 2 ^ k) := by
  rw [pk_and _ k hm, pk_tn h]
theorem pk_andE (x : Int32) {m : Int32} (k : Nat) (hm : m.toBitVec.toNat = 2 ^ k - 1) : ∃ j : Nat, j < 2 ^ k ∧ x &&& m = nI j := ⟨_, Nat.mod_lt _ (Nat.two_pow_pos k), pk_and x k hm⟩
theorem pk_andIn (x : Int32) {m : Int32} (k : Nat) (hm : m.toBitVec.toNat = 2 ^ k - 1) (hk : k ≤ 30) : vp_in (x &&& m) (2 ^ k) := by
  obtain ⟨j, hj, e⟩ := pk_andE x k hm
  rw [e]
  exact vp_in_nI hj (Nat.lt_of_le_of_lt (Nat.pow_le_pow_right (by decide) hk) (by decide))
theorem pk_shl (a s : Int32) (k : Nat) (hs : (s.toBitVec.smod 32).toNat = k) : (a <<< s).toBitVec.toNat = a.toBitVec.toNat * 2 ^ k % 2 ^ 32 := by
  show (a.toBitVec <<< (s.toBitVec.smod 32).toNat).toNat = _
  rw [hs, BitVec.toNat_shiftLeft, Nat.shiftLeft_eq]
theorem pk_shlN {n : Nat} (s : Int32) (k : Nat) (hs : (s.toBitVec.smod 32).toNat = k) (h : n * 2 ^ k < 2 ^ 32) : nI n <<< s = nI (n * 2 ^ k) := by
  apply Int32.toBitVec_inj.mp
  apply BitVec.eq_of_toNat_eq
  have hn : n < 2 ^ 32 := Nat.lt_of_le_of_lt (Nat.le_mul_of_pos_right n (Nat.two_pow_pos k)) h
  rw [pk_shl _ _ k hs, pk_tn hn, pk_tn h, Nat.mod_eq_of_lt h]
theorem pk_shr (a s : Int32) (k : Nat) (hs : (s.toBitVec.smod 32).toNat = k) : (a >>> s).toInt = a.toInt >>> k := by
  show (a.toBitVec.sshiftRight (s.toBitVec.smod 32).toNat).toInt = _
  rw [hs, BitVec.toInt_sshiftRight]
  rfl
theorem pk_shrN {n : Nat} (h : n < 2 ^ 31) (s : Int32) (k : Nat) (hs : (s.toBitVec.smod 32).toNat = k) : nI n >>> s = nI (n / 2 ^ k) := by
  apply Int32.toInt_inj.mp
  have h2 : n / 2 ^ k ≤ n := Nat.div_le_self _ _
  rw [pk_shr _ _ k hs, nI_toInt h, nI_toInt (by omega), Int.shiftRight_eq_div_pow]
  rfl
end
section
/-- a genome: each end's partner, a loose end its own -/
def gj_V (p : Nat → Nat) : Prop := (∀ e, p (p e) = e) ∧ ∀ e, 8 ≤ e → p e = e
/-- the genome with the joint a b made: what both leave behind becomes a joint, or loose -/
def gj_mk (p : Nat → Nat) (a b : Nat) : Nat → Nat := fun e =>
  if e = a then b else if e = b then a else if e = p a then (if p b = b then e else p b) else if e = p b then (if p a = a then e else p a) else p e
/-- the genome with the joint at a taken away -/
def gj_rm (p : Nat → Nat) (a : Nat) : Nat → Nat := fun e => if e = a then e else if e = p a then e else p e
theorem gj_V_lt {p : Nat → Nat} (h : gj_V p) {e : Nat} (he : e < 8) : p e < 8 := by
  by_cases h8 : p e < 8
  · exact h8
  · have h1 := h.2 (p e) (by omega)
    have h2 := h.1 e
    omega
theorem gj_mk_I {p : Nat → Nat} (I : ∀ e, p (p e) = e) {a b : Nat} (hab : a ≠ b) (hp : p a ≠ b) : ∀ e, gj_mk p a b (gj_mk p a b e) = e := by
  intro e
  have h1 := I a
  have h2 := I b
  have h3 := I e
  unfold gj_mk
  grind
theorem gj_rm_I {p : Nat → Nat} (I : ∀ e, p (p e) = e) (a : Nat) : ∀ e, gj_rm p a (gj_rm p a e) = e := by
  intro e
  have h1 := I a
  have h3 := I e
  unfold gj_rm
  grind
theorem gj_mk_V {p : Nat → Nat} (h : gj_V p) {a b : Nat} (ha : a < 8) (hb : b < 8) (hab : a ≠ b) (hp : p a ≠ b) : gj_V (gj_mk p a b) := by
  refine ⟨gj_mk_I h.1 hab hp, fun e he => ?_⟩
  have h1 := gj_V_lt h ha
  have h2 := gj_V_lt h hb
  have h3 := h.2 e he
  unfold gj_mk
  rw [if_neg (by omega), if_neg (by omega), if_neg (by omega), if_neg (by omega), h3]
theorem gj_rm_V {p : Nat → Nat} (h : gj_V p) (a : Nat) : gj_V (gj_rm p a) := by
  refine ⟨gj_rm_I h.1 a, fun e he => ?_⟩
  have h3 := h.2 e he
  unfold gj_rm
  rw [h3]
  simp
theorem gj_mk_s {p : Nat → Nat} (I : ∀ e, p (p e) = e) {a b : Nat} (hab : a ≠ b) (hp : p a ≠ b) : gj_mk p a b = gj_mk p b a := by
  funext e
  have h1 := I a
  have h2 := I b
  have h3 := I e
  unfold gj_mk
  grind
theorem gj_mk_a {p : Nat → Nat} {a b : Nat} : gj_mk p a b a = b := if_pos rfl
theorem gj_mk_b {p : Nat → Nat} {a b : Nat} : gj_mk p a b b = a := by
  unfold gj_mk
  by_cases h : b = a
  · rw [if_pos h]; exact h
  · rw [if_neg h, if_pos rfl]
/-- the values of a made joint, one by one -/
theorem gj_mk_pa {p : Nat → Nat} {a b e : Nat} (h1 : e ≠ a) (h2 : e ≠ b) (h3 : e = p a) (h4 : p b = b) : gj_mk p a b e = e := by
  unfold gj_mk; rw [if_neg h1, if_neg h2, if_pos h3, if_pos h4]
theorem gj_mk_o {p : Nat → Nat} {a b e : Nat} (h1 : e ≠ a) (h2 : e ≠ b) (h3 : e ≠ p a) (h4 : e ≠ p b) : gj_mk p a b e = p e := by
  unfold gj_mk; rw [if_neg h1, if_neg h2, if_neg h3, if_neg h4]
/-- if the second joint came with the first, either makes both -/
theorem gj_mk_2 {p : Nat → Nat} (I : ∀ e, p (p e) = e) {a b c d : Nat} (hab : a ≠ b) (hcd : c ≠ d) (hp : p a ≠ b) (hq : p c ≠ d) (h1 : c ≠ a) (h2 : c ≠ b) (h3 : d ≠ a) (h4 : d ≠ b) (h : gj_mk p a b c = d) : gj_mk p a b = gj_mk p c d := by
  have i1 := I a
  have i2 := I b
  have k : (c = p a ∧ d = p b) ∨ (c = p b ∧ d = p a) := by
    unfold gj_mk at h
    grind
  funext e
  have i5 := I e
  clear h
  rcases k with ⟨k1, k2⟩ | ⟨k1, k2⟩
  · subst k1 k2
    unfold gj_mk
    rw [i1, i2]
    grind
  · subst k1 k2
    unfold gj_mk
    rw [i1, i2]
    grind
/-- else the two steps may change places -/
theorem gj_mk_c {p : Nat → Nat} (I : ∀ e, p (p e) = e) {a b c d : Nat} (hab : a ≠ b) (hcd : c ≠ d) (hp : p a ≠ b) (hq : p c ≠ d) (h1 : c ≠ a) (h2 : c ≠ b) (h3 : d ≠ a) (h4 : d ≠ b) (h : gj_mk p a b c ≠ d) : gj_mk (gj_mk p a b) c d = gj_mk (gj_mk p c d) a b := by
  funext e
  have i1 := I a
  have i2 := I b
  have i3 := I c
  have i4 := I d
  have i5 := I e
  unfold gj_mk at *
  grind (splits := 40)
theorem gj_rm_c {p : Nat → Nat} (I : ∀ e, p (p e) = e) {a c : Nat} : gj_rm (gj_rm p a) c = gj_rm (gj_rm p c) a := by
  funext e
  have i1 := I a
  have i3 := I c
  have i5 := I e
  unfold gj_rm at *
  grind
end
section
/-- the first end at or behind i, of k, whose joint in r is wanting in p -/
def gj_lk (p r : Nat → Nat) : Nat → Nat → Nat
  | 0, i => i
  | k + 1, i => if r i ≠ i ∧ p i ≠ r i then i else gj_lk p r k (i + 1)
theorem gj_lk_s (p r : Nat → Nat) : ∀ k i, gj_lk p r k i ≤ i + k ∧ i ≤ gj_lk p r k i ∧ (∀ j, i ≤ j → j < gj_lk p r k i → r j ≠ j → p j = r j) ∧ (gj_lk p r k i < i + k → r (gj_lk p r k i) ≠ gj_lk p r k i ∧ p (gj_lk p r k i) ≠ r (gj_lk p r k i)) := by
  intro k
  induction k with
  | zero =>
    intro i
    refine ⟨Nat.le_refl _, Nat.le_refl _, fun j h1 h2 => ?_, fun h => ?_⟩
    · have h3 : j < i := h2
      omega
    · have h3 : i < i + 0 := h
      omega
  | succ k ih =>
    intro i
    by_cases h : r i ≠ i ∧ p i ≠ r i
    · have e : gj_lk p r (k + 1) i = i := if_pos h
      rw [e]
      exact ⟨by omega, by omega, fun j h1 h2 => absurd h2 (by omega), fun _ => h⟩
    · have e : gj_lk p r (k + 1) i = gj_lk p r k (i + 1) := if_neg h
      rw [e]
      obtain ⟨h1, h2, h3, h4⟩ := ih (i + 1)
      refine ⟨by omega, by omega, fun j j1 j2 j3 => ?_, fun z => h4 (by omega)⟩
      by_cases hj : j = i
      · subst hj
        by_cases hz : p j = r j
        · exact hz
        · exact absurd ⟨j3, hz⟩ h
      · exact h3 j (by omega) j2 j3
/-- the first of the eight -/
def gj_l (p r : Nat → Nat) : Nat := gj_lk p r 8 0
theorem gj_l_t {p r : Nat → Nat} (h : gj_l p r < 8) : r (gj_l p r) ≠ gj_l p r ∧ p (gj_l p r) ≠ r (gj_l p r) := (gj_lk_s p r 8 0).2.2.2 (by unfold gj_l at h; omega)
theorem gj_l_b {p r : Nat → Nat} : ∀ j, j < gj_l p r → r j ≠ j → p j = r j := fun j hj => (gj_lk_s p r 8 0).2.2.1 j (by omega) hj
theorem gj_l_f {p r : Nat → Nat} (hr : gj_V r) (h : ¬ gj_l p r < 8) : ∀ e, r e ≠ e → p e = r e := by
  intro e he
  by_cases h8 : e < 8
  · exact gj_l_b e (by omega) he
  · exact absurd (hr.2 e (by omega)) he
theorem gj_l_i {p r : Nat → Nat} (hr : gj_V r) {e : Nat} (he : r e ≠ e) (hp : p e ≠ r e) : gj_l p r < 8 := by
  by_cases h : gj_l p r < 8
  · exact h
  · exact absurd (gj_l_f hr h e he) hp
/-- one greedy step from p to r -/
def gj_st (p r : Nat → Nat) : Nat → Nat := if gj_l p r < 8 then gj_mk p (gj_l p r) (r (gj_l p r)) else if gj_l r p < 8 then gj_rm p (gj_l r p) else p
/-- the greedy count, with fuel -/
def gj_gr : Nat → (Nat → Nat) → (Nat → Nat) → Nat
  | 0, _, _ => 0
  | n + 1, p, r => if gj_l p r < 8 ∨ gj_l r p < 8 then gj_gr n (gj_st p r) r + 1 else 0
def gj_D (p r : Nat → Nat) : Nat := gj_gr 8 p r
theorem gj_gr_le : ∀ n p r, gj_gr n p r ≤ n := by
  intro n
  induction n with
  | zero => intro p r; exact Nat.le_refl _
  | succ n ih =>
    intro p r
    show (if gj_l p r < 8 ∨ gj_l r p < 8 then gj_gr n (gj_st p r) r + 1 else 0) ≤ n + 1
    split
    · have := ih (gj_st p r) r
      omega
    · omega
theorem gj_D_le (p r : Nat → Nat) : gj_D p r ≤ 8 := gj_gr_le 8 p r
theorem gj_gr_s {n : Nat} {p r : Nat → Nat} (h : gj_l p r < 8 ∨ gj_l r p < 8) : gj_gr (n + 1) p r = gj_gr n (gj_st p r) r + 1 := if_pos h
theorem gj_gr_0 {n : Nat} {p r : Nat → Nat} (h : ¬ (gj_l p r < 8 ∨ gj_l r p < 8)) : gj_gr n p r = 0 := by
  cases n with
  | zero => rfl
  | succ n => exact if_neg h
theorem gj_ne_l {p r : Nat → Nat} (hp : gj_V p) (hr : gj_V r) (h : ¬ (gj_l p r < 8 ∨ gj_l r p < 8)) : p = r := by
  funext e
  have h1 := gj_l_f (p := p) hr (fun z => h (Or.inl z)) e
  have h2 := gj_l_f (p := r) hp (fun z => h (Or.inr z)) e
  by_cases hz : r e = e
  · by_cases hy : p e = e
    · omega
    · have := h2 hy; omega
  · exact h1 hz
theorem gj_l_self {p : Nat → Nat} : ¬ gj_l p p < 8 := fun h => (gj_l_t h).2 rfl
theorem gj_D_self (p : Nat → Nat) : gj_D p p = 0 := gj_gr_0 (fun h => h.elim gj_l_self gj_l_self)
theorem gj_st_V {p r : Nat → Nat} (hp : gj_V p) (hr : gj_V r) : gj_V (gj_st p r) := by
  unfold gj_st
  split
  · rename_i h
    have := gj_l_t h
    exact gj_mk_V hp h (gj_V_lt hr h) (fun z => this.1 z.symm) this.2
  · split
    · exact gj_rm_V hp _
    · exact hp
/-- counting the ends below n -/
def gj_cn (f : Nat → Bool) : Nat → Nat
  | 0 => 0
  | n + 1 => gj_cn f n + (if f n = true then 1 else 0)
theorem gj_cn_le (f : Nat → Bool) : ∀ n, gj_cn f n ≤ n := by
  intro n
  induction n with
  | zero => exact Nat.le_refl _
  | succ n ih => show gj_cn f n + (if f n = true then 1 else 0) ≤ n + 1; split <;> omega
theorem gj_cn_mono {f g : Nat → Bool} : ∀ n, (∀ e, e < n → g e = true → f e = true) → gj_cn g n ≤ gj_cn f n := by
  intro n
  induction n with
  | zero => intro _; exact Nat.le_refl _
  | succ n ih =>
    intro h
    have h1 := ih (fun e he => h e (by omega))
    have h2 := h n (by omega)
    show gj_cn g n + (if g n = true then 1 else 0) ≤ gj_cn f n + (if f n = true then 1 else 0)
    by_cases hg : g n = true
    · rw [if_pos hg, if_pos (h2 hg)]; omega
    · rw [if_neg hg]; omega
theorem gj_cn_1 {f g : Nat → Bool} {a : Nat} : ∀ n, (∀ e, e < n → g e = true → f e = true) → a < n → f a = true → g a = false → gj_cn g n + 1 ≤ gj_cn f n := by
  intro n
  induction n with
  | zero => intro _ h; omega
  | succ n ih =>
    intro h ha hf hg
    have h2 := h n (by omega)
    show gj_cn g n + (if g n = true then 1 else 0) + 1 ≤ gj_cn f n + (if f n = true then 1 else 0)
    by_cases hn : a = n
    · subst hn
      have h1 := gj_cn_mono (f := f) (g := g) a (fun e he => h e (by omega))
      rw [if_pos hf, hg, if_neg (by decide)]; omega
    · have h1 := ih (fun e he => h e (by omega)) (by omega) hf hg
      by_cases hg : g n = true
      · rw [if_pos hg, if_pos (h2 hg)]; omega
      · rw [if_neg hg]; omega
theorem gj_cn_2 {f g : Nat → Bool} {a b n : Nat} (h : ∀ e, e < n → g e = true → f e = true) (ha : a < n) (hb : b < n) (hab : a ≠ b) (fa : f a = true) (ga : g a = false) (fb : f b = true) (gb : g b = false) : gj_cn g n + 2 ≤ gj_cn f n := by
  have h1 := gj_cn_1 (f := fun e => g e || decide (e = a)) (g := g) (a := a) n (fun e _ hg => by simp [hg]) ha (by simp) ga
  have h2 := gj_cn_1 (f := f) (g := fun e => g e || decide (e = a)) (a := b) n (fun e he hg => by
    simp only [Bool.or_eq_true, decide_eq_true_eq] at hg
    rcases hg with hg | hg
    · exact h e he hg
    · rw [hg]; exact fa) hb fb (by simp [gb]; omega)
  omega
/-- ends whose joint in r is wanting in p; ends joined in p alone -/
def gj_A (p r : Nat → Nat) : Nat := gj_cn (fun e => decide (r e ≠ e ∧ p e ≠ r e)) 8
def gj_C (p r : Nat → Nat) : Nat := gj_cn (fun e => decide (p e ≠ e ∧ r e = e)) 8
theorem gj_cn_0 {f : Nat → Bool} {n : Nat} (h : ∀ e, e < n → f e = false) : gj_cn f n = 0 := by
  induction n with
  | zero => rfl
  | succ n ih =>
    show gj_cn f n + (if f n = true then 1 else 0) = 0
    rw [ih (fun e he => h e (by omega)), h n (by omega)]
    rfl
/-- making r's joint at a: no other joint of r is lost -/
theorem gj_mk_k {p r : Nat → Nat} (I : ∀ e, p (p e) = e) (J : ∀ e, r (r e) = e) {a e : Nat} (hp : p a ≠ r a) (he : p e = r e) : gj_mk p a (r a) e = r e := by
  have i1 := I a
  have i2 := I (r a)
  have i3 := I e
  have j1 := J a
  have j2 := J e
  unfold gj_mk
  grind
theorem gj_A_mk {p r : Nat → Nat} (hp : gj_V p) (hr : gj_V r) {a : Nat} (h1 : r a ≠ a) (h2 : p a ≠ r a) : gj_A (gj_mk p a (r a)) r + 2 ≤ gj_A p r := by
  have ha : a < 8 := by
    by_cases h : a < 8
    · exact h
    · exact absurd (hr.2 a (by omega)) h1
  have hb := gj_V_lt hr ha
  refine gj_cn_2 (a := a) (b := r a) (fun e _ h => ?_) ha hb (fun z => h1 z.symm) ?_ ?_ ?_ ?_
  · simp only [decide_eq_true_eq] at h ⊢
    exact ⟨h.1, fun z => h.2 (gj_mk_k hp.1 hr.1 h2 z)⟩
  · simp only [decide_eq_true_eq]
    exact ⟨h1, h2⟩
  · simp only [decide_eq_false_iff_not]
    exact fun z => z.2 gj_mk_a
  · simp only [decide_eq_true_eq]
    refine ⟨fun z => h1 (by rw [hr.1 a] at z; exact z.symm), fun z => h2 ?_⟩
    rw [hr.1 a] at z
    have := hp.1 (r a)
    rw [z] at this
    exact this
  · simp only [decide_eq_false_iff_not]
    exact fun z => z.2 (by rw [gj_mk_b, hr.1 a])
theorem gj_C_rm {p r : Nat → Nat} (hp : gj_V p) (hr : gj_V r) (h0 : ∀ e, r e ≠ e → p e = r e) {a : Nat} (h1 : p a ≠ a) (h2 : r a = a) : gj_C (gj_rm p a) r + 2 ≤ gj_C p r := by
  have ha : a < 8 := by
    by_cases h : a < 8
    · exact h
    · exact absurd (hp.2 a (by omega)) h1
  have hb := gj_V_lt hp ha
  have h3 : r (p a) = p a := by
    by_cases hz : r (p a) = p a
    · exact hz
    · have e1 := h0 _ hz
      rw [hp.1 a] at e1
      have e2 := hr.1 (p a)
      rw [← e1, h2] at e2
      exact absurd e2.symm h1
  refine gj_cn_2 (a := a) (b := p a) (fun e _ h => ?_) ha hb (fun z => h1 z.symm) ?_ ?_ ?_ ?_
  · simp only [decide_eq_true_eq] at h ⊢
    refine ⟨fun z => h.1 ?_, h.2⟩
    unfold gj_rm
    rw [z]; simp
  · simp only [decide_eq_true_eq]
    exact ⟨h1, h2⟩
  · simp only [decide_eq_false_iff_not]
    exact fun z => z.1 (if_pos rfl)
  · simp only [decide_eq_true_eq]
    exact ⟨fun z => h1 (by rw [hp.1 a] at z; exact z.symm), h3⟩
  · simp only [decide_eq_false_iff_not]
    exact fun z => z.1 (by unfold gj_rm; rw [if_neg h1, if_pos rfl])
theorem gj_rm_k {p r : Nat → Nat} (hp : gj_V p) (hr : gj_V r) (h0 : ∀ e, r e ≠ e → p e = r e) {a : Nat} (h1 : p a ≠ a) (h2 : r a = a) : ∀ e, r e ≠ e → gj_rm p a e = r e := by
  intro e he
  have i1 := hp.1 a
  have i2 := hp.1 e
  have j1 := hr.1 e
  have k1 := h0 e he
  have k2 := h0 (p a)
  unfold gj_rm
  grind
theorem gj_st_mk {p r : Nat → Nat} (h : gj_l p r < 8) : gj_st p r = gj_mk p (gj_l p r) (r (gj_l p r)) := if_pos h
theorem gj_st_rm {p r : Nat → Nat} (h : ¬ gj_l p r < 8) (h2 : gj_l r p < 8) : gj_st p r = gj_rm p (gj_l r p) := by
  unfold gj_st; rw [if_neg h, if_pos h2]
theorem gj_l_r {p r : Nat → Nat} (hr : gj_V r) (h : ¬ gj_l p r < 8) (h2 : gj_l r p < 8) : p (gj_l r p) ≠ gj_l r p ∧ r (gj_l r p) = gj_l r p := by
  have h3 := gj_l_t h2
  refine ⟨h3.1, ?_⟩
  by_cases hz : r (gj_l r p) = gj_l r p
  · exact hz
  · exact absurd (gj_l_f hr h _ hz).symm h3.2
theorem gj_stab0 : ∀ n p r, gj_V p → gj_V r → (∀ e, r e ≠ e → p e = r e) → gj_C p r ≤ 2 * n → gj_gr n p r = gj_gr (n + 1) p r := by
  intro n
  induction n with
  | zero =>
    intro p r hp hr h0 hC
    rw [gj_gr_0 (n := 1) (p := p) (r := r)]
    · rfl
    · intro h
      have hn : ¬ gj_l p r < 8 := fun z => (gj_l_t z).2 (h0 _ (gj_l_t z).1)
      have h2 : gj_l r p < 8 := h.elim (fun z => absurd z hn) id
      have h3 := gj_l_r hr hn h2
      have := gj_C_rm hp hr h0 h3.1 h3.2
      omega
  | succ n ih =>
    intro p r hp hr h0 hC
    by_cases h : gj_l p r < 8 ∨ gj_l r p < 8
    · have hn : ¬ gj_l p r < 8 := fun z => (gj_l_t z).2 (h0 _ (gj_l_t z).1)
      have h2 : gj_l r p < 8 := h.elim (fun z => absurd z hn) id
      have h3 := gj_l_r hr hn h2
      have h4 := gj_C_rm hp hr h0 h3.1 h3.2
      rw [gj_gr_s h, gj_gr_s h, gj_st_rm hn h2]
      rw [ih _ r (gj_rm_V hp _) hr (gj_rm_k hp hr h0 h3.1 h3.2) (by omega)]
    · rw [gj_gr_0 h, gj_gr_0 h]
theorem gj_C_le (p r : Nat → Nat) : gj_C p r ≤ 8 := gj_cn_le _ 8
theorem gj_A_le (p r : Nat → Nat) : gj_A p r ≤ 8 := gj_cn_le _ 8
theorem gj_stab : ∀ m p r, gj_V p → gj_V r → gj_A p r ≤ 2 * m → gj_gr (m + 4) p r = gj_gr (m + 5) p r := by
  intro m
  induction m with
  | zero =>
    intro p r hp hr hA
    by_cases h : gj_l p r < 8
    · have h1 := gj_l_t h
      have := gj_A_mk hp hr h1.1 h1.2
      omega
    · exact gj_stab0 4 p r hp hr (gj_l_f hr h) (gj_C_le p r)
  | succ m ih =>
    intro p r hp hr hA
    by_cases h : gj_l p r < 8
    · have h1 := gj_l_t h
      have h2 := gj_A_mk hp hr h1.1 h1.2
      rw [show m + 1 + 4 = (m + 4) + 1 from by omega, show m + 1 + 5 = (m + 5) + 1 from by omega, gj_gr_s (Or.inl h), gj_gr_s (Or.inl h)]
      rw [ih _ r (gj_st_V hp hr) hr (by rw [gj_st_mk h]; omega)]
    · have := gj_C_le p r
      exact gj_stab0 (m + 1 + 4) p r hp hr (gj_l_f hr h) (by omega)
/-- the greedy count falls by one with each greedy step -/
theorem gj_D_s {p r : Nat → Nat} (hp : gj_V p) (hr : gj_V r) (h : gj_l p r < 8 ∨ gj_l r p < 8) : gj_D p r = gj_D (gj_st p r) r + 1 := by
  unfold gj_D
  rw [gj_gr_s (n := 7) h]
  congr 1
  by_cases h1 : gj_l p r < 8
  · have h2 := gj_l_t h1
    have h3 := gj_A_mk hp hr h2.1 h2.2
    have h4 := gj_A_le p r
    exact gj_stab 3 _ r (gj_st_V hp hr) hr (by rw [gj_st_mk h1]; omega)
  · have h2 : gj_l r p < 8 := h.elim (fun z => absurd z h1) id
    have h3 := gj_l_r hr h1 h2
    have h0 := gj_rm_k hp hr (gj_l_f hr h1) h3.1 h3.2
    rw [← gj_st_rm h1 h2] at h0
    have := gj_C_le (gj_st p r) r
    exact gj_stab0 7 _ r (gj_st_V hp hr) hr h0 (by omega)
theorem gj_D_mk0 {p r : Nat → Nat} (hp : gj_V p) (hr : gj_V r) (h : gj_l p r < 8) : gj_D p r = gj_D (gj_mk p (gj_l p r) (r (gj_l p r))) r + 1 := by
  rw [gj_D_s hp hr (Or.inl h), gj_st_mk h]
theorem gj_D_rm0 {p r : Nat → Nat} (hp : gj_V p) (hr : gj_V r) (h : ¬ gj_l p r < 8) (h2 : gj_l r p < 8) : gj_D p r = gj_D (gj_rm p (gj_l r p)) r + 1 := by
  rw [gj_D_s hp hr (Or.inr h2), gj_st_rm h h2]
end
section
/-- any joint of r that is wanting may be made first -/
theorem gj_D_mk : ∀ n p r, gj_V p → gj_V r → gj_A p r ≤ n → ∀ a, r a ≠ a → p a ≠ r a → gj_D p r = gj_D (gj_mk p a (r a)) r + 1 := by
  intro n
  induction n with
  | zero =>
    intro p r hp hr hA a h1 h2
    have := gj_A_mk hp hr h1 h2
    omega
  | succ n ih =>
    intro p r hp hr hA a h1 h2
    have hl := gj_l_i hr h1 h2
    obtain ⟨c1, c2⟩ := gj_l_t hl
    have e0 := gj_D_mk0 hp hr hl
    generalize gj_l p r = c at *
    have ha : a < 8 := by
      by_cases h : a < 8
      · exact h
      · exact absurd (hr.2 a (by omega)) h1
    by_cases hca : c = a
    · subst hca; exact e0
    · by_cases hcb : c = r a
      · rw [e0, hcb, hr.1 a, gj_mk_s hp.1 (fun z => h1 z) (by rw [hcb, hr.1 a] at c2; exact c2)]
      · have hda : r c ≠ a := fun z => hcb (by rw [← z, hr.1 c])
        have hdb : r c ≠ r a := fun z => hca (by rw [← hr.1 c, z, hr.1 a])
        have A1 := gj_A_mk hp hr c1 c2
        have A2 := gj_A_mk hp hr h1 h2
        by_cases hb : gj_mk p a (r a) c = r c
        · rw [gj_mk_2 hp.1 (fun z => h1 z.symm) (fun z => c1 z.symm) h2 c2 hca hcb hda hdb hb]
          exact e0
        · have hx : gj_mk p c (r c) a ≠ r a := by
            intro z
            have := gj_mk_2 hp.1 (fun z => c1 z.symm) (fun z => h1 z.symm) c2 h2 (fun z => hca z.symm) (fun z => hda z.symm) (fun z => hcb z.symm) (fun z => hdb z.symm) z
            apply hb
            rw [← this]
            exact gj_mk_a
          have V1 := gj_mk_V hp hl (gj_V_lt hr hl) (fun z => c1 z.symm) c2
          have V2 := gj_mk_V hp ha (gj_V_lt hr ha) (fun z => h1 z.symm) h2
          have e1 := ih _ r V1 hr (by omega) a h1 hx
          have e2 := ih _ r V2 hr (by omega) c c1 hb
          rw [e0, e1, e2, gj_mk_c hp.1 (fun z => h1 z.symm) (fun z => c1 z.symm) h2 c2 hca hcb hda hdb hb]
theorem gj_D_m {p r : Nat → Nat} (hp : gj_V p) (hr : gj_V r) {a : Nat} (h1 : r a ≠ a) (h2 : p a ≠ r a) : gj_D p r = gj_D (gj_mk p a (r a)) r + 1 := gj_D_mk _ p r hp hr (Nat.le_refl _) a h1 h2
/-- any joint of p alone may be taken away first, once r's joints stand -/
theorem gj_D_rm : ∀ n p r, gj_V p → gj_V r → (∀ e, r e ≠ e → p e = r e) → gj_C p r ≤ n → ∀ a, p a ≠ a → r a = a → gj_D p r = gj_D (gj_rm p a) r + 1 := by
  intro n
  induction n with
  | zero =>
    intro p r hp hr h0 hC a h1 h2
    have := gj_C_rm hp hr h0 h1 h2
    omega
  | succ n ih =>
    intro p r hp hr h0 hC a h1 h2
    have hn : ¬ gj_l p r < 8 := fun z => (gj_l_t z).2 (h0 _ (gj_l_t z).1)
    have hl : gj_l r p < 8 := gj_l_i hp h1 (fun z => h1 (by rw [← z]; exact h2))
    obtain ⟨c1, c2⟩ := gj_l_r hr hn hl
    have e0 := gj_D_rm0 hp hr hn hl
    generalize gj_l r p = c at *
    by_cases hca : c = a
    · subst hca; exact e0
    · by_cases hcb : c = p a
      · rw [e0]
        have : gj_rm p c = gj_rm p a := by
          funext e
          unfold gj_rm
          rw [hcb, hp.1 a]
          grind
        rw [this]
      · have C1 := gj_C_rm hp hr h0 c1 c2
        have C2 := gj_C_rm hp hr h0 h1 h2
        have hda : p c ≠ a := fun z => hcb (by rw [← z, hp.1 c])
        have e1 := ih _ r (gj_rm_V hp c) hr (gj_rm_k hp hr h0 c1 c2) (by omega) a (by unfold gj_rm; rw [if_neg (fun z => hca z.symm), if_neg (fun z => hda z.symm)]; exact h1) h2
        have e2 := ih _ r (gj_rm_V hp a) hr (gj_rm_k hp hr h0 h1 h2) (by omega) c (by unfold gj_rm; rw [if_neg hca, if_neg hcb]; exact c1) c2
        rw [e0, e1, e2, gj_rm_c hp.1]
theorem gj_D_r {p r : Nat → Nat} (hp : gj_V p) (hr : gj_V r) (h0 : ∀ e, r e ≠ e → p e = r e) {a : Nat} (h1 : p a ≠ a) (h2 : r a = a) : gj_D p r = gj_D (gj_rm p a) r + 1 := gj_D_rm _ p r hp hr h0 (Nat.le_refl _) a h1 h2
/-- new names for two ends -/
def gj_sw (x y e : Nat) : Nat := if e = x then y else if e = y then x else e
theorem gj_sw_I (x y e : Nat) : gj_sw x y (gj_sw x y e) = e := by
  unfold gj_sw
  grind
theorem gj_sw_8 {x y e : Nat} (hx : x < 8) (hy : y < 8) (he : 8 ≤ e) : gj_sw x y e = e := by
  unfold gj_sw
  rw [if_neg (by omega), if_neg (by omega)]
def gj_cj (x y : Nat) (p : Nat → Nat) : Nat → Nat := fun e => gj_sw x y (p (gj_sw x y e))
theorem gj_sw_i {x y a b : Nat} : gj_sw x y a = gj_sw x y b ↔ a = b := ⟨fun h => by rw [← gj_sw_I x y a, h, gj_sw_I], fun h => by rw [h]⟩
theorem gj_sw_t {x y a b : Nat} : a = gj_sw x y b ↔ gj_sw x y a = b := ⟨fun h => by rw [h, gj_sw_I], fun h => by rw [← h, gj_sw_I]⟩
theorem gj_cj_V {x y : Nat} (hx : x < 8) (hy : y < 8) {p : Nat → Nat} (hp : gj_V p) : gj_V (gj_cj x y p) := by
  refine ⟨fun e => ?_, fun e he => ?_⟩
  · unfold gj_cj
    rw [gj_sw_I, hp.1, gj_sw_I]
  · unfold gj_cj
    rw [gj_sw_8 hx hy he, hp.2 e he, gj_sw_8 hx hy he]
theorem gj_cj_mk (x y : Nat) (p : Nat → Nat) (a b : Nat) : gj_mk (gj_cj x y p) (gj_sw x y a) (gj_sw x y b) = gj_cj x y (gj_mk p a b) := by
  funext e
  have ea : gj_cj x y p (gj_sw x y a) = gj_sw x y (p a) := by unfold gj_cj; rw [gj_sw_I]
  have eb : gj_cj x y p (gj_sw x y b) = gj_sw x y (p b) := by unfold gj_cj; rw [gj_sw_I]
  show (if e = gj_sw x y a then gj_sw x y b else if e = gj_sw x y b then gj_sw x y a else if e = gj_cj x y p (gj_sw x y a) then (if gj_cj x y p (gj_sw x y b) = gj_sw x y b then e else gj_cj x y p (gj_sw x y b)) else if e = gj_cj x y p (gj_sw x y b) then (if gj_cj x y p (gj_sw x y a) = gj_sw x y a then e else gj_cj x y p (gj_sw x y a)) else gj_cj x y p e) = gj_sw x y (gj_mk p a b (gj_sw x y e))
  rw [ea, eb]
  simp only [gj_sw_t (a := e), gj_sw_i]
  have ee := gj_sw_I x y e
  have ec : gj_cj x y p e = gj_sw x y (p (gj_sw x y e)) := rfl
  rw [ec]
  generalize gj_sw x y e = f at *
  subst ee
  unfold gj_mk
  grind
theorem gj_cj_rm (x y : Nat) (p : Nat → Nat) (a : Nat) : gj_rm (gj_cj x y p) (gj_sw x y a) = gj_cj x y (gj_rm p a) := by
  funext e
  have ea : gj_cj x y p (gj_sw x y a) = gj_sw x y (p a) := by unfold gj_cj; rw [gj_sw_I]
  show (if e = gj_sw x y a then e else if e = gj_cj x y p (gj_sw x y a) then e else gj_cj x y p e) = gj_sw x y (gj_rm p a (gj_sw x y e))
  rw [ea]
  simp only [gj_sw_t (a := e)]
  have ee := gj_sw_I x y e
  have ec : gj_cj x y p e = gj_sw x y (p (gj_sw x y e)) := rfl
  rw [ec]
  generalize gj_sw x y e = f at *
  subst ee
  unfold gj_rm
  grind
/-- the count doesn't see the names -/
theorem gj_D_cj {x y : Nat} (hx : x < 8) (hy : y < 8) : ∀ n p r, gj_V p → gj_V r → gj_D p r = n → gj_D (gj_cj x y p) (gj_cj x y r) = n := by
  intro n
  induction n with
  | zero =>
    intro p r hp hr h
    have : p = r := gj_ne_l hp hr (fun z => by rw [gj_D_s hp hr z] at h; omega)
    rw [this]
    exact gj_D_self _
  | succ n ih =>
    intro p r hp hr h
    by_cases h1 : gj_l p r < 8
    · have e0 := gj_D_mk0 hp hr h1
      obtain ⟨c1, c2⟩ := gj_l_t h1
      generalize gj_l p r = c at *
      have er : gj_cj x y r (gj_sw x y c) = gj_sw x y (r c) := by unfold gj_cj; rw [gj_sw_I]
      have ep : gj_cj x y p (gj_sw x y c) = gj_sw x y (p c) := by unfold gj_cj; rw [gj_sw_I]
      have e1 := gj_D_m (gj_cj_V hx hy hp) (gj_cj_V hx hy hr) (a := gj_sw x y c) (by rw [er]; exact fun z => c1 (gj_sw_i.mp z)) (by rw [er, ep]; exact fun z => c2 (gj_sw_i.mp z))
      rw [e1, er, gj_cj_mk]
      have := ih _ r (gj_mk_V hp h1 (gj_V_lt hr h1) (fun z => c1 z.symm) c2) hr (by omega)
      omega
    · by_cases h2 : gj_l r p < 8
      · have e0 := gj_D_rm0 hp hr h1 h2
        have hf := gj_l_f hr h1
        obtain ⟨c1, c2⟩ := gj_l_r hr h1 h2
        generalize gj_l r p = c at *
        have er : gj_cj x y r (gj_sw x y c) = gj_sw x y (r c) := by unfold gj_cj; rw [gj_sw_I]
        have ep : gj_cj x y p (gj_sw x y c) = gj_sw x y (p c) := by unfold gj_cj; rw [gj_sw_I]
        have e1 := gj_D_r (gj_cj_V hx hy hp) (gj_cj_V hx hy hr) (fun e he => by
          show gj_sw x y (p (gj_sw x y e)) = gj_sw x y (r (gj_sw x y e))
          rw [hf _ (fun z => he (by show gj_sw x y (r (gj_sw x y e)) = e; rw [z, gj_sw_I]))]) (a := gj_sw x y c) (by rw [ep]; exact fun z => c1 (gj_sw_i.mp z)) (by rw [er, c2])
        rw [e1, gj_cj_rm]
        have := ih _ r (gj_rm_V hp c) hr (by omega)
        omega
      · have := gj_D_s hp hr
        have e : p = r := gj_ne_l hp hr (fun z => z.elim h1 h2)
        rw [e, gj_D_self] at h
        omega
theorem gj_D_c {x y : Nat} (hx : x < 8) (hy : y < 8) {p r : Nat → Nat} (hp : gj_V p) (hr : gj_V r) : gj_D (gj_cj x y p) (gj_cj x y r) = gj_D p r := gj_D_cj hx hy _ p r hp hr rfl
/-- a joint of r made in the goal p, where p joins a to another end -/
theorem gj_L2a {p r : Nat → Nat} (hp : gj_V p) (hr : gj_V r) {a : Nat} (ha : a < 8) (h1 : r a ≠ a) (h2 : p a ≠ r a) (h3 : p a ≠ a) : gj_D r p = gj_D r (gj_mk p a (r a)) + 1 := by
  have e1 := gj_D_m hr hp (a := a) h3 (fun z => h2 z.symm)
  have hV := gj_mk_V hr ha (gj_V_lt hp ha) (fun z => h3 z.symm) (fun z => h2 z.symm)
  rw [e1, ← gj_D_c (x := p a) (y := r a) (gj_V_lt hp ha) (gj_V_lt hr ha) hV hp]
  have i1 := hr.1 a
  have i2 := hp.1 a
  have f1 : gj_cj (p a) (r a) (gj_mk r a (p a)) = r := by
    funext e
    have i3 := hr.1 (p a)
    have i4 := hr.1 e
    unfold gj_cj gj_mk gj_sw
    grind (splits := 30)
  have f2 : gj_cj (p a) (r a) p = gj_mk p a (r a) := by
    funext e
    have i3 := hp.1 (r a)
    have i4 := hp.1 e
    unfold gj_cj gj_mk gj_sw
    grind (splits := 30)
  rw [f1, f2]
/-- the same where p has a and its partner in r loose -/
theorem gj_L2b {p : Nat → Nat} (hp : gj_V p) {a b : Nat} (ha : a < 8) (hb : b < 8) (hab : a ≠ b) (h3 : p a = a) (h4 : p b = b) : ∀ n r, gj_V r → r a = b → gj_D r (gj_mk p a b) = n → gj_D r p = n + 1 := by
  have hq : gj_V (gj_mk p a b) := gj_mk_V hp ha hb hab (by rw [h3]; exact hab)
  have qo : ∀ e, e ≠ a → e ≠ b → gj_mk p a b e = p e := fun e z1 z2 => gj_mk_o z1 z2 (by rw [h3]; exact z1) (by rw [h4]; exact z2)
  have qa : gj_mk p a b a = b := gj_mk_a
  have qb : gj_mk p a b b = a := gj_mk_b
  have qr : gj_rm (gj_mk p a b) a = p := by
    funext e
    unfold gj_rm
    rw [qa]
    by_cases z1 : e = a
    · rw [if_pos z1, z1, h3]
    · by_cases z2 : e = b
      · rw [if_neg z1, if_pos z2, z2, h4]
      · rw [if_neg z1, if_neg z2, qo e z1 z2]
  generalize gj_mk p a b = q at *
  intro n
  induction n with
  | zero =>
    intro r hr hab' h
    have e : r = q := gj_ne_l hr hq (fun z => by rw [gj_D_s hr hq z] at h; omega)
    subst e
    rw [gj_D_r hr hp (fun e he => ?_) (a := a) (by rw [qa]; exact fun z => hab z.symm) h3, qr, gj_D_self]
    have z1 : e ≠ a := fun z => he (by rw [z]; exact h3)
    have z2 : e ≠ b := fun z => he (by rw [z]; exact h4)
    exact qo e z1 z2
  | succ n ih =>
    intro r hr hrab h
    have hrb : r b = a := by rw [← hrab, hr.1]
    by_cases h1 : gj_l r q < 8
    · have e0 := gj_D_mk0 hr hq h1
      obtain ⟨c1, c2⟩ := gj_l_t h1
      generalize gj_l r q = c at *
      have z1 : c ≠ a := fun z => c2 (by rw [z, hrab, qa])
      have z2 : c ≠ b := fun z => c2 (by rw [z, hrb, qb])
      rw [qo c z1 z2] at c1 c2 e0
      have z3 : p c ≠ a := fun z => z1 (by rw [← hp.1 c, z, h3])
      have z4 : p c ≠ b := fun z => z2 (by rw [← hp.1 c, z, h4])
      have hV := gj_mk_V hr h1 (gj_V_lt hp h1) (fun z => c1 z.symm) c2
      have e1 := gj_D_m hr hp c1 c2
      have ha' : gj_mk r c (p c) a = b := by
        rw [gj_mk_o (fun z => z1 z.symm) (fun z => z3 z.symm) (fun z => z2 (by rw [← hr.1 c, ← z, hrab])) (fun z => z4 (by rw [← hr.1 (p c), ← z, hrab]))]
        exact hrab
      rw [e1, ih _ hV ha' (by omega)]
    · by_cases h2 : gj_l q r < 8
      · have e0 := gj_D_rm0 hr hq h1 h2
        have hf := gj_l_f hq h1
        obtain ⟨c1, c2⟩ := gj_l_r hq h1 h2
        generalize gj_l q r = c at *
        have z1 : c ≠ a := fun z => hab (by rw [z, qa] at c2; exact c2.symm)
        have z2 : c ≠ b := fun z => hab (by rw [z, qb] at c2; exact c2)
        have c3 := c2
        rw [qo c z1 z2] at c3
        have e1 := gj_D_r hr hp (fun e he => by
          have y1 : e ≠ a := fun z => he (by rw [z]; exact h3)
          have y2 : e ≠ b := fun z => he (by rw [z]; exact h4)
          have := hf e (by rw [qo e y1 y2]; exact he)
          rw [this, qo e y1 y2]) c1 c3
        have ha' : gj_rm r c a = b := by
          unfold gj_rm
          rw [if_neg (fun z => z1 z.symm), if_neg (fun z => z2 (by rw [← hr.1 c, ← z, hrab]))]
          exact hrab
        rw [e1, ih _ (gj_rm_V hr c) ha' (by omega)]
      · have e : r = q := gj_ne_l hr hq (fun z => z.elim h1 h2)
        rw [e, gj_D_self] at h
        omega
theorem gj_L2 {p r : Nat → Nat} (hp : gj_V p) (hr : gj_V r) {a : Nat} (h1 : r a ≠ a) (h2 : p a ≠ r a) : gj_D r p = gj_D r (gj_mk p a (r a)) + 1 := by
  have ha : a < 8 := by
    by_cases h : a < 8
    · exact h
    · exact absurd (hr.2 a (by omega)) h1
  by_cases h3 : p a = a
  · by_cases h4 : p (r a) = r a
    · exact gj_L2b hp ha (gj_V_lt hr ha) (fun z => h1 z.symm) h3 h4 _ r hr rfl rfl
    · have e := gj_L2a hp hr (a := r a) (gj_V_lt hr ha) (by rw [hr.1]; exact fun z => h1 z.symm) (by rw [hr.1]; exact fun z => h4 (by have := hp.1 (r a); rw [z, h3] at this; rw [z]; exact this)) h4
      rw [hr.1] at e
      rw [e, gj_mk_s hp.1 (fun z => h1 z.symm) h2]
  · exact gj_L2a hp hr ha h1 h2 h3
/-- the greedy count is the same both ways -/
theorem gj_D_symm : ∀ n p r, gj_V p → gj_V r → gj_D p r = n → gj_D r p = n := by
  intro n
  induction n with
  | zero =>
    intro p r hp hr h
    have e : p = r := gj_ne_l hp hr (fun z => by rw [gj_D_s hp hr z] at h; omega)
    rw [e]; exact gj_D_self _
  | succ n ih =>
    intro p r hp hr h
    by_cases h1 : gj_l p r < 8
    · have e0 := gj_D_mk0 hp hr h1
      obtain ⟨c1, c2⟩ := gj_l_t h1
      have e1 := gj_L2 hp hr c1 c2
      have := ih _ r (gj_mk_V hp h1 (gj_V_lt hr h1) (fun z => c1 z.symm) c2) hr (by omega)
      omega
    · by_cases h2 : gj_l r p < 8
      · obtain ⟨c1, c2⟩ := gj_l_t h2
        have e0 := gj_D_mk0 hr hp h2
        have e1 := gj_L2 hr hp c1 c2
        have := ih p _ hp (gj_mk_V hr h2 (gj_V_lt hp h2) (fun z => c1 z.symm) c2) (by omega)
        omega
      · have e : p = r := gj_ne_l hp hr (fun z => z.elim h1 h2)
        rw [e, gj_D_self] at h
        omega
theorem gj_D_sy {p r : Nat → Nat} (hp : gj_V p) (hr : gj_V r) : gj_D r p = gj_D p r := gj_D_symm _ p r hp hr rfl
/-- one step from p, as the reference makes it -/
def gj_nb (p : Nat → Nat) (a b : Nat) : Nat → Nat := if p a = b then gj_rm p a else gj_mk p a b
theorem gj_nb_V {p : Nat → Nat} (hp : gj_V p) {a b : Nat} (ha : a < 8) (hb : b < 8) (hab : a ≠ b) : gj_V (gj_nb p a b) := by
  unfold gj_nb
  split
  · exact gj_rm_V hp a
  · rename_i h
    exact gj_mk_V hp ha hb hab h
theorem gj_nb_1 {p : Nat → Nat} (hp : gj_V p) {a b : Nat} (ha : a < 8) (hb : b < 8) (hab : a ≠ b) : gj_D p (gj_nb p a b) = 1 := by
  have hV := gj_nb_V hp ha hb hab
  by_cases h : p a = b
  · have e : gj_nb p a b = gj_rm p a := if_pos h
    rw [e] at hV ⊢
    have ra : gj_rm p a a = a := if_pos rfl
    rw [gj_D_r hp hV (fun e he => ?_) (a := a) (by rw [h]; exact fun z => hab z.symm) ra, gj_D_self]
    unfold gj_rm at he ⊢
    by_cases z1 : e = a
    · rw [if_pos z1] at he; exact absurd rfl he
    · by_cases z2 : e = p a
      · rw [if_neg z1, if_pos z2] at he; exact absurd rfl he
      · rw [if_neg z1, if_neg z2]
  · have e : gj_nb p a b = gj_mk p a b := if_neg h
    rw [e] at hV ⊢
    have ma : gj_mk p a b a = b := gj_mk_a
    rw [gj_D_m hp hV (a := a) (by rw [ma]; exact fun z => hab z.symm) (by rw [ma]; exact h), ma, gj_D_self]
theorem gj_1_nb {p n : Nat → Nat} (hp : gj_V p) (hn : gj_V n) (h : gj_D p n = 1) : ∃ a b, a < 8 ∧ b < 8 ∧ a ≠ b ∧ n = gj_nb p a b := by
  have h0 : gj_l p n < 8 ∨ gj_l n p < 8 := by
    by_cases z : gj_l p n < 8 ∨ gj_l n p < 8
    · exact z
    · rw [gj_ne_l hp hn z, gj_D_self] at h; omega
  have e := gj_D_s hp hn h0
  have e2 : gj_st p n = n := gj_ne_l (gj_st_V hp hn) hn (fun z => by rw [gj_D_s (gj_st_V hp hn) hn z] at e; omega)
  by_cases h1 : gj_l p n < 8
  · obtain ⟨c1, c2⟩ := gj_l_t h1
    rw [gj_st_mk h1] at e2
    exact ⟨gj_l p n, n (gj_l p n), h1, gj_V_lt hn h1, fun z => c1 z.symm, by unfold gj_nb; rw [if_neg c2, e2]⟩
  · have h2 : gj_l n p < 8 := h0.elim (fun z => absurd z h1) id
    obtain ⟨c1, c2⟩ := gj_l_r hn h1 h2
    rw [gj_st_rm h1 h2] at e2
    exact ⟨gj_l n p, p (gj_l n p), h2, gj_V_lt hp h2, fun z => c1 z.symm, by unfold gj_nb; rw [if_pos rfl, e2]⟩
end
section
/-- the 764 genomes in the order of the component's list, eight digits each; and the row of each number of the reference (written by wip/whole/gen.py) -/
def gj_BT : Nat := 421464221957615863184363111341495226270702394589147554982018677563101577325141345567396309372215410255077645522353817096458093223801711951081255494872997831158760877106642645906579265278753502624200716747533024432395269889191378383697519344096177313156877846047720924895194002055414479814891747480375899373443024662131262751235071685125242695618281598226034779458946362564194120752364533127591624917449426913732710736428892245076493449728181039456820328078362776999186843003882644641440287517267429754550029407684162404391137311014617671234253072019255779056730490670764078694345069444295262538668888215971738927956603155833061672347908380819860355027275138224753247417285625475553365423490576671657491631031455856830992926090681440324838435745282210770885697589810184414884267340823925461525396075541900835796698582911928780009167691831952343028720602159954751819737618766776889078888313232988704649536017571448126877517617488021924052107900966470033839284063213133904925565242084933210627270816509090408433643131296502780621935513992423188862716649188506239043655588219059623422571118008890148892213602554812398629507691277092096612689113258915315984051423067877950474988817448594721202815388755660147405590588863724112210340659502757635526631849433075231217463968156841656084470702827234840742439947250077473832063642440495142159445433802557550929187897463026396304122989366644233525187240149267207005867947820495074579242346564086949182150069868584977843857068870158752633486168691502446846588965274457930851124221482878955038967513526573048647767305766848754625101161013975493210463525985075694459727838949800076872410655621443077068399731333469859584902120478476398233167661919982952737646589356329111970996704949650052975630243642324984491268285990027789604840051467230340557974501282441070903409385527807283293749079681121959285281029809373946315517092384339837523227120701046018057072344294401280783024875137057763544722212525586391938067167681333553325691703461997796805891005129457552834577235675317795622653955137702128695798348057352063547942611254719295347686352791720259124033000601414363608243876909756628328944771028130539935516279017004841741378558474598102060822388012394287302096739653631506021698509629068312621911149115493689510650087584149908410086730025167410649227040334959932818330867831461319408757453492454967521665548109060179827960829920047228806697211508205389980083311645589638938460450537956087435942024516606101888102136095555421274565545914103668080542857201586616733053624712138702592912136735372051387236293112583542878176351850863625185990553520618211617136519364874067852482771770947149257375916425166242425797345977402101690653444876846472993305714075509429968081669988220419666153866863181254501159824545994332674914726143728703096031122468956134238087391975196145769692454910854077240275791051060804061352217995313338045179248459881632681520817649192089077605100888907879067578518600747094593659428100054701343743529078410269280851208307283127847926438613560457420786758013991265708471757215716137736355379009651891558696767951120051918561288506849877383322670911672455010399957885963520859014426152169438127086482914154229301027068931607527098571601800136587963826481472086090949863489643058312771706548781164213499244714155894456250786697031297909408476801999272554769894527503035182313950226304918789924384129459955231417508549325442591603112496940646668206129290984171573466061622528048616186627323678132090733132761729586981977102531857064966953997921909480978105180846228525194557653709932235098933869517374164820420128439261986684261149298054690269916633638512114637516649525206312185560495929605361490968355587248120206471476530698615255195562713275649592931126192401394159264109344935383451014041148660384592454828561392870310748441405969574468991759145832607617730122751745612062971493227945901686687902508548658690475159204608427091688930015465193928587620601653584666692966657420217236185669086401933421709590608823383773112530470445490012489134043274404339470440188707683827095044233448976031276028291652075190182968922584974384596631396722425020288493918692312671255348338491804026626342507687568822536084158352348299361007991677648776087271960829565699655108234840025511581113114582253028276353718185732044480815886238248576795366206274627378755837272536665066063285712170068581397508517962319743203930150614242503770057163139191734614532451417742079391634711680081965243777565367559936331935215562604419555892081204402305307320706804202795089779087101274956343889471440940307934674180102328143037691586823979583372221100475267051619775581242857980362816895405870637317792798504743246699207383690856233195756892008890509420317803206907237678837994397769578560276577908997133627594627779075138849799431705461804861954082156842113773232156599169466612602258114160641996354532745894571761128985555915194969221918944268327306800034145202033603465734558321692517423348957768169453375651673575366030512013396087319680706827248551308473196124370671781681621439279036689661150214294653949845972043358004120250648740558159419146511792760748774326676749013717900807435360776599073331362227623758766491661520464824748830075407493253181103138445326040814459423412774674458227432856847886239244682112817379880910056959689615106244474843602431424979009330831557076821390091512272120787499779253953855374484419198893108097303879334203346739473696996734159830006707502869070614440549366450100413424387333183296784417371425115252378176111665275580052856064081050128711130562610824
def gj_BX : Nat := 13085549802604190297663862147020647920484905361027731868017568029173756524743468101054593308476274251535580930704662137063931816735424606542238881359043561724452893183883312682907157659869001579536116207619150895320616808310238517791082062774325514597889571871771438288347430398624627200088763302333339204013035871703508327545879838894035230907280650382744353761507823365106994007839742853497224605714913402688140349034964158883954093349531972390453439455416284643629798455344824883598348491502131350160985698372570720126218228434496424927537421016535599888901464074414926688677139963256645364225909493610541931501340435951880619604912539848237279627030250304255601803494867837635083732653587823639337914342841154833306844826842021434068194525569170738923893677267574010437197588946711991244421402479857633557707841710717633293656704259849406004820221672072101270132334582307019441154039276124581209462762867115160506234325997700795669353330698628425538120092145471380896941937352417593006111491550173357784866738917123878043039322826033115127183872177881885479500291398141240867618883451995471377202672503074765492925318349330431040609320676667667896761982238237504222305849807643182105254795562026240781600029157116086813329124267735491884417888780097415792915770086364652877869852777554554998546640415844576514436208800232305646403870628072454360493489626993401852730751782135608814607413187386986587237039059386460575298424712639724788000944746268217700165743236050099319290128814146758765151868420593776689282678948138865499269229517948583388408662713414693016898217898338614826751406762818154698958481842434505076935694942957901533227497662881795623197815531012697912092101842379726653290519527302964591100733586769086035226196283107546824051849737968234498078824096413885922613461432053088897004172119976832789784667590365472770280115479657605130622625091697172982790010219434425446413840437806463981926611737780997082092415192402648608888967897191429194628703539398925945746486517790394734439473057067372185375150421480599304614047070037380051250047149104076195752086529564084895290577301994406689971144009290464370250852284240308732931292211577549990348797227433739312354299347619694620767315594706674760542108132822936407706869705629643583544099036828596375031925306645056682019787580817408
def gj_T (j : Nat) : Nat → Nat := fun e => if e < 8 then (gj_BT >>> (24 * j + 3 * e)) % 8 else e
def gj_ix (i : Nat) : Nat := (gj_BX >>> (10 * i)) % 1024
def gj_nt (i : Nat) : Int32 := match i with
  | 0 => 1 | 1 => 1 | 2 => 2 | 3 => 4 | 4 => 10 | 5 => 26 | 6 => 76 | 7 => 232 | 8 => 764 | _ => 0
def gj_in9 (x : Int32) : Bool := decide (0 ≤ x) && decide (x < 9)
/-- the reference's bits, numberOf, bitAt, setNumber, as they compute -/
def gj_bt : Nat → Int32 → Int32 → Nat → Int32
  | 0, _, c, _ => c
  | k + 1, s, c, a => gj_bt k s (c + ((s >>> (nI a &&& 31)) &&& 1)) (a + 1)
def gj_no (p : Nat → Nat) : Nat → Int32 → Int32 → Int32 → Nat → Option Int32
  | 0, x1, _, _, _ => some x1
  | k + 1, x1, x2, x3, a =>
    if p a ≤ a then gj_no p k x1 (x2 &&& (((1 : Int32) <<< (nI a &&& 31)) ^^^ (-1))) (if p a = a then x3 + (-1) else x3) (a + 1)
    else if (gj_in9 (x3 - 1) && gj_in9 (x3 - 2)) = true then
      gj_no p k (x1 + gj_nt (x3 - 1).toNatClampNeg + gj_bt 8 ((x2 &&& (((1 : Int32) <<< (nI a &&& 31)) ^^^ (-1))) &&& (((1 : Int32) <<< (nI (p a) &&& 31)) - ((2 : Int32) <<< (nI a &&& 31)))) 0 0 * gj_nt (x3 - 2).toNatClampNeg) ((x2 &&& (((1 : Int32) <<< (nI a &&& 31)) ^^^ (-1))) &&& (((1 : Int32) <<< (nI (p a) &&& 31)) ^^^ (-1))) (x3 - 2) (a + 1)
    else none
def gj_ba : Nat → Int32 → Int32 → Nat → Int32
  | 0, _, _, _ => 0
  | k + 1, s, l, a => if (s >>> (nI a &&& 31)) &&& 1 = 1 then (if l = 0 then nI a else gj_ba k s (l + (-1)) (a + 1)) else gj_ba k s l (a + 1)
def gj_ln (p : Nat → Nat) (a b : Nat) : Nat → Nat := fun e => if e = b then a else if e = a then b else p e
def gj_sn : Nat → Int32 → Int32 → Int32 → Nat → (Nat → Nat) → Option (Nat → Nat)
  | 0, _, _, _, _, p => some p
  | k + 1, x2, x3, x4, a, p =>
    if (x3 >>> (nI a &&& 31)) &&& 1 = 1 then
      (if gj_in9 (x4 - 1) = true then
        (if gj_nt (x4 - 1).toNatClampNeg ≤ x2 then
          (if (gj_in9 (x4 - 2) && decide (gj_nt (x4 - 2).toNatClampNeg ≠ 0)) = true then
            gj_sn k ((x2 - gj_nt (x4 - 1).toNatClampNeg) - (x2 - gj_nt (x4 - 1).toNatClampNeg) / gj_nt (x4 - 2).toNatClampNeg * gj_nt (x4 - 2).toNatClampNeg)
              ((x3 &&& (((1 : Int32) <<< (nI a &&& 31)) ^^^ (-1))) &&& (((1 : Int32) <<< (gj_ba 8 (x3 &&& (((1 : Int32) <<< (nI a &&& 31)) ^^^ (-1))) ((x2 - gj_nt (x4 - 1).toNatClampNeg) / gj_nt (x4 - 2).toNatClampNeg) 0 &&& 31)) ^^^ (-1)))
              (x4 - 2) (a + 1) (gj_ln p a (gj_ba 8 (x3 &&& (((1 : Int32) <<< (nI a &&& 31)) ^^^ (-1))) ((x2 - gj_nt (x4 - 1).toNatClampNeg) / gj_nt (x4 - 2).toNatClampNeg) 0).toNatClampNeg)
          else none)
        else gj_sn k x2 (x3 &&& (((1 : Int32) <<< (nI a &&& 31)) ^^^ (-1))) (x4 + (-1)) (a + 1) p)
      else none)
    else gj_sn k x2 x3 x4 (a + 1) p
def gj_all (n : Nat) (f : Nat → Bool) : Bool := match n with
  | 0 => true
  | n + 1 => f n && gj_all n f
theorem gj_all_i {f : Nat → Bool} : ∀ {n : Nat}, gj_all n f = true → ∀ i, i < n → f i = true := by
  intro n
  induction n with
  | zero => intro _ i hi; omega
  | succ n ih =>
    intro h i hi
    have h2 : (f n && gj_all n f) = true := h
    rw [Bool.and_eq_true] at h2
    by_cases z : i = n
    · rw [z]; exact h2.1
    · exact ih h2.2 i (by omega)
/-- both genomes are the same at the eight ends -/
def gj_eq (p q : Nat → Nat) : Bool := gj_all 8 (fun e => Nat.beq (p e) (q e))
theorem gj_eq_i {p q : Nat → Nat} (h : gj_eq p q = true) (hp : ∀ e, 8 ≤ e → p e = e) (hq : ∀ e, 8 ≤ e → q e = e) : p = q := by
  funext e
  by_cases he : e < 8
  · exact Nat.eq_of_beq_eq_true (gj_all_i h e he)
  · rw [hp e (by omega), hq e (by omega)]
theorem gj_T_8 (j : Nat) : ∀ e, 8 ≤ e → gj_T j e = e := fun e he => if_neg (by omega)
def gj_chV (j : Nat) : Bool := gj_all 8 (fun e => Nat.beq (gj_T j (gj_T j e)) e)
theorem gj_T_ck : gj_all 764 gj_chV = true := by decide +kernel
theorem gj_T_V {j : Nat} (hj : j < 764) : gj_V (gj_T j) := by
  refine ⟨fun e => ?_, gj_T_8 j⟩
  by_cases he : e < 8
  · exact Nat.eq_of_beq_eq_true (gj_all_i (gj_all_i gj_T_ck j hj) e he)
  · rw [gj_T_8 j e (by omega), gj_T_8 j e (by omega)]
theorem gj_ix_ck : gj_all 764 (fun i => Nat.blt (gj_ix i) 764) = true := by decide +kernel
theorem gj_ix_lt {i : Nat} (hi : i < 764) : gj_ix i < 764 := by
  have h : (gj_ix i).blt 764 = true := gj_all_i gj_ix_ck i hi
  exact Nat.le_of_ble_eq_true h
theorem gj_perm_ck : ((List.range 764).map gj_ix).isPerm (List.range 764) = true := by decide +kernel
/-- the genome of a number -/
def gj_S (i : Nat) : Nat → Nat := gj_T (gj_ix i)
theorem gj_S_V {i : Nat} (hi : i < 764) : gj_V (gj_S i) := gj_T_V (gj_ix_lt hi)
def gj_chS (i : Nat) : Bool := match gj_sn 8 (nI i) 255 8 0 (fun e => e) with
  | some q => gj_eq q (gj_S i)
  | none => false
theorem gj_S_ck : gj_all 764 gj_chS = true := by decide +kernel
def gj_chN (i : Nat) : Bool := match gj_no (gj_S i) 8 0 255 8 0 with
  | some r => decide (r = nI i)
  | none => false
theorem gj_N_ck : gj_all 764 gj_chN = true := by decide +kernel
end
section
/-- a count over the rows is a count over the numbers -/
theorem gj_cn_P (f : Nat → Bool) : ∀ n, gj_cn f n = (List.range n).countP f := by
  intro n
  induction n with
  | zero => rfl
  | succ n ih =>
    rw [List.range_succ, List.countP_append, ← ih]
    show gj_cn f n + (if f n = true then 1 else 0) = _
    rw [List.countP_singleton]
theorem gj_perm : ((List.range 764).map gj_ix).Perm (List.range 764) := List.isPerm_iff.mp gj_perm_ck
theorem gj_cn_ix (f : Nat → Bool) : gj_cn f 764 = gj_cn (fun i => f (gj_ix i)) 764 := by
  rw [gj_cn_P, gj_cn_P, ← gj_perm.countP_eq, List.countP_map]
  rfl
theorem gj_ix_sur {j : Nat} (hj : j < 764) : ∃ i, i < 764 ∧ gj_ix i = j := by
  have h : j ∈ (List.range 764).map gj_ix := gj_perm.mem_iff.mpr (List.mem_range.mpr hj)
  obtain ⟨i, h1, h2⟩ := List.mem_map.mp h
  exact ⟨i, List.mem_range.mp h1, h2⟩
theorem gj_cn_c {f g : Nat → Bool} {n : Nat} (h : ∀ e, e < n → f e = g e) : gj_cn f n = gj_cn g n := by
  have h1 := gj_cn_mono (f := f) (g := g) n (fun e he z => by rw [h e he]; exact z)
  have h2 := gj_cn_mono (f := g) (g := f) n (fun e he z => by rw [← h e he]; exact z)
  omega
/-- all genomes, by a walk over their first ends -/
def gj_ok (l : List Nat) (v : Nat) : Bool := !(l.contains v) && (if v < l.length then Nat.beq (l.getD v 9) l.length else !(l.contains l.length))
def gj_va (f : List Nat → Bool) : Nat → List Nat → Bool
  | 0, l => f l
  | n + 1, l => gj_all 8 (fun v => !(gj_ok l v) || gj_va f n (l ++ [v]))
theorem gj_ok_t {p : Nat → Nat} (hp : gj_V p) (k : Nat) : gj_ok ((List.range k).map p) (p k) = true := by
  have hl : ((List.range k).map p).length = k := by simp
  have h1 : ¬ p k ∈ (List.range k).map p := by
    intro h
    obtain ⟨i, h1, h2⟩ := List.mem_map.mp h
    have h3 := List.mem_range.mp h1
    have h4 : i = k := by rw [← hp.1 i, h2, hp.1 k]
    omega
  unfold gj_ok
  rw [hl]
  have e1 : ((List.range k).map p).contains (p k) = false := by
    simpa using h1
  rw [e1]
  by_cases hv : p k < k
  · rw [if_pos hv]
    have e2 : ((List.range k).map p).getD (p k) 9 = k := by
      rw [List.getD_eq_getElem?_getD, List.getElem?_map, List.getElem?_range hv]
      show p (p k) = k
      exact hp.1 k
    rw [e2]
    simp
  · rw [if_neg hv]
    have h2 : ¬ k ∈ (List.range k).map p := by
      intro h
      obtain ⟨i, h1, h2⟩ := List.mem_map.mp h
      have h3 := List.mem_range.mp h1
      have h4 : i = p k := by rw [← h2, hp.1 i]
      omega
    have e2 : ((List.range k).map p).contains k = false := by
      simpa using h2
    rw [e2]
    rfl
theorem gj_va_s {f : List Nat → Bool} {p : Nat → Nat} (hp : gj_V p) : ∀ n k, k + n = 8 → gj_va f n ((List.range k).map p) = true → f ((List.range 8).map p) = true := by
  intro n
  induction n with
  | zero =>
    intro k hk h
    have : k = 8 := by omega
    subst this
    exact h
  | succ n ih =>
    intro k hk h
    have h1 := gj_all_i (n := 8) h (p k) (gj_V_lt hp (by omega))
    rw [gj_ok_t hp k] at h1
    have h2 : gj_va f n ((List.range k).map p ++ [p k]) = true := h1
    refine ih (k + 1) (by omega) ?_
    rw [List.range_succ, List.map_append]
    exact h2
def gj_f (l : List Nat) : Nat → Nat := fun e => if e < 8 then l.getD e 0 else e
theorem gj_f_p {p : Nat → Nat} (hp : gj_V p) : gj_f ((List.range 8).map p) = p := by
  funext e
  unfold gj_f
  by_cases he : e < 8
  · rw [if_pos he, List.getD_eq_getElem?_getD, List.getElem?_map, List.getElem?_range he]
    rfl
  · rw [if_neg he, hp.2 e (by omega)]
def gj_leaf (l : List Nat) : Bool := match gj_no (gj_f l) 8 0 255 8 0 with
  | some r => Nat.blt r.toNatClampNeg 764 && gj_eq (gj_f l) (gj_S r.toNatClampNeg)
  | none => false
theorem gj_va_ck : gj_va gj_leaf 8 [] = true := by decide +kernel
theorem gj_num {p : Nat → Nat} (hp : gj_V p) : ∃ i, i < 764 ∧ p = gj_S i := by
  have h := gj_va_s (f := gj_leaf) hp 8 0 rfl gj_va_ck
  unfold gj_leaf at h
  rw [gj_f_p hp] at h
  split at h
  · rename_i r _
    rw [Bool.and_eq_true] at h
    exact ⟨r.toNatClampNeg, Nat.le_of_ble_eq_true h.1, gj_eq_i h.2 hp.2 (gj_T_8 _)⟩
  · exact absurd h (by decide)
theorem gj_no_S {i : Nat} (hi : i < 764) : gj_no (gj_S i) 8 0 255 8 0 = some (nI i) := by
  have h := gj_all_i gj_N_ck i hi
  unfold gj_chN at h
  split at h
  · rename_i r hr
    rw [hr, of_decide_eq_true h]
  · exact absurd h (by decide)
theorem gj_S_inj {i j : Nat} (hi : i < 764) (hj : j < 764) (h : gj_S i = gj_S j) : i = j := by
  have h1 := gj_no_S hi
  rw [h, gj_no_S hj] at h1
  exact ((nI_eq (by omega) (by omega)).mp (Option.some.inj h1)).symm
theorem gj_sn_S {i : Nat} (hi : i < 764) : ∃ q, gj_sn 8 (nI i) 255 8 0 (fun e => e) = some q ∧ ∀ e, e < 8 → q e = gj_S i e := by
  have h := gj_all_i gj_S_ck i hi
  unfold gj_chS at h
  split at h
  · rename_i q hq
    exact ⟨q, hq, fun e he => Nat.eq_of_beq_eq_true (gj_all_i h e he)⟩
  · exact absurd h (by decide)
/-- the number of joints, and of joined ends -/
def gj_jn (p : Nat → Nat) : Nat := gj_cn (fun e => decide (e < p e)) 8
def gj_je (p : Nat → Nat) : Nat := gj_cn (fun e => decide (p e ≠ e)) 8
theorem gj_j_ck : gj_all 764 (fun i => Nat.beq (gj_je (gj_S i)) (2 * gj_jn (gj_S i))) = true := by decide +kernel
theorem gj_j {p : Nat → Nat} (hp : gj_V p) : gj_je p = 2 * gj_jn p := by
  obtain ⟨i, hi, rfl⟩ := gj_num hp
  exact Nat.eq_of_beq_eq_true (gj_all_i gj_j_ck i hi)
/-- the component's listing over the table: only the number of rows so far is carried -/
def gj_sr (a b : Nat) : Nat → Nat → Nat → Option Nat
  | 0, _, n => some n
  | k + 1, row, n => if (Nat.blt n 764 && Nat.beq (gj_T row a) a && Nat.beq (gj_T row b) b) = true then (if gj_eq (gj_mk (gj_T row) a b) (gj_T n) = true then gj_sr a b k (row + 1) (n + 1) else none) else gj_sr a b k (row + 1) n
def gj_sb (a : Nat) : Nat → Nat → Nat → Option Nat
  | 0, _, n => some n
  | k + 1, b, n => match gj_sr a b n 0 n with
    | some m => gj_sb a k (b + 1) m
    | none => none
def gj_sa : Nat → Nat → Nat → Option Nat
  | 0, _, n => some n
  | k + 1, a, n => match gj_sb a (7 - a) (a + 1) n with
    | some m => gj_sa k (a + 1) m
    | none => none
def gj_isS (o : Option Nat) (n : Nat) : Bool := match o with
  | some m => Nat.beq m n
  | none => false
theorem gj_sa_ck : gj_isS (gj_sa 8 0 1) 764 = true := by decide +kernel
theorem gj_sa_764 : gj_sa 8 0 1 = some 764 := by
  have h := gj_sa_ck
  unfold gj_isS at h
  split at h
  · rename_i m hm
    rw [hm, Nat.eq_of_beq_eq_true h]
  · exact absurd h (by decide)
theorem gj_T0_ck : gj_eq (fun e => e) (gj_T 0) = true := by decide +kernel
theorem gj_T0 : gj_T 0 = fun e => e := (gj_eq_i gj_T0_ck (fun _ _ => rfl) (gj_T_8 0)).symm
end
section
/-- a row of the component: -1 for a loose end -/
def gj_cx (v e : Nat) : Int32 := if v = e then -1 else nI v
def gj_xr (u : Nat → Int32) (t : Nat) (p : Nat → Nat) : Prop := ∀ e, e < 8 → u (t * 8 + e) = gj_cx (p e) e
/-- the same but for the row t -/
def gj_eo (t : Nat) (u w : Nat → Int32) : Prop := ∀ j, (j < t * 8 ∨ t * 8 + 8 ≤ j) → w j = u j
theorem gj_eo_r {t : Nat} {u : Nat → Int32} : gj_eo t u u := fun _ _ => rfl
theorem gj_eo_t {t : Nat} {u v w : Nat → Int32} (h1 : gj_eo t u v) (h2 : gj_eo t v w) : gj_eo t u w := fun j hj => (h2 j hj).trans (h1 j hj)
theorem gj_xr_eo {u w : Nat → Int32} {s t : Nat} {p : Nat → Nat} (h : gj_xr u s p) (k : gj_eo t u w) (hst : s ≠ t) : gj_xr w s p := by
  intro e he
  rw [k _ (by omega)]
  exact h e he
theorem gj_nm {v : Nat} (h : v < 2 ^ 31) : ¬ nI v = -1 := fun z => nI_pos h (by rw [z]; decide)
theorem gj_cx_p {v e : Nat} (h : v = e) : gj_cx v e = -1 := if_pos h
theorem gj_cx_n {v e : Nat} (h : v ≠ e) : gj_cx v e = nI v := if_neg h
theorem gj_xi (t e : Nat) : nI t * 8 + nI e = nI (t * 8 + e) := by
  have h : nI t * nI 8 = nI (t * 8) := pk_mul t 8
  have h8 : nI 8 = 8 := rfl
  rw [h8] at h
  rw [h, nI_add]
theorem gj_xc {t e : Nat} (ht : t < 768) (he : e < 8) : (nI t * 8 + nI e).toNatClampNeg = t * 8 + e := by
  rw [gj_xi, nI_clamp (by omega)]
theorem gj_xv {t e : Nat} (ht : t < 768) (he : e < 8) : vp_in (nI t * 8 + nI e) 6144 := by
  rw [gj_xi]
  exact vp_in_nI (by omega) (by omega)
theorem gx_loose {post : Int32 → Prop} {u : Nat → Int32} {t e : Nat} {p : Nat → Nat} (hp : gj_V p) (h : gj_xr u t p) (ht : t < 768) (he : e < 8) (h1 : p e = e → post 1) (h0 : p e ≠ e → post 0) : wpX_isLoose post u (nI t) (nI e) := by
  unfold wpX_isLoose
  refine ⟨gj_xv ht he, ?_⟩
  rw [gj_xc ht he, h e he]
  have := gj_V_lt hp he
  by_cases z : p e = e
  · rw [gj_cx_p z]; exact br_t rfl (h1 z)
  · rw [gj_cx_n z]; exact br_f (gj_nm (by omega)) (h0 z)
theorem gx_copy_l {post : SX → Prop} {u : Nat → Int32} {t f : Nat} (ht : t < 768) (hf : f < 768) (H : ∀ w, gj_eo t u w → (∀ e, e < 8 → w (t * 8 + e) = u (f * 8 + e)) → post w) : ∀ d e w, e + d = 8 → (∀ j, (j < t * 8 ∨ t * 8 + e ≤ j) → w j = u j) → (∀ i, i < e → w (t * 8 + i) = u (f * 8 + i)) → wX_copyRow_2 post (nI t) (nI f) (d + 1) (nI e) w := by
  intro d
  induction d with
  | zero =>
    intro e w he h1 h2
    have : e = 8 := by omega
    subst this
    exact br_t (nI_le (a := 8) (by omega) (by omega)) (H w h1 h2)
  | succ d ih =>
    intro e w he h1 h2
    refine br_f (nI_ge (b := 8) (by omega) (by omega)) ⟨gj_xv hf (by omega), gj_xv ht (by omega), ?_⟩
    intro y ey
    refine nm_r (nI_1 e) ?_
    rw [gj_xc ht (by omega), gj_xc hf (by omega)] at ey
    refine ih (e + 1) y (by omega) (fun j hj => ?_) (fun i hi => ?_)
    · rw [ey, pk_un (by omega)]
      exact h1 j (by omega)
    · by_cases z : i = e
      · rw [z, ey, pk_us]
        exact h1 _ (by omega)
      · rw [ey, pk_un (by omega)]
        exact h2 i (by omega)
theorem gx_copy {post : SX → Prop} {u : Nat → Int32} {t f : Nat} (ht : t < 768) (hf : f < 768) (H : ∀ w, gj_eo t u w → (∀ e, e < 8 → w (t * 8 + e) = u (f * 8 + e)) → post w) : wpX_copyRow post u (nI t) (nI f) := by
  unfold wpX_copyRow
  exact ⟨9, gx_copy_l ht hf H 8 0 u rfl (fun _ _ => rfl) (fun i hi => absurd hi (by omega))⟩
theorem gx_copyr {post : SX → Prop} {u : Nat → Int32} {t f : Nat} {p : Nat → Nat} (ht : t < 768) (hf : f < 768) (h : gj_xr u f p) (H : ∀ w, gj_eo t u w → gj_xr w t p → post w) : wpX_copyRow post u (nI t) (nI f) :=
  gx_copy ht hf (fun w k1 k2 => H w k1 (fun e he => by rw [k2 e he]; exact h e he))
/-- the four stores of makeJoint give the made joint -/
theorem gx_mk_p {u w : Nat → Int32} {t a b : Nat} {p : Nat → Nat} (hp : gj_V p) (h : gj_xr u t p) (ha : a < 8) (hb : b < 8) (hab : a ≠ b) (hpa : p a ≠ b) (hw : ∀ j, w j = if j = t * 8 + b then nI a else if j = t * 8 + a then nI b else if p b ≠ b ∧ j = t * 8 + p b then gj_cx (p a) a else if p a ≠ a ∧ j = t * 8 + p a then gj_cx (p b) b else u j) : gj_xr w t (gj_mk p a b) ∧ gj_eo t u w := by
  have l1 := gj_V_lt hp ha
  have l2 := gj_V_lt hp hb
  constructor
  · intro e he
    have i1 := hp.1 a
    have i2 := hp.1 b
    have i3 := hp.1 e
    have k := h e he
    have q : ∀ x, (t * 8 + e = t * 8 + x) = (e = x) := fun x => by rw [Nat.add_left_cancel_iff]
    rw [hw]
    simp only [q, k]
    unfold gj_cx gj_mk
    grind
  · intro j hj
    rw [hw, if_neg (by omega), if_neg (by omega), if_neg (by omega), if_neg (by omega)]
theorem gx_make_64 {post : SX → Prop} {t a b : Nat} (ht : t < 768) (ha : a < 8) (hb : b < 8) {u : Nat → Int32} (H : post (upd (upd u (t * 8 + a) (nI b)) (t * 8 + b) (nI a))) : wX_makeJoint_64 post (nI a) (nI b) (nI t * 8) u := by
  unfold wX_makeJoint_64
  refine ⟨gj_xv ht ha, ?_⟩
  intro y ey
  refine ⟨gj_xv ht hb, ?_⟩
  intro z ez
  rw [gj_xc ht ha] at ey
  rw [gj_xc ht hb] at ez
  rw [ez, ey]
  exact H
theorem gx_make {post : SX → Prop} {u : Nat → Int32} {t a b : Nat} {p : Nat → Nat} (hp : gj_V p) (h : gj_xr u t p) (ht : t < 768) (ha : a < 8) (hb : b < 8) (hab : a ≠ b) (hpa : p a ≠ b) (H : ∀ w, gj_xr w t (gj_mk p a b) → gj_eo t u w → post w) : wpX_makeJoint post u (nI t) (nI a) (nI b) := by
  have l1 := gj_V_lt hp ha
  have l2 := gj_V_lt hp hb
  unfold wpX_makeJoint
  refine nm_e ⟨gj_xv ht ha, nm_r (e' := gj_cx (p a) a) (by rw [gj_xc ht ha, h a ha]) ⟨gj_xv ht hb, nm_r (e' := gj_cx (p b) b) (by rw [gj_xc ht hb, h b hb]) ?_⟩⟩
  by_cases za : p a = a
  · rw [gj_cx_p za]
    refine br_t rfl ?_
    unfold wX_makeJoint_46
    by_cases zb : p b = b
    · rw [gj_cx_p zb]
      refine br_t rfl (gx_make_64 ht ha hb ?_)
      have := gx_mk_p (w := upd (upd u (t * 8 + a) (nI b)) (t * 8 + b) (nI a)) hp h ha hb hab hpa (fun j => by
        unfold upd
        simp only [za, zb, ne_eq, not_true, false_and, if_false])
      exact H _ this.1 this.2
    · rw [gj_cx_n zb]
      refine br_f (gj_nm (by omega)) ⟨gj_xv ht l2, nm_r (by rw [gj_xc ht l2]) (gx_make_64 ht ha hb ?_)⟩
      have := gx_mk_p (w := upd (upd (upd u (t * 8 + p b) (-1)) (t * 8 + a) (nI b)) (t * 8 + b) (nI a)) hp h ha hb hab hpa (fun j => by
        unfold upd
        rw [gj_cx_p za]
        simp only [za, zb, ne_eq, not_true, false_and, if_false, not_false_iff, true_and])
      exact H _ this.1 this.2
  · rw [gj_cx_n za]
    refine br_f (gj_nm (by omega)) ⟨gj_xv ht l1, nm_r (by rw [gj_xc ht l1]) ?_⟩
    unfold wX_makeJoint_46
    by_cases zb : p b = b
    · rw [gj_cx_p zb]
      refine br_t rfl (gx_make_64 ht ha hb ?_)
      have := gx_mk_p (w := upd (upd (upd u (t * 8 + p a) (-1)) (t * 8 + a) (nI b)) (t * 8 + b) (nI a)) hp h ha hb hab hpa (fun j => by
        unfold upd
        rw [gj_cx_p zb]
        simp only [za, zb, ne_eq, not_true, false_and, if_false, not_false_iff, true_and])
      exact H _ this.1 this.2
    · rw [gj_cx_n zb]
      refine br_f (gj_nm (by omega)) ⟨gj_xv ht l2, nm_r (by rw [gj_xc ht l2]) (gx_make_64 ht ha hb ?_)⟩
      have := gx_mk_p (w := upd (upd (upd (upd u (t * 8 + p a) (nI (p b))) (t * 8 + p b) (nI (p a))) (t * 8 + a) (nI b)) (t * 8 + b) (nI a)) hp h ha hb hab hpa (fun j => by
        unfold upd
        rw [gj_cx_n za, gj_cx_n zb]
        simp only [za, zb, ne_eq, not_false_iff, true_and])
      exact H _ this.1 this.2
theorem gx_take {post : SX → Prop} {u : Nat → Int32} {t a : Nat} {p : Nat → Nat} (hp : gj_V p) (h : gj_xr u t p) (ht : t < 768) (ha : a < 8) (hpa : p a ≠ a) (H : ∀ w, gj_xr w t (gj_rm p a) → gj_eo t u w → post w) : wpX_takeJoint post u (nI t) (nI a) (nI (p a)) := by
  have l1 := gj_V_lt hp ha
  unfold wpX_takeJoint
  refine ⟨gj_xv ht ha, nm_r (by rw [gj_xc ht ha]) ⟨gj_xv ht l1, nm_r (by rw [gj_xc ht l1]) ?_⟩⟩
  refine H _ ?_ ?_
  · intro e he
    have i1 := hp.1 a
    have i3 := hp.1 e
    have k := h e he
    have q : ∀ x, (t * 8 + e = t * 8 + x) = (e = x) := fun x => by rw [Nat.add_left_cancel_iff]
    unfold upd
    simp only [q, k]
    unfold gj_cx gj_rm
    grind
  · intro j hj
    rw [pk_un (by omega), pk_un (by omega)]
theorem gx_count_l {post : Int32 → Prop} {u : Nat → Int32} {t : Nat} {p : Nat → Nat} (hp : gj_V p) (h : gj_xr u t p) (ht : t < 768) (H : post (nI (gj_jn p))) : ∀ d e, e + d = 8 → wX_countJoints_4 post (nI t) u (d + 1) (nI (gj_cn (fun e => decide (p e ≠ e)) e)) (nI e) := by
  intro d
  induction d with
  | zero =>
    intro e he
    have : e = 8 := by omega
    subst this
    refine br_t (nI_le (a := 8) (by omega) (by omega)) ⟨by decide, ?_⟩
    have e1 : gj_cn (fun e => decide (p e ≠ e)) 8 = 2 * gj_jn p := gj_j hp
    have e2 : gj_jn p ≤ 8 := gj_cn_le _ 8
    rw [e1]
    have e3 : nI (2 * gj_jn p) / nI 2 = nI (2 * gj_jn p / 2) := pk_div (by omega) (by omega) (by omega)
    have e4 : nI 2 = 2 := rfl
    rw [e4] at e3
    rw [e3, Nat.mul_div_cancel_left _ (by omega)]
    exact H
  | succ d ih =>
    intro e he
    refine br_f (nI_ge (b := 8) (by omega) (by omega)) ⟨gj_xv ht (by omega), ?_⟩
    rw [gj_xc ht (by omega), h e (by omega)]
    have l1 := gj_V_lt hp (e := e) (by omega)
    have ih1 := ih (e + 1) (by omega)
    by_cases z : p e = e
    · rw [gj_cx_p z]
      refine br_t rfl (nm_r (nI_1 e) ?_)
      have : gj_cn (fun e => decide (p e ≠ e)) (e + 1) = gj_cn (fun e => decide (p e ≠ e)) e := by
        show gj_cn (fun e => decide (p e ≠ e)) e + (if decide (p e ≠ e) = true then 1 else 0) = _
        rw [decide_eq_false (fun y => y z)]
        rfl
      rw [this] at ih1
      exact ih1
    · rw [gj_cx_n z]
      refine br_f (gj_nm (by omega)) (nm_r (nI_1 _) (nm_r (nI_1 e) ?_))
      have : gj_cn (fun e => decide (p e ≠ e)) (e + 1) = gj_cn (fun e => decide (p e ≠ e)) e + 1 := by
        show gj_cn (fun e => decide (p e ≠ e)) e + (if decide (p e ≠ e) = true then 1 else 0) = _
        rw [decide_eq_true z]
        rfl
      rw [this] at ih1
      exact ih1
theorem gx_count {post : Int32 → Prop} {u : Nat → Int32} {t : Nat} {p : Nat → Nat} (hp : gj_V p) (h : gj_xr u t p) (ht : t < 768) (H : post (nI (gj_jn p))) : wpX_countJoints post u (nI t) := by
  unfold wpX_countJoints
  exact ⟨9, gx_count_l hp h ht H 8 0 rfl⟩
theorem gx_lack_l {post : Int32 → Prop} {u : Nat → Int32} {t g : Nat} {p r : Nat → Nat} (hp : gj_V p) (hr : gj_V r) (h : gj_xr u t p) (k : gj_xr u g r) (ht : t < 768) (hg : g < 768) (H1 : gj_l p r < 8 → post (nI (gj_l p r))) (H0 : ¬ gj_l p r < 8 → post (-1)) : ∀ d e, e + d = 8 → gj_lk p r d e = gj_l p r → wX_leastEndLacking_2 post (nI t) (nI g) u (d + 1) (nI e) := by
  intro d
  induction d with
  | zero =>
    intro e he hl
    have : e = 8 := by omega
    subst this
    have hl2 : 8 = gj_l p r := hl
    exact br_t (nI_le (a := 8) (by omega) (by omega)) (H0 (by omega))
  | succ d ih =>
    intro e he hl
    have lp := gj_V_lt hp (e := e) (by omega)
    have lr := gj_V_lt hr (e := e) (by omega)
    have hl2 : (if r e ≠ e ∧ p e ≠ r e then e else gj_lk p r d (e + 1)) = gj_l p r := hl
    refine br_f (nI_ge (b := 8) (by omega) (by omega)) ⟨gj_xv hg (by omega), nm_r (e' := gj_cx (r e) e) (by rw [gj_xc hg (by omega), k e (by omega)]) ?_⟩
    by_cases z : r e = e
    · rw [if_neg (fun y => y.1 z)] at hl2
      rw [gj_cx_p z]
      exact br_t rfl (nm_r (nI_1 e) (ih (e + 1) (by omega) hl2))
    · rw [gj_cx_n z]
      refine br_f (gj_nm (by omega)) ⟨gj_xv ht (by omega), ?_⟩
      rw [gj_xc ht (by omega), h e (by omega)]
      by_cases y : p e = r e
      · rw [if_neg (fun x => x.2 y)] at hl2
        rw [y, gj_cx_n z]
        exact br_t rfl (nm_r (nI_1 e) (ih (e + 1) (by omega) hl2))
      · rw [if_pos ⟨z, y⟩] at hl2
        refine br_f ?_ ?_
        · by_cases x : p e = e
          · rw [gj_cx_p x]
            exact fun w => gj_nm (v := r e) (by omega) w.symm
          · rw [gj_cx_n x]
            exact fun w => y ((nI_eq (by omega) (by omega)).mp w)
        · rw [hl2]
          exact H1 (by omega)
theorem gx_lack {post : Int32 → Prop} {u : Nat → Int32} {t g : Nat} {p r : Nat → Nat} (hp : gj_V p) (hr : gj_V r) (h : gj_xr u t p) (k : gj_xr u g r) (ht : t < 768) (hg : g < 768) (H1 : gj_l p r < 8 → post (nI (gj_l p r))) (H0 : ¬ gj_l p r < 8 → post (-1)) : wpX_leastEndLacking post u (nI t) (nI g) := by
  unfold wpX_leastEndLacking
  exact ⟨9, gx_lack_l hp hr h k ht hg H1 H0 8 0 rfl rfl⟩
theorem gx_step {post : Int32 → SX → Prop} {u : Nat → Int32} {t g : Nat} {p r : Nat → Nat} (hp : gj_V p) (hr : gj_V r) (h : gj_xr u t p) (k : gj_xr u g r) (ht : t < 768) (hg : g < 768) (H0 : ¬ (gj_l p r < 8 ∨ gj_l r p < 8) → post 0 u) (H1 : (gj_l p r < 8 ∨ gj_l r p < 8) → ∀ w, gj_xr w t (gj_st p r) → gj_eo t u w → post 1 w) : wpX_stepTowards post u (nI t) (nI g) := by
  unfold wpX_stepTowards
  refine gx_lack hp hr h k ht hg (fun z => ?_) (fun z => ?_)
  · obtain ⟨c1, c2⟩ := gj_l_t z
    have lr := gj_V_lt hr z
    refine br_f (gj_nm (by omega)) ⟨gj_xv hg z, ?_⟩
    rw [gj_xc hg z, k _ z, gj_cx_n c1]
    refine gx_make hp h ht z lr (fun y => c1 y.symm) c2 (fun w h1 h2 => H1 (Or.inl z) w ?_ h2)
    rw [gj_st_mk z]
    exact h1
  · refine br_t rfl (gx_lack hr hp k h hg ht (fun y => ?_) (fun y => ?_))
    · obtain ⟨c1, c2⟩ := gj_l_r hr z y
      refine br_f (gj_nm (by omega)) ⟨gj_xv ht y, ?_⟩
      rw [gj_xc ht y, h _ y, gj_cx_n c1]
      refine gx_take hp h ht y c1 (fun w h1 h2 => H1 (Or.inr y) w ?_ h2)
      rw [gj_st_rm z y]
      exact h1
    · exact br_t rfl (H0 (fun x => x.elim z y))
theorem gx_btw_l {post : Int32 → SX → Prop} {u : Nat → Int32} {g m : Nat} {r : Nat → Nat} (hr : gj_V r) (k : gj_xr u g r) (hg : g < 768) (hg3 : g ≠ 3) (hm : m ≤ 8) (H : ∀ w, gj_eo 3 u w → post (nI m) w) : ∀ d q w c, gj_V q → gj_xr w 3 q → gj_eo 3 u w → gj_D q r = d → c + d = m → wX_stepsBetween_8 post (nI g) (d + 1) (nI c) w := by
  intro d
  induction d with
  | zero =>
    intro q w c hq h1 h2 h3 h4
    have hc : c = m := by omega
    subst hc
    have hn : ¬ (gj_l q r < 8 ∨ gj_l r q < 8) := fun z => by rw [gj_D_s hq hr z] at h3; omega
    by_cases h8 : 8 ≤ c
    · exact br_t (nI_le (a := 8) h8 (by omega)) (H w h2)
    · refine br_f (nI_ge (b := 8) (by omega) (by omega)) ?_
      exact gx_step (t := 3) hq hr h1 (gj_xr_eo k h2 hg3) (by omega) hg (fun _ => br_t rfl (H w h2)) (fun z => absurd z hn)
  | succ d ih =>
    intro q w c hq h1 h2 h3 h4
    have hy : gj_l q r < 8 ∨ gj_l r q < 8 := by
      by_cases z : gj_l q r < 8 ∨ gj_l r q < 8
      · exact z
      · rw [gj_ne_l hq hr z, gj_D_self] at h3; omega
    refine br_f (nI_ge (b := 8) (by omega) (by omega)) ?_
    refine gx_step (t := 3) hq hr h1 (gj_xr_eo k h2 hg3) (by omega) hg (fun z => absurd hy z) (fun _ w' k1 k2 => ?_)
    refine br_f (by decide) (nm_r (nI_1 c) ?_)
    refine ih _ w' (c + 1) (gj_st_V hq hr) k1 (gj_eo_t h2 k2) ?_ (by omega)
    have := gj_D_s hq hr hy
    omega
theorem gx_btw {post : Int32 → SX → Prop} {u : Nat → Int32} {f g : Nat} {p r : Nat → Nat} (hp : gj_V p) (hr : gj_V r) (h : gj_xr u f p) (k : gj_xr u g r) (hf : f < 768) (hg : g < 768) (hg3 : g ≠ 3) (H : ∀ w, gj_eo 3 u w → post (nI (gj_D p r)) w) : wpX_stepsBetween post u (nI f) (nI g) := by
  unfold wpX_stepsBetween
  refine gx_copyr (t := 3) (by omega) hf h (fun w h1 h2 => ?_)
  exact ⟨_, gx_btw_l hr k hg hg3 (gj_D_le p r) H (gj_D p r) p w 0 hp h2 h1 rfl (by omega)⟩
end
section
/-- a row of the reference: a loose end is its own partner -/
def gj_yr (q : Nat → Int32) (t : Nat) (p : Nat → Nat) : Prop := ∀ e, e < 8 → q (t * 8 + e) = nI (p e)
theorem gj_yr_eo {u w : Nat → Int32} {s t : Nat} {p : Nat → Nat} (h : gj_yr u s p) (k : gj_eo t u w) (hst : s ≠ t) : gj_yr w s p := by
  intro e he
  rw [k _ (by omega)]
  exact h e he
theorem gj_yi (t e : Nat) : 8 * nI t + nI e = nI (t * 8 + e) := by
  rw [← gj_xi, Int32.mul_comm]
theorem gj_yc {t e : Nat} (ht : t < 5) (he : e < 8) : (8 * nI t + nI e).toNatClampNeg = t * 8 + e := by
  rw [gj_yi, nI_clamp (by omega)]
theorem gj_yv {t e : Nat} (ht : t < 5) (he : e < 8) : vp_in (8 * nI t + nI e) 40 := by
  rw [gj_yi]
  exact vp_in_nI (by omega) (by omega)
theorem gj_yi4 (e : Nat) : 32 + nI e = nI (4 * 8 + e) := by
  have h : nI 32 + nI e = nI (32 + e) := nI_add 32 e
  exact h
theorem gj_yc4 {e : Nat} (he : e < 8) : (32 + nI e).toNatClampNeg = 4 * 8 + e := by
  rw [gj_yi4, nI_clamp (by omega)]
theorem gj_yv4 {e : Nat} (he : e < 8) : vp_in (32 + nI e) 40 := by
  rw [gj_yi4]
  exact vp_in_nI (by omega) (by omega)
theorem gy_loose {post : Int32 → Prop} {q s n : Nat → Int32} {t e : Nat} {p : Nat → Nat} (hp : gj_V p) (h : gj_yr q t p) (ht : t < 5) (he : e < 8) (h1 : p e = e → post 1) (h0 : p e ≠ e → post 0) : wpY_isLoose post (q, s, n) (nI t) (nI e) := by
  unfold wpY_isLoose
  refine ⟨gj_yv ht he, ?_⟩
  rw [gj_yc ht he, h e he]
  have := gj_V_lt hp he
  exact pk_eq (p e) e h1 h0 rfl rfl (by omega) (by omega)
theorem gy_link {post : SY → Prop} {q s n : Nat → Int32} {t a b : Nat} (ht : t < 5) (ha : a < 8) (hb : b < 8) (H : post (upd (upd q (t * 8 + a) (nI b)) (t * 8 + b) (nI a), s, n)) : wpY_link post (q, s, n) (nI t) (nI a) (nI b) := by
  unfold wpY_link
  refine ⟨gj_yv ht ha, nm_r (by rw [gj_yc ht ha]) ⟨gj_yv ht hb, nm_r (by rw [gj_yc ht hb]) H⟩⟩
theorem gy_unlink {post : SY → Prop} {q s n : Nat → Int32} {t a : Nat} {p : Nat → Nat} (hp : gj_V p) (h : gj_yr q t p) (ht : t < 5) (ha : a < 8) (H : ∀ w, gj_yr w t (gj_rm p a) → gj_eo t q w → post (w, s, n)) : wpY_unlink post (q, s, n) (nI t) (nI a) := by
  have l1 := gj_V_lt hp ha
  unfold wpY_unlink
  refine ⟨gj_yv ht ha, nm_r (e' := nI (p a)) (by rw [gj_yc ht ha, h a ha]) ⟨gj_yv ht ha, nm_r (by rw [gj_yc ht ha]) ⟨gj_yv ht l1, nm_r (by rw [gj_yc ht l1]) ?_⟩⟩⟩
  refine H _ ?_ ?_
  · intro e he
    have k := h e he
    have w : ∀ x, (t * 8 + e = t * 8 + x) = (e = x) := fun x => by rw [Nat.add_left_cancel_iff]
    unfold upd
    simp only [w, k]
    unfold gj_rm
    grind
  · intro j hj
    rw [pk_un (by omega), pk_un (by omega)]
theorem gy_copy_l {post : SY → Prop} {u s n : Nat → Int32} {t f : Nat} (ht : t < 5) (hf : f < 5) (H : ∀ w, gj_eo t u w → (∀ e, e < 8 → w (t * 8 + e) = u (f * 8 + e)) → post (w, s, n)) : ∀ d e w, e + d = 8 → (∀ j, (j < t * 8 ∨ t * 8 + e ≤ j) → w j = u j) → (∀ i, i < e → w (t * 8 + i) = u (f * 8 + i)) → wY_copyTo_2 post (nI f) (nI t) (d + 1) (nI e) w s n := by
  intro d
  induction d with
  | zero =>
    intro e w he h1 h2
    have : e = 8 := by omega
    subst this
    exact br_t (nI_le (a := 8) (by omega) (by omega)) (H w h1 h2)
  | succ d ih =>
    intro e w he h1 h2
    refine br_f (nI_ge (b := 8) (by omega) (by omega)) ⟨gj_yv hf (by omega), gj_yv ht (by omega), ?_⟩
    intro y ey
    refine nm_r (nI_1 e) ?_
    rw [gj_yc ht (by omega), gj_yc hf (by omega)] at ey
    refine ih (e + 1) y (by omega) (fun j hj => ?_) (fun i hi => ?_)
    · rw [ey, pk_un (by omega)]
      exact h1 j (by omega)
    · by_cases z : i = e
      · rw [z, ey, pk_us]
        exact h1 _ (by omega)
      · rw [ey, pk_un (by omega)]
        exact h2 i (by omega)
theorem gy_copy {post : SY → Prop} {u s n : Nat → Int32} {t f : Nat} {p : Nat → Nat} (ht : t < 5) (hf : f < 5) (h : gj_yr u f p) (H : ∀ w, gj_eo t u w → gj_yr w t p → post (w, s, n)) : wpY_copyTo post (u, s, n) (nI f) (nI t) := by
  unfold wpY_copyTo
  exact ⟨9, gy_copy_l ht hf (fun w k1 k2 => H w k1 (fun e he => by rw [k2 e he]; exact h e he)) 8 0 u rfl (fun _ _ => rfl) (fun i hi => absurd hi (by omega))⟩
theorem gy_count_l {post : Int32 → Prop} {u s n : Nat → Int32} {t : Nat} {p : Nat → Nat} (hp : gj_V p) (h : gj_yr u t p) (ht : t < 5) (H : post (nI (gj_jn p))) : ∀ d e, e + d = 8 → wY_count_4 post (nI t) u s n (d + 1) (nI (gj_cn (fun e => decide (e < p e)) e)) (nI e) := by
  intro d
  induction d with
  | zero =>
    intro e he
    have : e = 8 := by omega
    subst this
    exact br_t (nI_le (a := 8) (by omega) (by omega)) H
  | succ d ih =>
    intro e he
    refine br_f (nI_ge (b := 8) (by omega) (by omega)) ⟨gj_yv ht (by omega), ?_⟩
    rw [gj_yc ht (by omega), h e (by omega)]
    have l1 := gj_V_lt hp (e := e) (by omega)
    have ih1 := ih (e + 1) (by omega)
    refine pk_le (p e) e (fun z => ?_) (fun z => ?_) rfl rfl (by omega) (by omega)
    · refine nm_r (nI_1 e) ?_
      have : gj_cn (fun e => decide (e < p e)) (e + 1) = gj_cn (fun e => decide (e < p e)) e := by
        show gj_cn (fun e => decide (e < p e)) e + (if decide (e < p e) = true then 1 else 0) = _
        rw [decide_eq_false (by omega)]
        rfl
      rw [this] at ih1
      exact ih1
    · refine nm_r (nI_1 _) (nm_r (nI_1 e) ?_)
      have : gj_cn (fun e => decide (e < p e)) (e + 1) = gj_cn (fun e => decide (e < p e)) e + 1 := by
        show gj_cn (fun e => decide (e < p e)) e + (if decide (e < p e) = true then 1 else 0) = _
        rw [decide_eq_true z]
        rfl
      rw [this] at ih1
      exact ih1
theorem gy_count {post : Int32 → Prop} {u s n : Nat → Int32} {t : Nat} {p : Nat → Nat} (hp : gj_V p) (h : gj_yr u t p) (ht : t < 5) (H : post (nI (gj_jn p))) : wpY_count post (u, s, n) (nI t) := by
  unfold wpY_count
  exact ⟨9, gy_count_l hp h ht H 8 0 rfl⟩
/-- a joint between two loose ends -/
theorem gy_join {post : SY → Prop} {q s n : Nat → Int32} {t a b : Nat} {p : Nat → Nat} (h : gj_yr q t p) (ht : t < 5) (ha : a < 8) (hb : b < 8) (hab : a ≠ b) (za : p a = a) (zb : p b = b) (H : ∀ w, gj_yr w t (gj_mk p a b) → gj_eo t q w → post (w, s, n)) : wpY_link post (q, s, n) (nI t) (nI a) (nI b) := by
  refine gy_link ht ha hb (H _ ?_ ?_)
  · intro e he
    have k := h e he
    have w : ∀ x, (t * 8 + e = t * 8 + x) = (e = x) := fun x => by rw [Nat.add_left_cancel_iff]
    unfold upd
    simp only [w, k]
    unfold gj_mk
    grind
  · intro j hj
    rw [pk_un (by omega), pk_un (by omega)]
theorem gj_mk_rb {p : Nat → Nat} (I : ∀ e, p (p e) = e) {a b : Nat} (hab : a ≠ b) (za : p a = a) : gj_mk (gj_rm p b) a b = gj_mk p a b := by
  funext e
  have i1 := I b
  have i2 := I e
  unfold gj_mk gj_rm
  grind
theorem gj_mk_ra {p : Nat → Nat} (I : ∀ e, p (p e) = e) {a b : Nat} (hab : a ≠ b) (zb : p b = b) : gj_mk (gj_rm p a) a b = gj_mk p a b := by
  funext e
  have i1 := I a
  have i2 := I e
  unfold gj_mk gj_rm
  grind
theorem gy_exch {post : SY → Prop} {q s n : Nat → Int32} {t a b : Nat} {p : Nat → Nat} (hp : gj_V p) (h : gj_yr q t p) (ht : t < 5) (ha : a < 8) (hb : b < 8) (hab : a ≠ b) (hpa : p a ≠ b) (za : p a ≠ a) (zb : p b ≠ b) (H : ∀ w, gj_yr w t (gj_mk p a b) → gj_eo t q w → post (w, s, n)) : wpY_exchange post (q, s, n) (nI t) (nI a) (nI b) := by
  have l1 := gj_V_lt hp ha
  have l2 := gj_V_lt hp hb
  unfold wpY_exchange
  refine ⟨gj_yv ht ha, nm_r (e' := nI (p a)) (by rw [gj_yc ht ha, h a ha]) ⟨gj_yv ht hb, nm_r (e' := nI (p b)) (by rw [gj_yc ht hb, h b hb]) ?_⟩⟩
  refine gy_link ht ha hb ?_
  dsimp only
  refine gy_link ht l1 l2 ?_
  dsimp only
  refine H _ ?_ ?_
  · intro e he
    have i1 := hp.1 a
    have i2 := hp.1 b
    have i3 := hp.1 e
    have k := h e he
    have w : ∀ x, (t * 8 + e = t * 8 + x) = (e = x) := fun x => by rw [Nat.add_left_cancel_iff]
    unfold upd
    simp only [w, k]
    unfold gj_mk
    grind
  · intro j hj
    rw [pk_un (by omega), pk_un (by omega), pk_un (by omega), pk_un (by omega)]
theorem gy_make_28 {post : SY → Prop} {q s n : Nat → Int32} {t a b : Nat} {p : Nat → Nat} (hp : gj_V p) (h : gj_yr q t p) (ht : t < 5) (ha : a < 8) (hb : b < 8) (hab : a ≠ b) (hpa : p a ≠ b) (hn : ¬ (p a = a ∧ p b = b)) (H : ∀ w, gj_yr w t (gj_mk p a b) → gj_eo t q w → post (w, s, n)) : wY_make_28 post (nI t) (nI a) (nI b) q s n := by
  unfold wY_make_28
  refine gy_loose hp h ht ha (fun za => ?_) (fun za => ?_)
  · have zb : p b ≠ b := fun z => hn ⟨za, z⟩
    refine br_f (by decide) (gy_unlink hp h ht hb (fun w k1 k2 => ?_))
    dsimp only
    refine gy_join k1 ht ha hb hab ?_ (if_pos rfl) (fun w' k3 k4 => ?_)
    · unfold gj_rm
      rw [if_neg hab, if_neg (fun z => hab (by rw [z, hp.1] at za; exact (z.trans za.symm))), za]
    · dsimp only
      rw [gj_mk_rb hp.1 hab za] at k3
      exact H w' k3 (gj_eo_t k2 k4)
  · refine br_t rfl (gy_loose hp h ht hb (fun zb => ?_) (fun zb => ?_))
    · refine br_f (by decide) (gy_unlink hp h ht ha (fun w k1 k2 => ?_))
      dsimp only
      refine gy_join k1 ht ha hb hab (if_pos rfl) ?_ (fun w' k3 k4 => ?_)
      · unfold gj_rm
        rw [if_neg (fun z => hab z.symm), if_neg (fun z => hpa z.symm), zb]
      · dsimp only
        rw [gj_mk_ra hp.1 hab zb] at k3
        exact H w' k3 (gj_eo_t k2 k4)
    · refine br_t rfl (gy_exch hp h ht ha hb hab hpa za zb (fun w k1 k2 => ?_))
      dsimp only
      exact H w k1 k2
theorem gy_make {post : SY → Prop} {q s n : Nat → Int32} {t a b : Nat} {p : Nat → Nat} (hp : gj_V p) (h : gj_yr q t p) (ht : t < 5) (ha : a < 8) (hb : b < 8) (hab : a ≠ b) (hpa : p a ≠ b) (H : ∀ w, gj_yr w t (gj_mk p a b) → gj_eo t q w → post (w, s, n)) : wpY_make post (q, s, n) (nI t) (nI a) (nI b) := by
  unfold wpY_make
  dsimp only
  refine gy_loose hp h ht ha (fun za => ?_) (fun za => ?_)
  · refine br_f (by decide) (gy_loose hp h ht hb (fun zb => ?_) (fun zb => ?_))
    · refine br_f (by decide) (gy_join h ht ha hb hab za zb (fun w k1 k2 => ?_))
      dsimp only
      exact H w k1 k2
    · exact br_t rfl (gy_make_28 hp h ht ha hb hab hpa (fun z => zb z.2) H)
  · exact br_t rfl (gy_make_28 hp h ht ha hb hab hpa (fun z => za z.1) H)
theorem gj_l_y {p r : Nat → Nat} (hp : gj_V p) (hr : gj_V r) {e : Nat} (h : ∀ j, j < e → j < r j → p j = r j) : ∀ j, j < e → r j ≠ j → p j = r j := by
  intro j hj hne
  by_cases z : j < r j
  · exact h j hj z
  · have h1 := h (r j) (by omega) (by rw [hr.1]; omega)
    rw [hr.1] at h1
    have h2 := hp.1 (r j)
    rw [h1] at h2
    exact h2
theorem gj_l_eq {p r : Nat → Nat} {e : Nat} (h : ∀ j, j < e → r j ≠ j → p j = r j) (he : e < 8) (h1 : r e ≠ e) (h2 : p e ≠ r e) : gj_l p r = e := by
  rcases Nat.lt_trichotomy (gj_l p r) e with z | z | z
  · have h3 := gj_l_t (p := p) (r := r) (by omega)
    exact absurd (h _ z h3.1) h3.2
  · exact z
  · exact absurd (gj_l_b _ z h1) h2
theorem gj_l_none {p r : Nat → Nat} (h : ∀ j, j < 8 → r j ≠ j → p j = r j) : ¬ gj_l p r < 8 := fun z => (gj_l_t z).2 (h _ z (gj_l_t z).1)
theorem gy_go_61 {post : Int32 → SY → Prop} {q s n : Nat → Int32} {t g : Nat} {p r : Nat → Nat} (hp : gj_V p) (hr : gj_V r) (h : gj_yr q t p) (k : gj_yr q g r) (ht : t < 5) (hg : g < 5) (hl : ¬ gj_l p r < 8) (H0 : ¬ (gj_l p r < 8 ∨ gj_l r p < 8) → post 0 (q, s, n)) (H1 : (gj_l p r < 8 ∨ gj_l r p < 8) → ∀ w, gj_yr w t (gj_st p r) → gj_eo t q w → post 1 (w, s, n)) : ∀ d e, e + d = 8 → (∀ j, j < e → p j ≠ j → r j = p j) → wY_goNearer_61 post (nI t) (nI g) q s n (d + 1) (nI e) := by
  intro d
  induction d with
  | zero =>
    intro e he hi
    have : e = 8 := by omega
    subst this
    exact br_t (nI_le (a := 8) (by omega) (by omega)) (H0 (fun z => z.elim hl (gj_l_none hi)))
  | succ d ih =>
    intro e he hi
    refine br_f (nI_ge (b := 8) (by omega) (by omega)) (gy_loose hp h ht (by omega) (fun za => ?_) (fun za => ?_))
    · refine br_f (by decide) (nm_r (nI_1 e) (ih (e + 1) (by omega) (fun j hj hne => ?_)))
      by_cases z : j = e
      · rw [z] at hne; exact absurd za hne
      · exact hi j (by omega) hne
    · refine br_t rfl (gy_loose hr k hg (by omega) (fun zb => ?_) (fun zb => ?_))
      · have hle : gj_l r p = e := gj_l_eq hi (by omega) za (fun z => za (by rw [← z]; exact zb))
        refine br_f (by decide) (gy_unlink hp h ht (by omega) (fun w k1 k2 => ?_))
        dsimp only
        refine H1 (Or.inr (by omega)) w ?_ k2
        rw [gj_st_rm hl (by omega), hle]
        exact k1
      · refine br_t rfl (nm_r (nI_1 e) (ih (e + 1) (by omega) (fun j hj hne => ?_)))
        by_cases z : j = e
        · rw [z]; exact (gj_l_f hr hl e zb).symm
        · exact hi j (by omega) hne
theorem gy_go_2 {post : Int32 → SY → Prop} {q s n : Nat → Int32} {t g : Nat} {p r : Nat → Nat} (hp : gj_V p) (hr : gj_V r) (h : gj_yr q t p) (k : gj_yr q g r) (ht : t < 5) (hg : g < 5) (H0 : ¬ (gj_l p r < 8 ∨ gj_l r p < 8) → post 0 (q, s, n)) (H1 : (gj_l p r < 8 ∨ gj_l r p < 8) → ∀ w, gj_yr w t (gj_st p r) → gj_eo t q w → post 1 (w, s, n)) : ∀ d e, e + d = 8 → (∀ j, j < e → j < r j → p j = r j) → wY_goNearer_2 post (nI t) (nI g) q s n (d + 1) (nI e) := by
  intro d
  induction d with
  | zero =>
    intro e he hi
    have : e = 8 := by omega
    subst this
    exact br_t (nI_le (a := 8) (by omega) (by omega)) ⟨9, gy_go_61 hp hr h k ht hg (gj_l_none (gj_l_y hp hr hi)) H0 H1 8 0 rfl (fun j hj => absurd hj (by omega))⟩
  | succ d ih =>
    intro e he hi
    have lp := gj_V_lt hp (e := e) (by omega)
    have lr := gj_V_lt hr (e := e) (by omega)
    refine br_f (nI_ge (b := 8) (by omega) (by omega)) ⟨gj_yv hg (by omega), nm_r (e' := nI (r e)) (by rw [gj_yc hg (by omega), k e (by omega)]) ?_⟩
    refine pk_le (r e) e (fun z => ?_) (fun z => ?_) rfl rfl (by omega) (by omega)
    · refine nm_r (nI_1 e) (ih (e + 1) (by omega) (fun j hj hne => ?_))
      by_cases y : j = e
      · rw [y] at hne; omega
      · exact hi j (by omega) hne
    · refine ⟨gj_yv ht (by omega), ?_⟩
      rw [gj_yc ht (by omega), h e (by omega)]
      refine pk_eq (p e) (r e) (fun y => ?_) (fun y => ?_) rfl rfl (by omega) (by omega)
      · refine nm_r (nI_1 e) (ih (e + 1) (by omega) (fun j hj hne => ?_))
        by_cases x : j = e
        · rw [x]; exact y
        · exact hi j (by omega) hne
      · have hle : gj_l p r = e := gj_l_eq (gj_l_y hp hr hi) (by omega) (by omega) y
        refine gy_make hp h ht (by omega) lr (by omega) y (fun w k1 k2 => ?_)
        dsimp only
        refine H1 (Or.inl (by omega)) w ?_ k2
        rw [gj_st_mk (by omega), hle]
        exact k1
theorem gy_go {post : Int32 → SY → Prop} {q s n : Nat → Int32} {t g : Nat} {p r : Nat → Nat} (hp : gj_V p) (hr : gj_V r) (h : gj_yr q t p) (k : gj_yr q g r) (ht : t < 5) (hg : g < 5) (H0 : ¬ (gj_l p r < 8 ∨ gj_l r p < 8) → post 0 (q, s, n)) (H1 : (gj_l p r < 8 ∨ gj_l r p < 8) → ∀ w, gj_yr w t (gj_st p r) → gj_eo t q w → post 1 (w, s, n)) : wpY_goNearer post (q, s, n) (nI t) (nI g) := by
  unfold wpY_goNearer
  exact ⟨9, gy_go_2 hp hr h k ht hg H0 H1 8 0 rfl (fun j hj => absurd hj (by omega))⟩
theorem gy_way_l {post : Int32 → SY → Prop} {u s n : Nat → Int32} {g m : Nat} {r : Nat → Nat} (hr : gj_V r) (k : gj_yr u g r) (hg : g < 5) (hg3 : g ≠ 3) (H : ∀ w, gj_eo 3 u w → post (nI m) (w, s, n)) : ∀ d q w c, gj_V q → gj_yr w 3 q → gj_eo 3 u w → gj_D q r = d → c + d = m → wY_way_8 post (nI g) (d + 1) (nI c) w s n := by
  intro d
  induction d with
  | zero =>
    intro q w c hq h1 h2 h3 h4
    have hc : c = m := by omega
    subst hc
    have hn : ¬ (gj_l q r < 8 ∨ gj_l r q < 8) := fun z => by rw [gj_D_s hq hr z] at h3; omega
    unfold wY_way_8
    exact gy_go (t := 3) hq hr h1 (gj_yr_eo k h2 hg3) (by omega) hg (fun _ => br_t rfl (H w h2)) (fun z => absurd z hn)
  | succ d ih =>
    intro q w c hq h1 h2 h3 h4
    have hy : gj_l q r < 8 ∨ gj_l r q < 8 := by
      by_cases z : gj_l q r < 8 ∨ gj_l r q < 8
      · exact z
      · rw [gj_ne_l hq hr z, gj_D_self] at h3; omega
    unfold wY_way_8
    refine gy_go (t := 3) hq hr h1 (gj_yr_eo k h2 hg3) (by omega) hg (fun z => absurd hy z) (fun _ w' k1 k2 => ?_)
    dsimp only
    refine br_f (by decide) (nm_r (nI_1 c) ?_)
    refine ih _ w' (c + 1) (gj_st_V hq hr) k1 (gj_eo_t h2 k2) ?_ (by omega)
    have := gj_D_s hq hr hy
    omega
theorem gy_way {post : Int32 → SY → Prop} {u s n : Nat → Int32} {f g : Nat} {p r : Nat → Nat} (hp : gj_V p) (hr : gj_V r) (h : gj_yr u f p) (k : gj_yr u g r) (hf : f < 5) (hg : g < 5) (hg3 : g ≠ 3) (H : ∀ w, gj_eo 3 u w → post (nI (gj_D p r)) (w, s, n)) : wpY_way post (u, s, n) (nI f) (nI g) := by
  unfold wpY_way
  dsimp only
  refine gy_copy (t := 3) (by omega) hf h (fun w h1 h2 => ?_)
  dsimp only
  exact ⟨_, gy_way_l hr k hg hg3 H (gj_D p r) p w 0 hp h2 h1 rfl (by omega)⟩
end
section
theorem gj_in9_v {x : Int32} (h : gj_in9 x = true) : vp_in x 9 := by
  unfold gj_in9 at h
  rw [Bool.and_eq_true] at h
  have h1 : ¬ x < 0 := Int32.not_lt.mpr (of_decide_eq_true h.1)
  obtain ⟨j, hj, rfl⟩ := nI_of h1
  have h2 : nI j < nI 9 := of_decide_eq_true h.2
  rw [nI_ltI hj (by omega)] at h2
  exact vp_in_nI h2 (by omega)
/-- the reference's table of numbers -/
def gj_nq (n : Nat → Int32) : Prop := ∀ i, i < 9 → n i = gj_nt i
theorem gj_nq_v {n : Nat → Int32} (h : gj_nq n) {x : Int32} (hx : vp_in x 9) : n x.toNatClampNeg = gj_nt x.toNatClampNeg := by
  obtain ⟨j, hj, rfl⟩ := vp_in_of hx (by omega)
  rw [nI_clamp (by omega)]
  exact h j hj
theorem gy_bits_l {post : Int32 → Prop} {q s n : Nat → Int32} {x : Int32} : ∀ k c e, e + k = 8 → post (gj_bt k x c e) → wY_bits_4 post x q s n (k + 1) c (nI e) := by
  intro k
  induction k with
  | zero =>
    intro c e he H
    have : e = 8 := by omega
    subst this
    exact br_t (nI_le (a := 8) (by omega) (by omega)) H
  | succ k ih =>
    intro c e he H
    exact br_f (nI_ge (b := 8) (by omega) (by omega)) (nm_e (nm_r (nI_1 e) (ih _ (e + 1) (by omega) H)))
theorem gy_bits {post : Int32 → Prop} {q s n : Nat → Int32} {x : Int32} (H : post (gj_bt 8 x 0 0)) : wpY_bits post (q, s, n) x := by
  unfold wpY_bits
  exact ⟨9, gy_bits_l 8 0 0 rfl H⟩
theorem gy_no_l {post : Int32 → Prop} {q s n : Nat → Int32} {p : Nat → Nat} {res : Int32} (hp : gj_V p) (h : gj_yr q 4 p) (hn : gj_nq n) (H : post res) : ∀ k e x1 x2 x3, e + k = 8 → gj_no p k x1 x2 x3 e = some res → wY_numberOf_12 post q s n (k + 1) x1 x2 x3 (nI e) := by
  intro k
  induction k with
  | zero =>
    intro e x1 x2 x3 he hs
    have : e = 8 := by omega
    subst this
    have hs2 : some x1 = some res := hs
    rw [Option.some.inj hs2]
    exact br_t (nI_le (a := 8) (by omega) (by omega)) H
  | succ k ih =>
    intro e x1 x2 x3 he hs
    have l1 := gj_V_lt hp (e := e) (by omega)
    unfold gj_no at hs
    refine br_f (nI_ge (b := 8) (by omega) (by omega)) ⟨gj_yv4 (by omega), nm_r (e' := nI (p e)) (by rw [gj_yc4 (by omega), h e (by omega)]) (nm_e ?_)⟩
    by_cases z : p e ≤ e
    · rw [if_pos z] at hs
      by_cases y : p e = e
      · rw [if_pos y] at hs
        refine br_t (by rw [y]) (nm_e ?_)
        unfold wY_numberOf_50
        exact br_t (nI_le z (by omega)) (nm_r (nI_1 e) (ih (e + 1) _ _ _ (by omega) hs))
      · rw [if_neg y] at hs
        refine br_f (fun x => y ((nI_eq (by omega) (by omega)).mp x)) ?_
        unfold wY_numberOf_50
        exact br_t (nI_le z (by omega)) (nm_r (nI_1 e) (ih (e + 1) _ _ _ (by omega) hs))
    · rw [if_neg z] at hs
      by_cases c : (gj_in9 (x3 - 1) && gj_in9 (x3 - 2)) = true
      · rw [if_pos c] at hs
        rw [Bool.and_eq_true] at c
        have v1 := gj_in9_v c.1
        have v2 := gj_in9_v c.2
        refine br_f (fun x => z (by rw [(nI_eq (by omega) (by omega)).mp x]; exact Nat.le_refl _)) ?_
        unfold wY_numberOf_50
        refine br_f (nI_ge (by omega) (by omega)) (nm_e ⟨v1, gy_bits ⟨v2, nm_e (nm_e (nm_e (nm_r (nI_1 e) ?_)))⟩⟩)
        rw [gj_nq_v hn v1, gj_nq_v hn v2]
        exact ih (e + 1) _ _ _ (by omega) hs
      · rw [if_neg c] at hs
        exact absurd hs (by simp)
theorem gy_no {post : Int32 → Prop} {q s n : Nat → Int32} {i : Nat} (hi : i < 764) (h : gj_yr q 4 (gj_S i)) (hn : gj_nq n) (H : post (nI i)) : wpY_numberOf post (q, s, n) := by
  unfold wpY_numberOf
  exact ⟨9, gy_no_l (gj_S_V hi) h hn H 8 0 0 255 8 rfl (gj_no_S hi)⟩
theorem gy_ba_l {post : Int32 → Prop} {q s n : Nat → Int32} {x : Int32} : ∀ k l e, e + k = 8 → post (gj_ba k x l e) → wY_bitAt_5 post x q s n (k + 1) l (nI e) := by
  intro k
  induction k with
  | zero =>
    intro l e he H
    have : e = 8 := by omega
    subst this
    exact br_t (nI_le (a := 8) (by omega) (by omega)) H
  | succ k ih =>
    intro l e he H
    unfold gj_ba at H
    refine br_f (nI_ge (b := 8) (by omega) (by omega)) ?_
    by_cases z : (x >>> (nI e &&& 31)) &&& 1 = 1
    · rw [if_pos z] at H
      by_cases y : l = 0
      · rw [if_pos y] at H
        exact br_t z (br_t y H)
      · rw [if_neg y] at H
        exact br_t z (br_f y (nm_e (nm_r (nI_1 e) (ih _ (e + 1) (by omega) H))))
    · rw [if_neg z] at H
      exact br_f z (nm_r (nI_1 e) (ih _ (e + 1) (by omega) H))
theorem gy_ba {post : Int32 → Prop} {q s n : Nat → Int32} {x l : Int32} (H : post (gj_ba 8 x l 0)) : wpY_bitAt post (q, s, n) x l := by
  unfold wpY_bitAt
  exact ⟨9, gy_ba_l 8 l 0 rfl H⟩
theorem gj_ba_r {x : Int32} : ∀ k l e, e + k = 8 → ∃ c, c < 8 ∧ gj_ba k x l e = nI c := by
  intro k
  induction k with
  | zero => intro l e he; exact ⟨0, by omega, rfl⟩
  | succ k ih =>
    intro l e he
    unfold gj_ba
    split
    · split
      · exact ⟨e, by omega, rfl⟩
      · exact ih _ (e + 1) (by omega)
    · exact ih _ (e + 1) (by omega)
theorem gy_sn_l {post : SY → Prop} {u s n : Nat → Int32} {res : Nat → Nat} (hn : gj_nq n) (H : ∀ w, gj_yr w 4 res → gj_eo 4 u w → post (w, s, n)) : ∀ k e x2 x3 x4 p w, e + k = 8 → gj_sn k x2 x3 x4 e p = some res → gj_yr w 4 p → gj_eo 4 u w → wY_setNumber_41 post (k + 1) x2 x3 x4 (nI e) w s n := by
  intro k
  induction k with
  | zero =>
    intro e x2 x3 x4 p w he hs h1 h2
    have : e = 8 := by omega
    subst this
    have hs2 : some p = some res := hs
    rw [Option.some.inj hs2] at h1
    exact br_t (nI_le (a := 8) (by omega) (by omega)) (H w h1 h2)
  | succ k ih =>
    intro e x2 x3 x4 p w he hs h1 h2
    unfold gj_sn at hs
    refine br_f (nI_ge (b := 8) (by omega) (by omega)) ?_
    by_cases z : (x3 >>> (nI e &&& 31)) &&& 1 = 1
    · rw [if_pos z] at hs
      by_cases y : gj_in9 (x4 - 1) = true
      · rw [if_pos y] at hs
        have v1 := gj_in9_v y
        refine br_t z (nm_e ⟨v1, nm_r (gj_nq_v hn v1) ?_⟩)
        by_cases c : gj_nt (x4 - 1).toNatClampNeg ≤ x2
        · rw [if_pos c] at hs
          by_cases d : (gj_in9 (x4 - 2) && decide (gj_nt (x4 - 2).toNatClampNeg ≠ 0)) = true
          · rw [if_pos d] at hs
            rw [Bool.and_eq_true] at d
            have v2 := gj_in9_v d.1
            have d2 : ¬ gj_nt (x4 - 2).toNatClampNeg = 0 := of_decide_eq_true d.2
            refine br_t c (nm_e ⟨v2, ?_⟩)
            rw [gj_nq_v hn v2]
            refine ⟨d2, gy_ba ⟨v2, d2, nm_e ?_⟩⟩
            obtain ⟨b, hb, eb⟩ := gj_ba_r (x := x3 &&& (((1 : Int32) <<< (nI e &&& 31)) ^^^ (-1))) 8 ((x2 - gj_nt (x4 - 1).toNatClampNeg) / gj_nt (x4 - 2).toNatClampNeg) 0 rfl
            rw [eb, nI_clamp (by omega)] at hs
            rw [eb]
            refine gy_link (t := 4) (by omega) (by omega) hb ?_
            dsimp only
            refine nm_e (nm_e (nm_r (nI_1 e) (ih (e + 1) _ _ _ _ _ (by omega) hs ?_ ?_)))
            · intro f hf
              have kf := h1 f hf
              have ww : ∀ x, (4 * 8 + f = 4 * 8 + x) = (f = x) := fun x => by rw [Nat.add_left_cancel_iff]
              unfold upd gj_ln
              simp only [ww, kf]
              grind
            · intro j hj
              rw [pk_un (by omega), pk_un (by omega)]
              exact h2 j hj
          · rw [if_neg d] at hs
            exact absurd hs (by simp)
        · rw [if_neg c] at hs
          exact br_f c (nm_e (nm_r (nI_1 e) (ih (e + 1) _ _ _ _ _ (by omega) hs h1 h2)))
      · rw [if_neg y] at hs
        exact absurd hs (by simp)
    · rw [if_neg z] at hs
      exact br_f z (nm_r (nI_1 e) (ih (e + 1) _ _ _ _ _ (by omega) hs h1 h2))
theorem gy_sn_13 {post : SY → Prop} {u s n : Nat → Int32} {x2 x3 x4 : Int32} (H : ∀ w, gj_yr w 4 (fun e => e) → gj_eo 4 u w → wY_setNumber_41 post 9 x2 x3 x4 0 w s n) : ∀ k e w, e + k = 8 → (∀ i, i < e → w (4 * 8 + i) = nI i) → gj_eo 4 u w → wY_setNumber_13 post x2 x3 x4 (k + 1) (nI e) w s n := by
  intro k
  induction k with
  | zero =>
    intro e w he h1 h2
    have : e = 8 := by omega
    subst this
    exact br_t (nI_le (a := 8) (by omega) (by omega)) ⟨9, H w h1 h2⟩
  | succ k ih =>
    intro e w he h1 h2
    refine br_f (nI_ge (b := 8) (by omega) (by omega)) ⟨gj_yv4 (by omega), nm_r (by rw [gj_yc4 (by omega)]) (nm_r (nI_1 e) (ih (e + 1) _ (by omega) (fun i hi => ?_) (fun j hj => ?_)))⟩
    · by_cases z : i = e
      · rw [z, pk_us]
      · rw [pk_un (by omega)]; exact h1 i (by omega)
    · rw [pk_un (by omega)]
      exact h2 j hj
theorem gy_sn {post : SY → Prop} {u s n : Nat → Int32} {i : Nat} (hi : i < 764) (hn : gj_nq n) (H : ∀ w, gj_yr w 4 (gj_S i) → gj_eo 4 u w → post (w, s, n)) : wpY_setNumber post (u, s, n) (nI i) := by
  obtain ⟨q, hq, hS⟩ := gj_sn_S hi
  unfold wpY_setNumber
  refine ⟨9, gy_sn_13 (u := u) (fun w h1 h2 => ?_) 8 0 u rfl (fun i hi => absurd hi (by omega)) gj_eo_r⟩
  exact gy_sn_l (u := u) hn (fun w' k1 k2 => H w' (fun e he => by rw [k1 e he, hS e he]) k2) 8 0 _ _ _ _ w rfl hq h1 h2
/-- the constructors -/
def gj_lst (m : Nat) (w : Nat → Int32) : Prop := (∀ j, j < 24 → w j = -1) ∧ ∀ j, j < m → gj_xr w (4 + j) (gj_T j)
theorem gx_list_r {post : SX → Prop} {J4 J14 : Int32 → Int32 → (Nat → Int32) → Prop} {a b L res : Nat} (ha : a < 8) (hb : b < 8) (hab : a ≠ b) (hL : L ≤ 764) (H : ∀ w, res ≤ 764 → L ≤ res → gj_lst res w → J14 (nI (4 + res)) (nI (b + 1)) w) : ∀ k row m w, row + k = L → L ≤ m → m ≤ 764 → gj_sr a b k row m = some res → gj_lst m w → wX_listAllGenomes_26 post J4 J14 (nI a) (nI b) (nI (4 + L)) (k + 1) (nI (4 + m)) (nI (4 + row)) w := by
  intro k
  induction k with
  | zero =>
    intro row m w hr hm h7 hs hw
    have hs2 : some m = some res := hs
    have e := Option.some.inj hs2
    subst e
    have : row = L := by omega
    subst this
    exact br_t (nI_le (by omega) (by omega)) (nm_r (nI_1 b) (H w h7 hm hw))
  | succ k ih =>
    intro row m w hr hm h7 hs hw
    unfold gj_sr at hs
    have hV := gj_T_V (j := row) (by omega)
    have hx := hw.2 row (by omega)
    refine br_f (nI_ge (by omega) (by omega)) ?_
    by_cases h8 : m < 764
    · refine br_f (nI_ge (b := 768) (by omega) (by omega)) (gx_loose hV hx (by omega) ha (fun za => ?_) (fun za => ?_))
      · refine br_f (by decide) (gx_loose hV hx (by omega) hb (fun zb => ?_) (fun zb => ?_))
        · have c : (Nat.blt m 764 && Nat.beq (gj_T row a) a && Nat.beq (gj_T row b) b) = true := by
            rw [za, zb]
            simp [Nat.blt, h8]
            omega
          rw [if_pos c] at hs
          by_cases d : gj_eq (gj_mk (gj_T row) a b) (gj_T m) = true
          · rw [if_pos d] at hs
            have hmV := gj_mk_V hV ha hb hab (by rw [za]; exact hab)
            have e := gj_eq_i d hmV.2 (gj_T_8 m)
            refine br_f (by decide) (gx_copyr (by omega) (by omega) hx (fun w1 k1 k2 => ?_))
            refine gx_make hV k2 (by omega) ha hb hab (by rw [za]; exact hab) (fun w2 k3 k4 => ?_)
            refine nm_r (nI_1 (4 + m)) (nm_r (nI_1 (4 + row)) ?_)
            have k5 := gj_eo_t k1 k4
            refine ih (row + 1) (m + 1) w2 (by omega) (by omega) (by omega) hs ⟨fun j hj => ?_, fun j hj => ?_⟩
            · rw [k5 j (by omega)]
              exact hw.1 j hj
            · by_cases z : j = m
              · rw [z, ← e]; exact k3
              · exact gj_xr_eo (hw.2 j (by omega)) k5 (by omega)
          · rw [if_neg d] at hs
            exact absurd hs (by simp)
        · have c : ¬ (Nat.blt m 764 && Nat.beq (gj_T row a) a && Nat.beq (gj_T row b) b) = true := by
            rw [Bool.and_eq_true]
            exact fun z => zb (Nat.eq_of_beq_eq_true z.2)
          rw [if_neg c] at hs
          exact br_t rfl (nm_r (nI_1 (4 + row)) (ih (row + 1) m w (by omega) hm h7 hs hw))
      · have c : ¬ (Nat.blt m 764 && Nat.beq (gj_T row a) a && Nat.beq (gj_T row b) b) = true := by
          rw [Bool.and_eq_true, Bool.and_eq_true]
          exact fun z => za (Nat.eq_of_beq_eq_true z.1.2)
        rw [if_neg c] at hs
        exact br_t rfl (nm_r (nI_1 (4 + row)) (ih (row + 1) m w (by omega) hm h7 hs hw))
    · have c : ¬ (Nat.blt m 764 && Nat.beq (gj_T row a) a && Nat.beq (gj_T row b) b) = true := by
        rw [Bool.and_eq_true, Bool.and_eq_true]
        exact fun z => h8 (Nat.le_of_ble_eq_true z.1.1)
      rw [if_neg c] at hs
      exact br_t (nI_le (a := 768) (by omega) (by omega)) (nm_r (nI_1 (4 + row)) (ih (row + 1) m w (by omega) hm h7 hs hw))
theorem gx_list_b {post : SX → Prop} {J4 : Int32 → Int32 → (Nat → Int32) → Prop} {a res : Nat} (ha : a < 8) (H : ∀ w, res ≤ 764 → gj_lst res w → J4 (nI (4 + res)) (nI (a + 1)) w) : ∀ k b m w, b + k = 8 → a < b → m ≤ 764 → gj_sb a k b m = some res → gj_lst m w → wX_listAllGenomes_14 post J4 (nI a) (k + 1) (nI (4 + m)) (nI b) w := by
  intro k
  induction k with
  | zero =>
    intro b m w hb hab h7 hs hw
    have : b = 8 := by omega
    subst this
    have hs2 : some m = some res := hs
    have e := Option.some.inj hs2
    subst e
    exact br_t (nI_le (a := 8) (by omega) (by omega)) (nm_r (nI_1 a) (H w h7 hw))
  | succ k ih =>
    intro b m w hb hab h7 hs hw
    unfold gj_sb at hs
    split at hs
    · rename_i m' hm'
      refine br_f (nI_ge (b := 8) (by omega) (by omega)) ⟨m + 1, ?_⟩
      refine gx_list_r (L := m) (res := m') ha (by omega) (by omega) h7 (fun w' g1 g2 g3 => ?_) m 0 m w (by omega) (Nat.le_refl _) h7 hm' hw
      exact ih (b + 1) m' w' (by omega) (by omega) g1 hs g3
    · exact absurd hs (by simp)
theorem gx_list_a {post : SX → Prop} {res : Nat} (H : ∀ w, gj_lst res w → post w) : ∀ k a m w, a + k = 8 → m ≤ 764 → gj_sa k a m = some res → gj_lst m w → wX_listAllGenomes_4 post (k + 1) (nI (4 + m)) (nI a) w := by
  intro k
  induction k with
  | zero =>
    intro a m w ha h7 hs hw
    have : a = 8 := by omega
    subst this
    have hs2 : some m = some res := hs
    have e := Option.some.inj hs2
    subst e
    exact br_t (nI_le (a := 8) (by omega) (by omega)) (H w hw)
  | succ k ih =>
    intro a m w ha h7 hs hw
    unfold gj_sa at hs
    split at hs
    · rename_i m' hm'
      refine br_f (nI_ge (b := 8) (by omega) (by omega)) (nm_r (nI_1 a) ⟨7 - a + 1, ?_⟩)
      refine gx_list_b (res := m') (by omega) (fun w' g1 g3 => ?_) (7 - a) (a + 1) m w (by omega) (by omega) h7 hm' hw
      exact ih (a + 1) m' w' (by omega) g1 hs g3
    · exact absurd hs (by simp)
theorem gx_list {post : SX → Prop} {w : Nat → Int32} (hw : ∀ j, j < 6144 → w j = -1) (H : ∀ w, gj_lst 764 w → post w) : wpX_listAllGenomes post w := by
  unfold wpX_listAllGenomes
  refine ⟨9, gx_list_a (res := 764) H 8 0 1 w rfl (by omega) gj_sa_764 ⟨fun j hj => hw j (by omega), fun j hj e he => ?_⟩⟩
  have : j = 0 := by omega
  subst this
  rw [gj_T0, hw _ (by omega)]
  exact (gj_cx_p rfl).symm
theorem gx_init_l {post : SX → Prop} (H : ∀ w, gj_lst 764 w → post w) : ∀ k e w, e + k = 6144 → (∀ j, j < e → w j = -1) → wX_init_15 post (k + 1) (nI e) w := by
  intro k
  induction k with
  | zero =>
    intro e w he hw
    have : e = 6144 := by omega
    subst this
    exact br_t (nI_le (a := 6144) (by omega) (by omega)) (gx_list hw H)
  | succ k ih =>
    intro e w he hw
    refine br_f (nI_ge (b := 6144) (by omega) (by omega)) ⟨vp_in_nI (by omega) (by omega), nm_r (by rw [nI_clamp (by omega)]) (nm_r (nI_1 e) (ih (e + 1) _ (by omega) (fun j hj => ?_)))⟩
    by_cases z : j = e
    · rw [z, pk_us]
    · rw [pk_un z]; exact hw j (by omega)
theorem gx_init {post : SX → Prop} (H : ∀ w, gj_lst 764 w → post w) : wpX_init post := by
  unfold wpX_init
  exact ⟨6145, gx_init_l H 6144 0 _ rfl (fun j hj => absurd hj (by omega))⟩
end
section
/-- one look of the growing set of genes at an end -/
def gj_ts (p : Nat → Nat) (n a : Nat) : Nat := if n.testBit (a / 2) = true then n ||| (1 <<< (p a / 2)) else n
def gj_ty (p : Nat → Nat) : Nat → Nat → Nat → Nat
  | 0, n, _ => n
  | k + 1, n, i => gj_ty p k (gj_ts p n (i % 8)) (i + 1)
def gj_tz (p : Nat → Nat) (g : Nat) : Nat := gj_ty p 32 (2 ^ g) 0
theorem gj_b1 : ∀ n, n < 16 → ∀ a, a < 8 → (((nI n >>> ((nI a / 2) &&& 31)) &&& 1 = 1) ↔ n.testBit (a / 2) = true) := by decide +kernel
theorem gj_b2 : ∀ n, n < 16 → ∀ a, a < 8 → nI n ||| ((1 : Int32) <<< ((nI a / 2) &&& 31)) = nI (n ||| (1 <<< (a / 2))) := by decide +kernel
theorem gj_b3 : ∀ n, n < 16 → ∀ a, a < 8 → n ||| (1 <<< (a / 2)) < 16 := by decide +kernel
theorem gj_b4 : ∀ n, n < 16 → ∀ a, a < 8 → n.testBit (a / 2) = true → n ||| (1 <<< (a / 2)) = n := by decide +kernel
theorem gj_b5 : ∀ g, g < 4 → (1 : Int32) <<< (nI g &&& 31) = nI (2 ^ g) := by decide +kernel
theorem gj_b6 : ∀ g, g < 4 → 2 ^ g < 16 := by decide +kernel
theorem gx_gene {post : Int32 → Prop} {n a : Nat} (hn : n < 16) (ha : a < 8) (h1 : n.testBit (a / 2) = true → post 1) (h0 : ¬ n.testBit (a / 2) = true → post 0) : wpX_isGeneOfEndIn post (nI a) (nI n) := by
  unfold wpX_isGeneOfEndIn
  refine ⟨by decide, br_c (fun z => h1 ((gj_b1 n hn a ha).mp z)) (fun z => h0 (fun y => z ((gj_b1 n hn a ha).mpr y)))⟩
theorem gx_ga_16 {post : Int32 → Prop} {J7 : Int32 → Int32 → Prop} {u : Nat → Int32} {t pass res : Nat} {p : Nat → Nat} (hp : gj_V p) (h : gj_xr u t p) (ht : t < 768) (hpass : pass < 4) (hJ : ∀ n, n < 16 → gj_ty p (8 * (3 - pass)) n (8 * pass + 8) = res → J7 (nI n) (nI (pass + 1))) : ∀ d a n, a + d = 8 → n < 16 → gj_ty p (8 * (3 - pass) + d) n (8 * pass + a) = res → wX_genesAround_16 post J7 (nI t) (nI pass) u (d + 1) (nI n) (nI a) := by
  intro d
  induction d with
  | zero =>
    intro a n ha hn hs
    have : a = 8 := by omega
    subst this
    exact br_t (nI_le (a := 8) (by omega) (by omega)) (nm_r (nI_1 pass) (hJ n hn hs))
  | succ d ih =>
    intro a n ha hn hs
    have l1 := gj_V_lt hp (e := a) (by omega)
    have hs2 : gj_ty p (8 * (3 - pass) + d) (gj_ts p n ((8 * pass + a) % 8)) (8 * pass + a + 1) = res := hs
    rw [show (8 * pass + a) % 8 = a from by omega] at hs2
    refine br_f (nI_ge (b := 8) (by omega) (by omega)) ⟨gj_xv ht (by omega), nm_r (e' := gj_cx (p a) a) (by rw [gj_xc ht (by omega), h a (by omega)]) ?_⟩
    by_cases z : p a = a
    · rw [gj_cx_p z]
      have e : gj_ts p n a = n := by
        unfold gj_ts
        rw [z]
        split
        · rename_i y
          exact gj_b4 n hn a (by omega) y
        · rfl
      rw [e] at hs2
      exact br_t rfl (nm_r (nI_1 a) (ih (a + 1) n (by omega) hn hs2))
    · rw [gj_cx_n z]
      refine br_f (gj_nm (by omega)) (gx_gene hn (by omega) (fun y => ?_) (fun y => ?_))
      · unfold gj_ts at hs2
        rw [if_pos y] at hs2
        exact br_f (by decide) ⟨by decide, nm_r (gj_b2 n hn (p a) l1) (nm_r (nI_1 a) (ih (a + 1) _ (by omega) (gj_b3 n hn (p a) l1) hs2))⟩
      · unfold gj_ts at hs2
        rw [if_neg y] at hs2
        exact br_t rfl (nm_r (nI_1 a) (ih (a + 1) n (by omega) hn hs2))
theorem gx_ga_7 {post : Int32 → Prop} {u : Nat → Int32} {t res : Nat} {p : Nat → Nat} (hp : gj_V p) (h : gj_xr u t p) (ht : t < 768) (H : res < 16 → post (nI res)) : ∀ d pass n, pass + d = 4 → n < 16 → gj_ty p (8 * d) n (8 * pass) = res → wX_genesAround_7 post (nI t) u (d + 1) (nI n) (nI pass) := by
  intro d
  induction d with
  | zero =>
    intro pass n hd hn hs
    have : pass = 4 := by omega
    subst this
    have e : n = res := hs
    subst e
    exact br_t (nI_le (a := 4) (by omega) (by omega)) (H hn)
  | succ d ih =>
    intro pass n hd hn hs
    refine br_f (nI_ge (b := 4) (by omega) (by omega)) ⟨9, gx_ga_16 (res := res) hp h ht (by omega) (fun n' hn' hs' => ?_) 8 0 n rfl hn ?_⟩
    · refine ih (pass + 1) n' (by omega) hn' ?_
      rw [show 8 * d = 8 * (3 - pass) from by omega]
      exact hs'
    · rw [show 8 * (3 - pass) + 8 = 8 * (d + 1) from by omega]
      exact hs
theorem gx_ga {post : Int32 → Prop} {u : Nat → Int32} {t g : Nat} {p : Nat → Nat} (hp : gj_V p) (h : gj_xr u t p) (ht : t < 768) (hg : g < 4) (H : gj_tz p g < 16 → post (nI (gj_tz p g))) : wpX_genesAround post u (nI t) (nI g) := by
  unfold wpX_genesAround
  exact nm_r (gj_b5 g hg) ⟨5, gx_ga_7 hp h ht H 4 0 _ rfl (gj_b6 g hg) rfl⟩
theorem gy_to_l {post : Int32 → Prop} {q s m : Nat → Int32} {t res : Nat} {p : Nat → Nat} (hp : gj_V p) (h : gj_yr q t p) (ht : t < 5) (H : post (nI res)) : ∀ k i n, i + k = 32 → n < 16 → gj_ty p k n i = res → wY_together_7 post (nI t) q s m (k + 1) (nI n) (nI i) := by
  intro k
  induction k with
  | zero =>
    intro i n hi hn hs
    have : i = 32 := by omega
    subst this
    have e : n = res := hs
    subst e
    exact br_t (nI_le (a := 32) (by omega) (by omega)) H
  | succ k ih =>
    intro i n hi hn hs
    have ha : i % 8 < 8 := Nat.mod_lt _ (by omega)
    have l1 := gj_V_lt hp ha
    have hs2 : gj_ty p k (gj_ts p n (i % 8)) (i + 1) = res := hs
    have e8 : nI i - nI i / 8 * 8 = nI (i % 8) := pk_rem (a := i) (d := 8) (by omega) (by omega) (by omega)
    refine br_f (nI_ge (b := 32) (by omega) (by omega)) ⟨by decide, nm_r e8 ⟨gj_yv ht ha, nm_r (e' := nI (p (i % 8))) (by rw [gj_yc ht ha, h _ ha]) ⟨by decide, ?_⟩⟩⟩
    unfold gj_ts at hs2
    by_cases z : n.testBit ((i % 8) / 2) = true
    · rw [if_pos z] at hs2
      exact br_t ((gj_b1 n hn _ ha).mpr z) ⟨by decide, nm_r (gj_b2 n hn _ l1) (nm_r (nI_1 i) (ih (i + 1) _ (by omega) (gj_b3 n hn _ l1) hs2))⟩
    · rw [if_neg z] at hs2
      exact br_f (fun y => z ((gj_b1 n hn _ ha).mp y)) (nm_r (nI_1 i) (ih (i + 1) n (by omega) hn hs2))
theorem gy_to {post : Int32 → Prop} {q s m : Nat → Int32} {t g : Nat} {p : Nat → Nat} (hp : gj_V p) (h : gj_yr q t p) (ht : t < 5) (hg : g < 4) (H : post (nI (gj_tz p g))) : wpY_together post (q, s, m) (nI t) (nI g) := by
  unfold wpY_together
  exact nm_r (gj_b5 g hg) ⟨33, gy_to_l hp h ht H 32 0 _ rfl (gj_b6 g hg) rfl⟩
/-- the chromosome is counted at its least gene -/
def gj_fc (p : Nat → Nat) (g : Nat) : Bool := decide (nI (gj_tz p g) &&& (((1 : Int32) <<< (nI g &&& 31)) - 1) = 0)
theorem gj_cn_t {f : Nat → Bool} {n : Nat} (h : f n = true) : gj_cn f (n + 1) = gj_cn f n + 1 := by
  show gj_cn f n + (if f n = true then 1 else 0) = _
  rw [if_pos h]
theorem gj_cn_f {f : Nat → Bool} {n : Nat} (h : ¬ f n = true) : gj_cn f (n + 1) = gj_cn f n := by
  show gj_cn f n + (if f n = true then 1 else 0) = _
  rw [if_neg h]; rfl
theorem gx_least {post : Int32 → Prop} {p : Nat → Nat} {g : Nat} (h1 : gj_fc p g = true → post 1) (h0 : ¬ gj_fc p g = true → post 0) : wpX_isLeastOf post (nI g) (nI (gj_tz p g)) := by
  unfold wpX_isLeastOf
  refine nm_e (br_c (fun z => h1 (decide_eq_true z)) (fun z => h0 (fun y => z (of_decide_eq_true y))))
theorem gx_ch_l {post : Int32 → Prop} {u : Nat → Int32} {t : Nat} {p : Nat → Nat} (hp : gj_V p) (h : gj_xr u t p) (ht : t < 768) (H : post (nI (gj_cn (gj_fc p) 4))) : ∀ d g, g + d = 4 → wX_chromosomes_13 post (nI t) u (d + 1) (nI (gj_cn (gj_fc p) g)) (nI g) := by
  intro d
  induction d with
  | zero =>
    intro g hg
    have : g = 4 := by omega
    subst this
    exact br_t (nI_le (a := 4) (by omega) (by omega)) H
  | succ d ih =>
    intro g hg
    have ih1 := ih (g + 1) (by omega)
    refine br_f (nI_ge (b := 4) (by omega) (by omega)) (gx_ga hp h ht (by omega) (fun _ => gx_least (fun z => ?_) (fun z => ?_)))
    · rw [gj_cn_t z] at ih1
      exact br_f (by decide) (nm_r (nI_1 _) (nm_r (nI_1 g) ih1))
    · rw [gj_cn_f z] at ih1
      exact br_t rfl (nm_r (nI_1 g) ih1)
theorem gx_ch {post : Int32 → Prop} {u : Nat → Int32} {t : Nat} {p : Nat → Nat} (hp : gj_V p) (h : gj_xr u t p) (ht : t < 768) (H : post (nI (gj_cn (gj_fc p) 4))) : ∃ n, wX_chromosomes_13 post (nI t) u n 0 0 := ⟨5, gx_ch_l hp h ht H 4 0 rfl⟩
theorem gy_ch_l {post : Int32 → Prop} {q s m : Nat → Int32} {t : Nat} {p : Nat → Nat} (hp : gj_V p) (h : gj_yr q t p) (ht : t < 5) (H : post (nI (gj_cn (gj_fc p) 4))) : ∀ d g, g + d = 4 → wY_chromosomes_14 post (nI t) q s m (d + 1) (nI (gj_cn (gj_fc p) g)) (nI g) := by
  intro d
  induction d with
  | zero =>
    intro g hg
    have : g = 4 := by omega
    subst this
    exact br_t (nI_le (a := 4) (by omega) (by omega)) H
  | succ d ih =>
    intro g hg
    have ih1 := ih (g + 1) (by omega)
    refine br_f (nI_ge (b := 4) (by omega) (by omega)) (gy_to hp h ht (by omega) (br_c (fun z => ?_) (fun z => ?_)))
    · rw [gj_cn_t (decide_eq_true z)] at ih1
      exact nm_r (nI_1 _) (nm_r (nI_1 g) ih1)
    · rw [gj_cn_f (fun y => z (of_decide_eq_true y))] at ih1
      exact nm_r (nI_1 g) ih1
theorem gy_ch {post : Int32 → Prop} {q s m : Nat → Int32} {t : Nat} {p : Nat → Nat} (hp : gj_V p) (h : gj_yr q t p) (ht : t < 5) (H : post (nI (gj_cn (gj_fc p) 4))) : ∃ n, wY_chromosomes_14 post (nI t) q s m n 0 0 := ⟨5, gy_ch_l hp h ht H 4 0 rfl⟩
/-- a loose end in the set of genes -/
def gj_lo (p : Nat → Nat) (n : Nat) : Nat → Nat → Bool
  | 0, _ => false
  | k + 1, a => if n.testBit (a / 2) = true ∧ p a = a then true else gj_lo p n k (a + 1)
theorem gx_hl_l {post : Int32 → Prop} {u : Nat → Int32} {t n : Nat} {p : Nat → Nat} (hp : gj_V p) (h : gj_xr u t p) (ht : t < 768) (hn : n < 16) (res : Bool) (H1 : res = true → post 1) (H0 : res = false → post 0) : ∀ d a, a + d = 8 → gj_lo p n d a = res → wX_hasLooseEnd_2 post (nI t) (nI n) u (d + 1) (nI a) := by
  intro d
  induction d with
  | zero =>
    intro a ha hs
    have : a = 8 := by omega
    subst this
    exact br_t (nI_le (a := 8) (by omega) (by omega)) (H0 hs.symm)
  | succ d ih =>
    intro a ha hs
    unfold gj_lo at hs
    refine br_f (nI_ge (b := 8) (by omega) (by omega)) (gx_gene hn (by omega) (fun z => ?_) (fun z => ?_))
    · refine br_f (by decide) (gx_loose hp h ht (by omega) (fun y => ?_) (fun y => ?_))
      · rw [if_pos ⟨z, y⟩] at hs
        exact br_f (by decide) (H1 hs.symm)
      · rw [if_neg (fun x => y x.2)] at hs
        exact br_t rfl (nm_r (nI_1 a) (ih (a + 1) (by omega) hs))
    · rw [if_neg (fun x => z x.1)] at hs
      exact br_t rfl (nm_r (nI_1 a) (ih (a + 1) (by omega) hs))
theorem gx_hl {post : Int32 → Prop} {u : Nat → Int32} {t n : Nat} {p : Nat → Nat} (hp : gj_V p) (h : gj_xr u t p) (ht : t < 768) (hn : n < 16) (H1 : gj_lo p n 8 0 = true → post 1) (H0 : gj_lo p n 8 0 = false → post 0) : wpX_hasLooseEnd post u (nI t) (nI n) := by
  unfold wpX_hasLooseEnd
  exact ⟨9, gx_hl_l hp h ht hn _ H1 H0 8 0 rfl rfl⟩
theorem gy_ir_l {post : Int32 → Prop} {q s m : Nat → Int32} {t n : Nat} {p : Nat → Nat} (hp : gj_V p) (h : gj_yr q t p) (ht : t < 5) (hn : n < 16) (res : Bool) (H1 : res = true → post 0) (H0 : res = false → post 1) : ∀ d a, a + d = 8 → gj_lo p n d a = res → wY_isRound_2 post (nI t) (nI n) q s m (d + 1) (nI a) := by
  intro d
  induction d with
  | zero =>
    intro a ha hs
    have : a = 8 := by omega
    subst this
    exact br_t (nI_le (a := 8) (by omega) (by omega)) (H0 hs.symm)
  | succ d ih =>
    intro a ha hs
    unfold gj_lo at hs
    refine br_f (nI_ge (b := 8) (by omega) (by omega)) ⟨by decide, ?_⟩
    by_cases z : n.testBit (a / 2) = true
    · refine br_t ((gj_b1 n hn a (by omega)).mpr z) (gy_loose hp h ht (by omega) (fun y => ?_) (fun y => ?_))
      · rw [if_pos ⟨z, y⟩] at hs
        exact br_f (by decide) (H1 hs.symm)
      · rw [if_neg (fun x => y x.2)] at hs
        exact br_t rfl (nm_r (nI_1 a) (ih (a + 1) (by omega) hs))
    · rw [if_neg (fun x => z x.1)] at hs
      exact br_f (fun y => z ((gj_b1 n hn a (by omega)).mp y)) (nm_r (nI_1 a) (ih (a + 1) (by omega) hs))
theorem gy_ir {post : Int32 → Prop} {q s m : Nat → Int32} {t n : Nat} {p : Nat → Nat} (hp : gj_V p) (h : gj_yr q t p) (ht : t < 5) (hn : n < 16) (H1 : gj_lo p n 8 0 = true → post 0) (H0 : gj_lo p n 8 0 = false → post 1) : wpY_isRound post (q, s, m) (nI t) (nI n) := by
  unfold wpY_isRound
  exact ⟨9, gy_ir_l hp h ht hn _ H1 H0 8 0 rfl rfl⟩
def gj_fr (p : Nat → Nat) (g : Nat) : Bool := gj_fc p g && !(gj_lo p (gj_tz p g) 8 0)
theorem gj_ts_16 {p : Nat → Nat} (hp : gj_V p) {n a : Nat} (hn : n < 16) (ha : a < 8) : gj_ts p n a < 16 := by
  unfold gj_ts
  split
  · exact gj_b3 n hn _ (gj_V_lt hp ha)
  · exact hn
theorem gj_ty_16 {p : Nat → Nat} (hp : gj_V p) : ∀ k n i, n < 16 → gj_ty p k n i < 16 := by
  intro k
  induction k with
  | zero => intro n i hn; exact hn
  | succ k ih => intro n i hn; exact ih _ _ (gj_ts_16 hp hn (Nat.mod_lt _ (by omega)))
theorem gj_tz_16 {p : Nat → Nat} (hp : gj_V p) {g : Nat} (hg : g < 4) : gj_tz p g < 16 := gj_ty_16 hp _ _ _ (gj_b6 g hg)
theorem gx_rd_l {post : Int32 → Prop} {u : Nat → Int32} {t : Nat} {p : Nat → Nat} (hp : gj_V p) (h : gj_xr u t p) (ht : t < 768) (H : post (nI (gj_cn (gj_fr p) 4))) : ∀ d g, g + d = 4 → wX_round_13 post (nI t) u (d + 1) (nI (gj_cn (gj_fr p) g)) (nI g) := by
  intro d
  induction d with
  | zero =>
    intro g hg
    have : g = 4 := by omega
    subst this
    exact br_t (nI_le (a := 4) (by omega) (by omega)) H
  | succ d ih =>
    intro g hg
    have ih1 := ih (g + 1) (by omega)
    refine br_f (nI_ge (b := 4) (by omega) (by omega)) (gx_ga hp h ht (by omega) (fun h16 => gx_least (fun z => ?_) (fun z => ?_)))
    · refine br_f (by decide) (gx_hl hp h ht h16 (fun y => ?_) (fun y => ?_))
      · rw [gj_cn_f (by unfold gj_fr; rw [z, y]; decide)] at ih1
        exact br_f (by decide) (nm_r (nI_1 g) ih1)
      · rw [gj_cn_t (by unfold gj_fr; rw [z, y]; rfl)] at ih1
        exact br_t rfl (nm_r (nI_1 _) (nm_r (nI_1 g) ih1))
    · rw [gj_cn_f (fun y => z (by unfold gj_fr at y; rw [Bool.and_eq_true] at y; exact y.1))] at ih1
      exact br_t rfl (nm_r (nI_1 g) ih1)
theorem gx_rd {post : Int32 → Prop} {u : Nat → Int32} {t : Nat} {p : Nat → Nat} (hp : gj_V p) (h : gj_xr u t p) (ht : t < 768) (H : post (nI (gj_cn (gj_fr p) 4))) : ∃ n, wX_round_13 post (nI t) u n 0 0 := ⟨5, gx_rd_l hp h ht H 4 0 rfl⟩
theorem gy_rd_l {post : Int32 → Prop} {q s m : Nat → Int32} {t : Nat} {p : Nat → Nat} (hp : gj_V p) (h : gj_yr q t p) (ht : t < 5) (H : post (nI (gj_cn (gj_fr p) 4))) : ∀ d g, g + d = 4 → wY_round_14 post (nI t) q s m (d + 1) (nI (gj_cn (gj_fr p) g)) (nI g) := by
  intro d
  induction d with
  | zero =>
    intro g hg
    have : g = 4 := by omega
    subst this
    exact br_t (nI_le (a := 4) (by omega) (by omega)) H
  | succ d ih =>
    intro g hg
    have ih1 := ih (g + 1) (by omega)
    refine br_f (nI_ge (b := 4) (by omega) (by omega)) (gy_to hp h ht (by omega) (br_c (fun z => ?_) (fun z => ?_)))
    · have z1 : gj_fc p g = true := decide_eq_true z
      refine gy_ir hp h ht (gj_tz_16 hp (by omega)) (fun y => ?_) (fun y => ?_)
      · rw [gj_cn_f (by unfold gj_fr; rw [z1, y]; decide)] at ih1
        exact br_t rfl (nm_r (nI_1 g) ih1)
      · rw [gj_cn_t (by unfold gj_fr; rw [z1, y]; rfl)] at ih1
        exact br_f (by decide) (nm_r (nI_1 _) (nm_r (nI_1 g) ih1))
    · rw [gj_cn_f (fun y => z (by unfold gj_fr at y; rw [Bool.and_eq_true] at y; exact of_decide_eq_true y.1))] at ih1
      exact nm_r (nI_1 g) ih1
theorem gy_rd {post : Int32 → Prop} {q s m : Nat → Int32} {t : Nat} {p : Nat → Nat} (hp : gj_V p) (h : gj_yr q t p) (ht : t < 5) (H : post (nI (gj_cn (gj_fr p) 4))) : ∃ n, wY_round_14 post (nI t) q s m n 0 0 := ⟨5, gy_rd_l hp h ht H 4 0 rfl⟩
end
section
/-- the three slots, and the component's list -/
def gj_P (P : Nat → Nat → Nat) : Prop := ∀ s, s < 3 → gj_V (P s)
def gj_X (u : Nat → Int32) (P : Nat → Nat → Nat) : Prop := (∀ s, s < 3 → gj_xr u s (P s)) ∧ ∀ j, j < 764 → gj_xr u (4 + j) (gj_T j)
theorem gj_X_3 {u w : Nat → Int32} {P : Nat → Nat → Nat} (h : gj_X u P) (k : gj_eo 3 u w) : gj_X w P :=
  ⟨fun s hs => gj_xr_eo (h.1 s hs) k (by omega), fun j hj => gj_xr_eo (h.2 j hj) k (by omega)⟩
theorem gx_btw_sT {post : Int32 → SX → Prop} {u : Nat → Int32} {P : Nat → Nat → Nat} {s j : Nat} (hP : gj_P P) (h : gj_X u P) (hs : s < 3) (hj : j < 764) (H : ∀ w, gj_X w P → post (nI (gj_D (P s) (gj_T j))) w) : wpX_stepsBetween post u (nI s) (nI (4 + j)) :=
  gx_btw (hP s hs) (gj_T_V hj) (h.1 s hs) (h.2 j hj) (by omega) (by omega) (by omega) (fun w k => H w (gj_X_3 h k))
theorem gx_btw_Ts {post : Int32 → SX → Prop} {u : Nat → Int32} {P : Nat → Nat → Nat} {s j : Nat} (hP : gj_P P) (h : gj_X u P) (hs : s < 3) (hj : j < 764) (H : ∀ w, gj_X w P → post (nI (gj_D (gj_T j) (P s))) w) : wpX_stepsBetween post u (nI (4 + j)) (nI s) :=
  gx_btw (gj_T_V hj) (hP s hs) (h.2 j hj) (h.1 s hs) (by omega) (by omega) (by omega) (fun w k => H w (gj_X_3 h k))
theorem gx_btw_ss {post : Int32 → SX → Prop} {u : Nat → Int32} {P : Nat → Nat → Nat} {s r : Nat} (hP : gj_P P) (h : gj_X u P) (hs : s < 3) (hr : r < 3) (H : ∀ w, gj_X w P → post (nI (gj_D (P s) (P r))) w) : wpX_stepsBetween post u (nI s) (nI r) :=
  gx_btw (hP s hs) (hP r hr) (h.1 s hs) (h.1 r hr) (by omega) (by omega) (by omega) (fun w k => H w (gj_X_3 h k))
theorem gj_cn_2p {f : Nat → Bool} {n : Nat} (h : n ≤ 764) : gj_cn f n < 2 ^ 31 := by
  have := gj_cn_le f n
  omega
theorem gj_D_2p (p r : Nat → Nat) : gj_D p r < 2 ^ 31 := by
  have := gj_D_le p r
  omega
theorem gx_steps_l {post : Int32 → SX → Prop} {P : Nat → Nat → Nat} {s : Nat} (hP : gj_P P) (hs : s < 3) (H : ∀ w, gj_X w P → post (nI (gj_cn (fun j => decide (gj_D (P s) (gj_T j) = 1)) 764)) w) : ∀ d j u, j + d = 764 → gj_X u P → wX_steps_13 post (nI s) (d + 1) (nI (gj_cn (fun j => decide (gj_D (P s) (gj_T j) = 1)) j)) (nI (4 + j)) u := by
  intro d
  induction d with
  | zero =>
    intro j u hj h
    have : j = 764 := by omega
    subst this
    exact br_t (nI_le (a := 768) (by omega) (by omega)) (H u h)
  | succ d ih =>
    intro j u hj h
    refine br_f (nI_ge (b := 768) (by omega) (by omega)) (gx_btw_sT hP h hs (by omega) (fun w hw => ?_))
    have ih1 := ih (j + 1) w (by omega) hw
    refine pk_eq (gj_D (P s) (gj_T j)) 1 (fun z => ?_) (fun z => ?_) rfl rfl (gj_D_2p _ _) (by omega)
    · rw [gj_cn_t (decide_eq_true z)] at ih1
      exact nm_r (nI_1 _) (nm_r (nI_1 (4 + j)) ih1)
    · rw [gj_cn_f (fun y => z (of_decide_eq_true y))] at ih1
      exact nm_r (nI_1 (4 + j)) ih1
theorem gx_near_l {post : Int32 → SX → Prop} {P : Nat → Nat → Nat} {s r W : Nat} (hP : gj_P P) (hs : s < 3) (hr : r < 3) (hW : W ≤ 8) (H : ∀ w, gj_X w P → post (nI (gj_cn (fun j => decide (gj_D (P s) (gj_T j) = 1) && decide (gj_D (gj_T j) (P r) < W)) 764)) w) : ∀ d j u, j + d = 764 → gj_X u P → wX_nearer_29 post (nI s) (nI r) (nI W) (d + 1) (nI (gj_cn (fun j => decide (gj_D (P s) (gj_T j) = 1) && decide (gj_D (gj_T j) (P r) < W)) j)) (nI (4 + j)) u := by
  intro d
  induction d with
  | zero =>
    intro j u hj h
    have : j = 764 := by omega
    subst this
    exact br_t (nI_le (a := 768) (by omega) (by omega)) (H u h)
  | succ d ih =>
    intro j u hj h
    refine br_f (nI_ge (b := 768) (by omega) (by omega)) (gx_btw_sT hP h hs (by omega) (fun w hw => ?_))
    refine pk_eq (gj_D (P s) (gj_T j)) 1 (fun z => ?_) (fun z => ?_) rfl rfl (gj_D_2p _ _) (by omega)
    · refine gx_btw_Ts hP hw hr (by omega) (fun w' hw' => ?_)
      have ih1 := ih (j + 1) w' (by omega) hw'
      refine pk_le W (gj_D (gj_T j) (P r)) (fun y => ?_) (fun y => ?_) rfl rfl (by omega) (gj_D_2p _ _)
      · rw [gj_cn_f (fun x => by rw [Bool.and_eq_true] at x; have := of_decide_eq_true x.2; omega)] at ih1
        exact nm_r (nI_1 (4 + j)) ih1
      · rw [gj_cn_t (by rw [decide_eq_true z, decide_eq_true y]; rfl)] at ih1
        exact nm_r (nI_1 _) (nm_r (nI_1 (4 + j)) ih1)
    · have ih1 := ih (j + 1) w (by omega) hw
      rw [gj_cn_f (fun y => z (by rw [Bool.and_eq_true] at y; exact of_decide_eq_true y.1))] at ih1
      exact nm_r (nI_1 (4 + j)) ih1
/-- the sum of the distances of the slots to a genome -/
def gj_sm (P : Nat → Nat → Nat) (t : Nat → Nat) : Nat → Nat
  | 0 => 0
  | k + 1 => gj_sm P t k + gj_D (P k) t
theorem gj_sm_le (P : Nat → Nat → Nat) (t : Nat → Nat) : gj_sm P t 3 ≤ 24 := by
  have h0 := gj_D_le (P 0) t
  have h1 := gj_D_le (P 1) t
  have h2 := gj_D_le (P 2) t
  show 0 + gj_D (P 0) t + gj_D (P 1) t + gj_D (P 2) t ≤ 24
  omega
theorem gx_sum_l {post : Int32 → SX → Prop} {P : Nat → Nat → Nat} {j : Nat} (hP : gj_P P) (hj : j < 764) (H : ∀ w, gj_X w P → post (nI (gj_sm P (gj_T j) 3)) w) : ∀ d k u, k + d = 3 → gj_X u P → wX_sumOfDistances_4 post (nI (4 + j)) (d + 1) (nI (gj_sm P (gj_T j) k)) (nI k) u := by
  intro d
  induction d with
  | zero =>
    intro k u hk h
    have : k = 3 := by omega
    subst this
    exact br_t (nI_le (a := 3) (by omega) (by omega)) (H u h)
  | succ d ih =>
    intro k u hk h
    refine br_f (nI_ge (b := 3) (by omega) (by omega)) (gx_btw_sT hP h (by omega) hj (fun w hw => ?_))
    exact nm_r (nI_add _ _) (nm_r (nI_1 k) (ih (k + 1) w (by omega) hw))
theorem gx_sum {post : Int32 → SX → Prop} {P : Nat → Nat → Nat} {j : Nat} {u : Nat → Int32} (hP : gj_P P) (hj : j < 764) (h : gj_X u P) (H : ∀ w, gj_X w P → post (nI (gj_sm P (gj_T j) 3)) w) : wpX_sumOfDistances post u (nI (4 + j)) := by
  unfold wpX_sumOfDistances
  exact ⟨4, gx_sum_l hP hj H 3 0 u rfl h⟩
/-- m is the least of the first j values -/
def gj_mn (F : Nat → Nat) (m j : Nat) : Prop := (∀ i, i < j → m ≤ F i) ∧ ∃ i, i < j ∧ F i = m
theorem gj_mn_k {F : Nat → Nat} {m j : Nat} (h : gj_mn F m j) (k : m ≤ F j) : gj_mn F m (j + 1) := by
  obtain ⟨h1, i, hi, e⟩ := h
  refine ⟨fun x hx => ?_, i, by omega, e⟩
  by_cases z : x = j
  · rw [z]; exact k
  · exact h1 x (by omega)
theorem gj_mn_n {F : Nat → Nat} {m j : Nat} (h : ∀ i, i < j → m ≤ F i) (k : F j < m) : gj_mn F (F j) (j + 1) := by
  refine ⟨fun x hx => ?_, j, by omega, rfl⟩
  by_cases z : x = j
  · rw [z]; exact Nat.le_refl _
  · have := h x (by omega)
    omega
theorem gx_mid_l {post : Int32 → SX → Prop} {P : Nat → Nat → Nat} (hP : gj_P P) (H : ∀ m w, gj_X w P → gj_mn (fun i => gj_sm P (gj_T i) 3) m 764 → post (nI m) w) : ∀ d j m u, j + d = 764 → gj_X u P → m ≤ 24 → gj_mn (fun i => gj_sm P (gj_T i) 3) m j → wX_middle_8 post (d + 1) (nI m) (nI (4 + j)) u := by
  intro d
  induction d with
  | zero =>
    intro j m u hj h hm hmn
    have : j = 764 := by omega
    subst this
    exact br_t (nI_le (a := 768) (by omega) (by omega)) (H m u h hmn)
  | succ d ih =>
    intro j m u hj h hm hmn
    have hle := gj_sm_le P (gj_T j)
    refine br_f (nI_ge (b := 768) (by omega) (by omega)) (gx_sum hP (by omega) h (fun w hw => ?_))
    refine pk_le m (gj_sm P (gj_T j) 3) (fun z => ?_) (fun z => ?_) rfl rfl (by omega) (by omega)
    · exact nm_r (nI_1 (4 + j)) (ih (j + 1) m w (by omega) hw hm (gj_mn_k hmn z))
    · exact nm_r (nI_1 (4 + j)) (ih (j + 1) _ w (by omega) hw hle (gj_mn_n hmn.1 z))
theorem gx_mid {post : Int32 → SX → Prop} {P : Nat → Nat → Nat} {u : Nat → Int32} (hP : gj_P P) (h : gj_X u P) (H : ∀ m w, gj_X w P → gj_mn (fun i => gj_sm P (gj_T i) 3) m 764 → post (nI m) w) : wpX_middle post u := by
  unfold wpX_middle
  refine gx_sum (j := 0) hP (by omega) h (fun w hw => ?_)
  refine ⟨764, gx_mid_l hP H 763 1 _ w rfl hw (gj_sm_le _ _) ⟨fun i hi => ?_, 0, by omega, rfl⟩⟩
  have : i = 0 := by omega
  subst this
  exact Nat.le_refl _
theorem gj_cn_none {F : Nat → Nat} {m j : Nat} (h : ∀ i, i < j → m < F i) : gj_cn (fun i => decide (F i = m)) j = 0 :=
  gj_cn_0 (fun e he => decide_eq_false (by have := h e he; omega))
theorem gx_mids_l {post : Int32 → SX → Prop} {P : Nat → Nat → Nat} {F : Nat → Nat} (hF : F = fun i => gj_sm P (gj_T i) 3) (hP : gj_P P) (H : ∀ m w, gj_X w P → gj_mn F m 764 → post (nI (gj_cn (fun i => decide (F i = m)) 764)) w) : ∀ d j m u, j + d = 764 → gj_X u P → m ≤ 24 → gj_mn F m j → wX_middles_10 post (d + 1) (nI m) (nI (gj_cn (fun i => decide (F i = m)) j)) (nI (4 + j)) u := by
  intro d
  induction d with
  | zero =>
    intro j m u hj h hm hmn
    have : j = 764 := by omega
    subst this
    exact br_t (nI_le (a := 768) (by omega) (by omega)) (H m u h hmn)
  | succ d ih =>
    intro j m u hj h hm hmn
    have hle := gj_sm_le P (gj_T j)
    refine br_f (nI_ge (b := 768) (by omega) (by omega)) (gx_sum hP (by omega) h (fun w hw => ?_))
    have eF : gj_sm P (gj_T j) 3 = F j := by rw [hF]
    rw [eF] at hle ⊢
    refine pk_le m (F j) (fun z => ?_) (fun z => ?_) rfl rfl (by omega) (by omega)
    · have ih1 := ih (j + 1) m w (by omega) hw hm (gj_mn_k hmn z)
      unfold wX_middles_35
      refine pk_eq (F j) m (fun y => ?_) (fun y => ?_) rfl rfl (by omega) (by omega)
      · rw [gj_cn_t (decide_eq_true y)] at ih1
        exact nm_r (nI_1 _) (nm_r (nI_1 (4 + j)) ih1)
      · rw [gj_cn_f (fun x => y (of_decide_eq_true x))] at ih1
        exact nm_r (nI_1 (4 + j)) ih1
    · have ih1 := ih (j + 1) (F j) w (by omega) hw hle (gj_mn_n hmn.1 z)
      rw [gj_cn_t (decide_eq_true rfl), gj_cn_none (fun i hi => by have := hmn.1 i hi; omega)] at ih1
      unfold wX_middles_35
      exact br_t rfl (nm_r (nI_1 0) (nm_r (nI_1 (4 + j)) ih1))
theorem gx_mids {post : Int32 → SX → Prop} {P : Nat → Nat → Nat} {u : Nat → Int32} (hP : gj_P P) (h : gj_X u P) (H : ∀ m w, gj_X w P → gj_mn (fun i => gj_sm P (gj_T i) 3) m 764 → post (nI (gj_cn (fun i => decide (gj_sm P (gj_T i) 3 = m)) 764)) w) : wpX_middles post u := by
  unfold wpX_middles
  refine gx_sum (j := 0) hP (by omega) h (fun w hw => ?_)
  have hm : gj_mn (fun i => gj_sm P (gj_T i) 3) (gj_sm P (gj_T 0) 3) 1 := by
    refine ⟨fun i hi => ?_, 0, by omega, rfl⟩
    have : i = 0 := by omega
    subst this
    exact Nat.le_refl _
  have h1 := gx_mids_l rfl hP H 763 1 _ w rfl hw (gj_sm_le _ _) hm
  have e : gj_cn (fun i => decide (gj_sm P (gj_T i) 3 = gj_sm P (gj_T 0) 3)) 1 = 1 := by
    show 0 + (if decide (gj_sm P (gj_T 0) 3 = gj_sm P (gj_T 0) 3) = true then 1 else 0) = 1
    rw [decide_eq_true rfl]
    rfl
  refine ⟨764, ?_⟩
  rw [e] at h1
  exact h1
/-- the genome t lies on the way, with n joints -/
def gj_ow (p r : Nat → Nat) (x3 x4 x5 : Int32) (t : Nat → Nat) : Prop := nI (gj_jn t) = x4 ∧ nI (gj_D p t) = x3 ∧ nI (gj_D t r) = x5 - x3
theorem gx_otw_l {post : Int32 → SX → Prop} {P : Nat → Nat → Nat} {s r : Nat} {x3 x4 x5 : Int32} (hP : gj_P P) (hs : s < 3) (hr : r < 3) (H1 : (∃ j, j < 764 ∧ gj_ow (P s) (P r) x3 x4 x5 (gj_T j)) → ∀ w, gj_X w P → post 1 w) (H0 : (∀ j, j < 764 → ¬ gj_ow (P s) (P r) x3 x4 x5 (gj_T j)) → ∀ w, gj_X w P → post 0 w) : ∀ d j u, j + d = 764 → gj_X u P → (∀ i, i < j → ¬ gj_ow (P s) (P r) x3 x4 x5 (gj_T i)) → wX_onTheWay_27 post (nI s) (nI r) x3 x4 x5 (d + 1) (nI (4 + j)) u := by
  intro d
  induction d with
  | zero =>
    intro j u hj h hi
    have : j = 764 := by omega
    subst this
    exact br_t (nI_le (a := 768) (by omega) (by omega)) (H0 hi u h)
  | succ d ih =>
    intro j u hj h hi
    have hst : ¬ gj_ow (P s) (P r) x3 x4 x5 (gj_T j) → ∀ i, i < j + 1 → ¬ gj_ow (P s) (P r) x3 x4 x5 (gj_T i) := by
      intro hn i hi2
      by_cases z : i = j
      · rw [z]; exact hn
      · exact hi i (by omega)
    refine br_f (nI_ge (b := 768) (by omega) (by omega)) (gx_count (gj_T_V (by omega)) (h.2 j (by omega)) (by omega) (br_c (fun z1 => ?_) (fun z1 => ?_)))
    · refine gx_btw_sT hP h hs (by omega) (fun w hw => br_c (fun z2 => ?_) (fun z2 => ?_))
      · refine gx_btw_Ts hP hw hr (by omega) (fun w' hw' => br_c (fun z3 => ?_) (fun z3 => ?_))
        · exact H1 ⟨j, by omega, z1, z2, z3⟩ w' hw'
        · exact nm_r (nI_1 (4 + j)) (ih (j + 1) w' (by omega) hw' (hst (fun y => z3 y.2.2)))
      · exact nm_r (nI_1 (4 + j)) (ih (j + 1) w (by omega) hw (hst (fun y => z2 y.2.1)))
    · exact nm_r (nI_1 (4 + j)) (ih (j + 1) u (by omega) h (hst (fun y => z1 y.1)))
end
section
def gj_Y (q n : Nat → Int32) (P : Nat → Nat → Nat) : Prop := (∀ s, s < 3 → gj_yr q s (P s)) ∧ gj_nq n
theorem gj_Y_3 {u w n : Nat → Int32} {P : Nat → Nat → Nat} (h : gj_Y u n P) (k : gj_eo 3 u w) : gj_Y w n P :=
  ⟨fun s hs => gj_yr_eo (h.1 s hs) k (by omega), h.2⟩
theorem gj_Y_4 {u w n : Nat → Int32} {P : Nat → Nat → Nat} (h : gj_Y u n P) (k : gj_eo 4 u w) : gj_Y w n P :=
  ⟨fun s hs => gj_yr_eo (h.1 s hs) k (by omega), h.2⟩
theorem gy_sum {post : Int32 → SY → Prop} {P : Nat → Nat → Nat} {u s n : Nat → Int32} {t : Nat → Nat} (hP : gj_P P) (ht : gj_V t) (h : gj_Y u n P) (k : gj_yr u 4 t) (H : ∀ w, gj_Y w n P → post (nI (gj_sm P t 3)) (w, s, n)) : wpY_sumOfWays post (u, s, n) := by
  unfold wpY_sumOfWays
  dsimp only
  refine gy_way (f := 4) (g := 0) ht (hP 0 (by omega)) k (h.1 0 (by omega)) (by omega) (by omega) (by omega) (fun w1 k1 => ?_)
  dsimp only
  have h1 := gj_Y_3 h k1
  have y1 := gj_yr_eo k k1 (by omega)
  refine gy_way (f := 4) (g := 1) ht (hP 1 (by omega)) y1 (h1.1 1 (by omega)) (by omega) (by omega) (by omega) (fun w2 k2 => ?_)
  dsimp only
  have h2 := gj_Y_3 h1 k2
  have y2 := gj_yr_eo y1 k2 (by omega)
  refine gy_way (f := 4) (g := 2) ht (hP 2 (by omega)) y2 (h2.1 2 (by omega)) (by omega) (by omega) (by omega) (fun w3 k3 => ?_)
  dsimp only
  have h3 := gj_Y_3 h2 k3
  have e : nI (gj_D t (P 0)) + nI (gj_D t (P 1)) + nI (gj_D t (P 2)) = nI (gj_sm P t 3) := by
    rw [nI_add, nI_add, gj_D_sy (hP 0 (by omega)) ht, gj_D_sy (hP 1 (by omega)) ht, gj_D_sy (hP 2 (by omega)) ht]
    show _ = nI (0 + gj_D (P 0) t + gj_D (P 1) t + gj_D (P 2) t)
    rw [Nat.zero_add]
  rw [e]
  exact H w3 h3
theorem gy_mid_l {post : Int32 → SY → Prop} {P : Nat → Nat → Nat} {s n : Nat → Int32} (hP : gj_P P) (H : ∀ m w, gj_Y w n P → gj_mn (fun i => gj_sm P (gj_S i) 3) m 764 → post (nI m) (w, s, n)) : ∀ d j m u, j + d = 764 → gj_Y u n P → m ≤ 100 → ((j = 0 ∧ m = 100) ∨ gj_mn (fun i => gj_sm P (gj_S i) 3) m j) → wY_middle_5 post (d + 1) (nI m) (nI j) u s n := by
  intro d
  induction d with
  | zero =>
    intro j m u hj h hm hmn
    have : j = 764 := by omega
    subst this
    exact br_t (nI_le (a := 764) (by omega) (by omega)) (H m u h (hmn.elim (fun z => absurd z.1 (by omega)) id))
  | succ d ih =>
    intro j m u hj h hm hmn
    have hle := gj_sm_le P (gj_S j)
    refine br_f (nI_ge (b := 764) (by omega) (by omega)) (gy_sn (by omega) h.2 (fun w k1 k2 => ?_))
    dsimp only
    refine gy_sum hP (gj_S_V (by omega)) (gj_Y_4 h k2) k1 (fun w2 hw => ?_)
    dsimp only
    refine pk_le m (gj_sm P (gj_S j) 3) (fun z => ?_) (fun z => ?_) rfl rfl (by omega) (by omega)
    · refine nm_r (nI_1 j) (ih (j + 1) m w2 (by omega) hw hm (Or.inr ?_))
      rcases hmn with ⟨_, y⟩ | y
      · omega
      · exact gj_mn_k y z
    · refine nm_r (nI_1 j) (ih (j + 1) _ w2 (by omega) hw (by omega) (Or.inr ?_))
      refine gj_mn_n (m := m) (F := fun i => gj_sm P (gj_S i) 3) (fun i hi => ?_) z
      rcases hmn with ⟨y, _⟩ | y
      · omega
      · exact y.1 i hi
theorem gy_mid {post : Int32 → SY → Prop} {P : Nat → Nat → Nat} {u s n : Nat → Int32} (hP : gj_P P) (h : gj_Y u n P) (H : ∀ m w, gj_Y w n P → gj_mn (fun i => gj_sm P (gj_S i) 3) m 764 → post (nI m) (w, s, n)) : wpY_middle post (u, s, n) := by
  unfold wpY_middle
  exact ⟨765, gy_mid_l hP H 764 0 100 u rfl h (by omega) (Or.inl ⟨rfl, rfl⟩)⟩
theorem gy_mids_l {post : Int32 → SY → Prop} {P : Nat → Nat → Nat} {s n : Nat → Int32} {F : Nat → Nat} (hF : F = fun i => gj_sm P (gj_S i) 3) (hP : gj_P P) (H : ∀ m w, gj_Y w n P → gj_mn F m 764 → post (nI (gj_cn (fun i => decide (F i = m)) 764)) (w, s, n)) : ∀ d j m u, j + d = 764 → gj_Y u n P → m ≤ 100 → ((j = 0 ∧ m = 100) ∨ gj_mn F m j) → wY_middles_7 post (d + 1) (nI m) (nI (gj_cn (fun i => decide (F i = m)) j)) (nI j) u s n := by
  intro d
  induction d with
  | zero =>
    intro j m u hj h hm hmn
    have : j = 764 := by omega
    subst this
    exact br_t (nI_le (a := 764) (by omega) (by omega)) (H m u h (hmn.elim (fun z => absurd z.1 (by omega)) id))
  | succ d ih =>
    intro j m u hj h hm hmn
    have hle := gj_sm_le P (gj_S j)
    refine br_f (nI_ge (b := 764) (by omega) (by omega)) (gy_sn (by omega) h.2 (fun w k1 k2 => ?_))
    dsimp only
    refine gy_sum hP (gj_S_V (by omega)) (gj_Y_4 h k2) k1 (fun w2 hw => ?_)
    dsimp only
    have eF : gj_sm P (gj_S j) 3 = F j := by rw [hF]
    rw [eF] at hle ⊢
    refine pk_le m (F j) (fun z => ?_) (fun z => ?_) rfl rfl (by omega) (by omega)
    · have hmn2 : gj_mn F m (j + 1) := by
        rcases hmn with ⟨_, y⟩ | y
        · omega
        · exact gj_mn_k y z
      have ih1 := ih (j + 1) m w2 (by omega) hw hm (Or.inr hmn2)
      refine pk_eq (F j) m (fun y => ?_) (fun y => ?_) rfl rfl (by omega) (by omega)
      · rw [gj_cn_t (decide_eq_true y)] at ih1
        unfold wY_middles_48
        refine br_t (nI_le z (by omega)) (nm_r (nI_1 j) ?_)
        rw [nI_1]
        exact ih1
      · rw [gj_cn_f (fun x => y (of_decide_eq_true x))] at ih1
        unfold wY_middles_48
        exact br_t (nI_le z (by omega)) (nm_r (nI_1 j) ih1)
    · have hall : ∀ i, i < j → m ≤ F i := by
        intro i hi
        rcases hmn with ⟨y, _⟩ | y
        · omega
        · exact y.1 i hi
      have ih1 := ih (j + 1) (F j) w2 (by omega) hw (by omega) (Or.inr (gj_mn_n hall z))
      rw [gj_cn_t (decide_eq_true rfl), gj_cn_none (fun i hi => by have := hall i hi; omega)] at ih1
      unfold wY_middles_48
      exact br_f (nI_ge z (by omega)) (nm_r (nI_1 j) ih1)
theorem gy_mids {post : Int32 → SY → Prop} {P : Nat → Nat → Nat} {u s n : Nat → Int32} (hP : gj_P P) (h : gj_Y u n P) (H : ∀ m w, gj_Y w n P → gj_mn (fun i => gj_sm P (gj_S i) 3) m 764 → post (nI (gj_cn (fun i => decide (gj_sm P (gj_S i) 3 = m)) 764)) (w, s, n)) : wpY_middles post (u, s, n) := by
  unfold wpY_middles
  exact ⟨765, gy_mids_l rfl hP H 764 0 100 u rfl h (by omega) (Or.inl ⟨rfl, rfl⟩)⟩
theorem gy_otw_l {post : Int32 → SY → Prop} {P : Nat → Nat → Nat} {s0 r : Nat} {s n : Nat → Int32} {x3 x4 x5 : Int32} (hP : gj_P P) (hs : s0 < 3) (hr : r < 3) (H1 : (∃ j, j < 764 ∧ gj_ow (P s0) (P r) x3 x4 x5 (gj_S j)) → ∀ w, gj_Y w n P → post 1 (w, s, n)) (H0 : (∀ j, j < 764 → ¬ gj_ow (P s0) (P r) x3 x4 x5 (gj_S j)) → ∀ w, gj_Y w n P → post 0 (w, s, n)) : ∀ d j u, j + d = 764 → gj_Y u n P → (∀ i, i < j → ¬ gj_ow (P s0) (P r) x3 x4 x5 (gj_S i)) → wY_onTheWay_29 post (nI s0) (nI r) x3 x4 x5 (d + 1) (nI j) u s n := by
  intro d
  induction d with
  | zero =>
    intro j u hj h hi
    have : j = 764 := by omega
    subst this
    exact br_t (nI_le (a := 764) (by omega) (by omega)) (H0 hi u h)
  | succ d ih =>
    intro j u hj h hi
    have hst : ¬ gj_ow (P s0) (P r) x3 x4 x5 (gj_S j) → ∀ i, i < j + 1 → ¬ gj_ow (P s0) (P r) x3 x4 x5 (gj_S i) := by
      intro hn i hi2
      by_cases z : i = j
      · rw [z]; exact hn
      · exact hi i (by omega)
    have hV := gj_S_V (i := j) (by omega)
    refine br_f (nI_ge (b := 764) (by omega) (by omega)) (gy_sn (by omega) h.2 (fun w k1 k2 => ?_))
    dsimp only
    have h1 := gj_Y_4 h k2
    refine gy_count (t := 4) hV k1 (by omega) (br_c (fun z1 => ?_) (fun z1 => ?_))
    · refine gy_way (f := 4) hV (hP s0 hs) k1 (h1.1 s0 hs) (by omega) (by omega) (by omega) (fun w2 k3 => ?_)
      dsimp only
      have h2 := gj_Y_3 h1 k3
      have y2 := gj_yr_eo k1 k3 (by omega)
      rw [gj_D_sy (hP s0 hs) hV]
      refine br_c (fun z2 => ?_) (fun z2 => ?_)
      · refine gy_way (f := 4) hV (hP r hr) y2 (h2.1 r hr) (by omega) (by omega) (by omega) (fun w3 k4 => ?_)
        dsimp only
        have h3 := gj_Y_3 h2 k4
        refine br_c (fun z3 => ?_) (fun z3 => ?_)
        · exact H1 ⟨j, by omega, z1, z2, z3⟩ w3 h3
        · exact nm_r (nI_1 j) (ih (j + 1) w3 (by omega) h3 (hst (fun y => z3 y.2.2)))
      · exact nm_r (nI_1 j) (ih (j + 1) w2 (by omega) h2 (hst (fun y => z2 y.2.1)))
    · exact nm_r (nI_1 j) (ih (j + 1) w (by omega) h1 (hst (fun y => z1 y.1)))
theorem gy_stepTo {post : SY → Prop} {q s n : Nat → Int32} {t a b : Nat} {p : Nat → Nat} (hp : gj_V p) (h : gj_yr q t p) (ht : t < 5) (ha : a < 8) (hb : b < 8) (hab : a ≠ b) (H : ∀ w, gj_yr w 4 (gj_nb p a b) → gj_eo 4 q w → post (w, s, n)) : wpY_stepTo post (q, s, n) (nI t) (nI a) (nI b) := by
  have l1 := gj_V_lt hp ha
  unfold wpY_stepTo
  dsimp only
  refine gy_copy (t := 4) (by omega) ht h (fun w k1 k2 => ?_)
  dsimp only
  refine ⟨gj_yv4 ha, ?_⟩
  rw [gj_yc4 ha, k2 a ha]
  refine pk_eq (p a) b (fun z => ?_) (fun z => ?_) rfl rfl (by omega) (by omega)
  · refine gy_unlink (t := 4) hp k2 (by omega) ha (fun w' k3 k4 => ?_)
    dsimp only
    refine H w' ?_ (gj_eo_t k1 k4)
    unfold gj_nb
    rw [if_pos z]
    exact k3
  · refine gy_make (t := 4) hp k2 (by omega) ha hb hab z (fun w' k3 k4 => ?_)
    dsimp only
    refine H w' ?_ (gj_eo_t k1 k4)
    unfold gj_nb
    rw [if_neg z]
    exact k3
/-- the numbers seen -/
def gj_se (s : Nat → Int32) (sn : Nat → Bool) : Prop := ∀ i, i < 764 → s i = if sn i = true then 1 else 0
/-- what a step counts for: all, or those nearer to r than L -/
def gj_li (lim : Int32) (r : Nat → Nat) (Q : Nat → Bool) : Prop := (lim < 0 ∧ ∀ i, Q i = true) ∨ ∃ L, L ≤ 8 ∧ lim = nI L ∧ ∀ i, Q i = decide (gj_D (gj_S i) r < L)
theorem gj_bo1 : vp_nar .boolean 1 = 1 := by rfl
theorem gj_bo0 : vp_nar .boolean 0 = 0 := by rfl
theorem gy_note {post : Int32 → SY → Prop} {q s n : Nat → Int32} {i g : Nat} {r : Nat → Nat} {lim : Int32} {sn Q : Nat → Bool} (hi : i < 764) (hr : gj_V r) (h : gj_yr q 4 (gj_S i)) (k : gj_yr q g r) (hg : g < 3) (hn : gj_nq n) (hs : gj_se s sn) (hL : gj_li lim r Q) (H : ∀ w s', gj_eo 3 q w → gj_se s' (fun j => sn j || decide (j = i)) → post (nI (if sn i = false ∧ Q i = true then 1 else 0)) (w, s', n)) : wpY_note post (q, s, n) (nI g) lim := by
  unfold wpY_note
  dsimp only
  refine gy_no hi h hn ⟨vp_in_nI hi (by omega), ?_⟩
  rw [nI_clamp (by omega), hs i hi]
  by_cases z : sn i = true
  · rw [if_pos z]
    have hs2 : gj_se s (fun j => sn j || decide (j = i)) := by
      intro j hj
      rw [hs j hj]
      by_cases y : j = i
      · simp [y, z]
      · simp [y]
    have h1 := H q s gj_eo_r hs2
    rw [if_neg (fun y => by rw [z] at y; exact absurd y.1 (by decide))] at h1
    exact br_f (by decide) h1
  · rw [if_neg z]
    have zf : sn i = false := by simpa using z
    refine br_t rfl ⟨vp_in_nI hi (by omega), ?_⟩
    rw [gj_bo1]
    refine nm_e ?_
    have hs2 : gj_se (upd s i 1) (fun j => sn j || decide (j = i)) := by
      intro j hj
      by_cases y : j = i
      · rw [y, pk_us]; simp
      · rw [pk_un y, hs j hj]; simp [y]
    rcases hL with ⟨l1, l2⟩ | ⟨L, l1, l2, l3⟩
    · have h1 := H q _ gj_eo_r hs2
      rw [if_pos ⟨zf, l2 i⟩] at h1
      exact br_t l1 h1
    · rw [l2]
      refine br_f (nI_pos (by omega)) (gy_way (f := 4) (gj_S_V hi) hr h k (by omega) (by omega) (by omega) (fun w kw => ?_))
      dsimp only
      have h1 := H w _ kw hs2
      refine pk_le L (gj_D (gj_S i) r) (fun y => ?_) (fun y => ?_) rfl rfl (by omega) (gj_D_2p _ _)
      · rw [if_neg (fun x => by have := x.2; rw [l3] at this; have := of_decide_eq_true this; omega)] at h1
        exact h1
      · rw [if_pos ⟨zf, by rw [l3]; exact decide_eq_true y⟩] at h1
        exact h1
theorem gj_cn_in {f g : Nat → Bool} {i : Nat} : ∀ n, i < n → (∀ j, j ≠ i → g j = f j) → f i = false → g i = true → gj_cn g n = gj_cn f n + 1 := by
  intro n
  induction n with
  | zero => intro h; omega
  | succ n ih =>
    intro hi h hf hg
    by_cases z : i = n
    · subst z
      have e : gj_cn g i = gj_cn f i := gj_cn_c (fun e he => h e (by omega))
      rw [gj_cn_t hg, gj_cn_f (by rw [hf]; decide), e]
    · have e := ih (by omega) h hf hg
      have e2 := h n (fun y => z y.symm)
      show gj_cn g n + (if g n = true then 1 else 0) = gj_cn f n + (if f n = true then 1 else 0) + 1
      rw [e, e2]
      omega
/-- what the walk over the steps keeps -/
def gj_ci (p : Nat → Nat) (Q : Nat → Bool) (a b c : Nat) (s : Nat → Int32) : Prop := ∃ sn : Nat → Bool, gj_se s sn ∧ c = gj_cn (fun i => sn i && Q i) 764 ∧ (∀ i, i < 764 → sn i = true → ∃ a' b', a' < 8 ∧ b' < 8 ∧ a' ≠ b' ∧ gj_S i = gj_nb p a' b') ∧ ∀ a' b', (a' < a ∨ (a' = a ∧ b' < b)) → a' < 8 → b' < 8 → a' ≠ b' → ∀ i, i < 764 → gj_S i = gj_nb p a' b' → sn i = true
theorem gj_ci_c {p : Nat → Nat} {Q : Nat → Bool} {a b c : Nat} {s : Nat → Int32} (h : gj_ci p Q a b c s) : c ≤ 764 := by
  obtain ⟨sn, _, e, _⟩ := h
  rw [e]
  exact gj_cn_le _ _
theorem gj_ci_n {p : Nat → Nat} {Q : Nat → Bool} {a c : Nat} {s : Nat → Int32} (h : gj_ci p Q a 8 c s) : gj_ci p Q (a + 1) 0 c s := by
  obtain ⟨sn, h1, h2, h3, h4⟩ := h
  refine ⟨sn, h1, h2, h3, fun a1 b1 hab ha hb => h4 a1 b1 (by omega) ha hb⟩
theorem gj_ci_e {p : Nat → Nat} {Q : Nat → Bool} {a b c : Nat} {s : Nat → Int32} (h : gj_ci p Q a b c s) (hab : a = b) : gj_ci p Q a (b + 1) c s := by
  obtain ⟨sn, h1, h2, h3, h4⟩ := h
  refine ⟨sn, h1, h2, h3, fun a1 b1 hz ha hb hne => h4 a1 b1 (by omega) ha hb hne⟩
theorem gj_ci_s {p : Nat → Nat} {Q sn : Nat → Bool} {a b c i : Nat} {s' : Nat → Int32} (ha : a < 8) (hb : b < 8) (hab : a ≠ b) (hi : i < 764) (hS : gj_nb p a b = gj_S i) (h2 : c = gj_cn (fun i => sn i && Q i) 764) (h3 : ∀ i, i < 764 → sn i = true → ∃ a' b', a' < 8 ∧ b' < 8 ∧ a' ≠ b' ∧ gj_S i = gj_nb p a' b') (h4 : ∀ a' b', (a' < a ∨ (a' = a ∧ b' < b)) → a' < 8 → b' < 8 → a' ≠ b' → ∀ i, i < 764 → gj_S i = gj_nb p a' b' → sn i = true) (hs : gj_se s' (fun j => sn j || decide (j = i))) : gj_ci p Q a (b + 1) (c + (if sn i = false ∧ Q i = true then 1 else 0)) s' := by
  refine ⟨fun j => sn j || decide (j = i), hs, ?_, ?_, ?_⟩
  · by_cases z : sn i = false ∧ Q i = true
    · rw [if_pos z, h2]
      refine (gj_cn_in (i := i) 764 hi (fun j hj => ?_) ?_ ?_).symm
      · show (((sn j || decide (j = i)) && Q j) = (sn j && Q j))
        rw [decide_eq_false hj, Bool.or_false]
      · show (sn i && Q i) = false
        rw [z.1]; rfl
      · show ((sn i || decide (i = i)) && Q i) = true
        rw [z.2]; simp
    · rw [if_neg z, h2]
      refine gj_cn_c (fun j hj => ?_)
      show (sn j && Q j) = ((sn j || decide (j = i)) && Q j)
      by_cases y : j = i
      · rw [y]
        cases hsn : sn i
        · have hq : Q i = false := by
            cases hq : Q i
            · rfl
            · exact absurd ⟨hsn, hq⟩ z
          rw [hq]; simp
        · simp
      · rw [decide_eq_false y, Bool.or_false]
  · intro j hj hz
    have hz2 : (sn j || decide (j = i)) = true := hz
    rw [Bool.or_eq_true] at hz2
    rcases hz2 with y | y
    · exact h3 j hj y
    · have y2 := of_decide_eq_true y
      rw [y2]
      exact ⟨a, b, ha, hb, hab, hS.symm⟩
  · intro a1 b1 hz ha1 hb1 hne j hj hSj
    show (sn j || decide (j = i)) = true
    by_cases y : a1 = a ∧ b1 = b
    · rw [y.1, y.2, hS] at hSj
      have := gj_S_inj hj hi hSj
      rw [decide_eq_true this, Bool.or_true]
    · rw [h4 a1 b1 (by omega) ha1 hb1 hne j hj hSj, Bool.true_or]
theorem gy_cs_41 {post : Int32 → SY → Prop} {J31 : Int32 → Int32 → (Nat → Int32) → (Nat → Int32) → (Nat → Int32) → Prop} {P : Nat → Nat → Nat} {t g a : Nat} {lim : Int32} {Q : Nat → Bool} {n : Nat → Int32} (hP : gj_P P) (ht : t < 3) (hg : g < 3) (hL : gj_li lim (P g) Q) (ha : a < 8) (HJ : ∀ c w s, gj_Y w n P → gj_ci (P t) Q (a + 1) 0 c s → J31 (nI c) (nI (a + 1)) w s n) : ∀ d b c w s, b + d = 8 → gj_Y w n P → gj_ci (P t) Q a b c s → wY_countSteps_41 post J31 (nI t) (nI g) lim (nI a) (d + 1) (nI c) (nI b) w s n := by
  intro d
  induction d with
  | zero =>
    intro b c w s hb h hc
    have : b = 8 := by omega
    subst this
    exact br_t (nI_le (a := 8) (by omega) (by omega)) (nm_r (nI_1 a) (HJ c w s h (gj_ci_n hc)))
  | succ d ih =>
    intro b c w s hb h hc
    refine br_f (nI_ge (b := 8) (by omega) (by omega)) ?_
    refine pk_eq a b (fun z => ?_) (fun z => ?_) rfl rfl (by omega) (by omega)
    · exact nm_r (nI_1 b) (ih (b + 1) c w s (by omega) h (gj_ci_e hc z))
    · refine gy_stepTo (hP t ht) (h.1 t ht) (by omega) ha (by omega) z (fun w1 k1 k2 => ?_)
      dsimp only
      have h1 := gj_Y_4 h k2
      obtain ⟨i, hi, hS⟩ := gj_num (gj_nb_V (hP t ht) ha (b := b) (by omega) z)
      rw [hS] at k1
      obtain ⟨sn, c1, c2, c3, c4⟩ := hc
      refine gy_note hi (hP g hg) k1 (h1.1 g hg) hg h.2 c1 hL (fun w2 s2 k3 k4 => ?_)
      dsimp only
      refine nm_r (nI_add _ _) (nm_r (nI_1 b) ?_)
      exact ih (b + 1) _ w2 s2 (by omega) (gj_Y_3 h1 k3) (gj_ci_s ha (by omega) z hi hS c2 c3 c4 k4)
theorem gy_cs_31 {post : Int32 → SY → Prop} {P : Nat → Nat → Nat} {t g : Nat} {lim : Int32} {Q : Nat → Bool} {n : Nat → Int32} (hP : gj_P P) (ht : t < 3) (hg : g < 3) (hL : gj_li lim (P g) Q) (H : ∀ c w s, gj_Y w n P → gj_ci (P t) Q 8 0 c s → post (nI c) (w, s, n)) : ∀ d a c w s, a + d = 8 → gj_Y w n P → gj_ci (P t) Q a 0 c s → wY_countSteps_31 post (nI t) (nI g) lim (d + 1) (nI c) (nI a) w s n := by
  intro d
  induction d with
  | zero =>
    intro a c w s ha h hc
    have : a = 8 := by omega
    subst this
    exact br_t (nI_le (a := 8) (by omega) (by omega)) (H c w s h hc)
  | succ d ih =>
    intro a c w s ha h hc
    refine br_f (nI_ge (b := 8) (by omega) (by omega)) ⟨9, gy_cs_41 hP ht hg hL (by omega) (fun c' w' s' h' hc' => ?_) 8 0 c w s rfl h hc⟩
    exact ih (a + 1) c' w' s' (by omega) h' hc'
theorem gj_ci_0 {p : Nat → Nat} {Q : Nat → Bool} {s : Nat → Int32} (hs : ∀ i, i < 764 → s i = 0) : gj_ci p Q 0 0 0 s := by
  refine ⟨fun _ => false, fun i hi => hs i hi, ?_, fun i hi z => absurd z Bool.false_ne_true, fun a1 b1 hz => absurd hz (by omega)⟩
  exact (gj_cn_0 (fun e he => rfl)).symm
theorem gj_ci_f {p : Nat → Nat} {Q : Nat → Bool} {c : Nat} {s : Nat → Int32} (hp : gj_V p) (h : gj_ci p Q 8 0 c s) : c = gj_cn (fun i => decide (gj_D p (gj_S i) = 1) && Q i) 764 := by
  obtain ⟨sn, h1, h2, h3, h4⟩ := h
  rw [h2]
  refine gj_cn_c (fun i hi => ?_)
  have e : sn i = decide (gj_D p (gj_S i) = 1) := by
    by_cases z : gj_D p (gj_S i) = 1
    · rw [decide_eq_true z]
      obtain ⟨a, b, ha, hb, hab, hS⟩ := gj_1_nb hp (gj_S_V hi) z
      exact h4 a b (by omega) ha hb hab i hi hS
    · rw [decide_eq_false z]
      cases hsn : sn i
      · rfl
      · obtain ⟨a, b, ha, hb, hab, hS⟩ := h3 i hi hsn
        rw [hS] at z
        exact absurd (gj_nb_1 hp ha hb hab) z
  rw [e]
theorem gy_cs_3 {post : Int32 → SY → Prop} {x1 x2 x3 : Int32} {w n : Nat → Int32} (H : ∀ s, (∀ i, i < 764 → s i = 0) → wY_countSteps_31 post x1 x2 x3 9 0 0 w s n) : ∀ d j s, j + d = 764 → (∀ i, i < j → s i = 0) → wY_countSteps_3 post x1 x2 x3 (d + 1) (nI j) w s n := by
  intro d
  induction d with
  | zero =>
    intro j s hj hs
    have : j = 764 := by omega
    subst this
    exact br_t (nI_le (a := 764) (by omega) (by omega)) ⟨9, H s hs⟩
  | succ d ih =>
    intro j s hj hs
    refine br_f (nI_ge (b := 764) (by omega) (by omega)) ⟨vp_in_nI (by omega) (by omega), nm_r (by rw [nI_clamp (by omega), gj_bo0]) (nm_r (nI_1 j) (ih (j + 1) _ (by omega) (fun i hi => ?_)))⟩
    by_cases z : i = j
    · rw [z, pk_us]
    · rw [pk_un z]; exact hs i (by omega)
theorem gy_cs {post : Int32 → SY → Prop} {P : Nat → Nat → Nat} {t g : Nat} {lim : Int32} {Q : Nat → Bool} {u s n : Nat → Int32} (hP : gj_P P) (ht : t < 3) (hg : g < 3) (hL : gj_li lim (P g) Q) (h : gj_Y u n P) (H : ∀ w s', gj_Y w n P → post (nI (gj_cn (fun i => decide (gj_D (P t) (gj_S i) = 1) && Q i) 764)) (w, s', n)) : wpY_countSteps post (u, s, n) (nI t) (nI g) lim := by
  unfold wpY_countSteps
  refine ⟨765, gy_cs_3 (fun s' hs' => ?_) 764 0 s rfl (fun i hi => absurd hi (by omega))⟩
  refine gy_cs_31 hP ht hg hL (fun c w s2 h2 hc => ?_) 8 0 0 u s' rfl h (gj_ci_0 hs')
  rw [gj_ci_f (hP t ht) hc]
  exact H w s2 h2
end
section
/-- the relation: the same three genomes on both sides, the component's list, the reference's numbers -/
def i_Rel (k : Nat) (u : SX) (v : SY) : Prop := ∃ (P : Nat → Nat → Nat) (q s n : Nat → Int32), v = (q, s, n) ∧ gj_P P ∧ gj_X u P ∧ gj_Y q n P
theorem i_up {k : Nat} {u : SX} {v : SY} (h : i_Rel k u v) : i_Rel (k + 5) u v := h
def gj_up (P : Nat → Nat → Nat) (t : Nat) (p : Nat → Nat) : Nat → Nat → Nat := fun s => if s = t then p else P s
theorem gj_up_s (P : Nat → Nat → Nat) (t : Nat) (p : Nat → Nat) : gj_up P t p t = p := if_pos rfl
theorem gj_up_P {P : Nat → Nat → Nat} {t : Nat} {p : Nat → Nat} (h : gj_P P) (hp : gj_V p) : gj_P (gj_up P t p) := by
  intro s hs
  unfold gj_up
  split
  · exact hp
  · exact h s hs
theorem gj_up_X {P : Nat → Nat → Nat} {t : Nat} {p : Nat → Nat} {u w : Nat → Int32} (h : gj_X u P) (ht : t < 3) (k1 : gj_xr w t p) (k2 : gj_eo t u w) : gj_X w (gj_up P t p) := by
  refine ⟨fun s hs => ?_, fun j hj => gj_xr_eo (h.2 j hj) k2 (by omega)⟩
  unfold gj_up
  split
  · rename_i z
    rw [z]; exact k1
  · rename_i z
    exact gj_xr_eo (h.1 s hs) k2 z
theorem gj_up_Y {P : Nat → Nat → Nat} {t : Nat} {p : Nat → Nat} {u w n : Nat → Int32} (h : gj_Y u n P) (k1 : gj_yr w t p) (k2 : gj_eo t u w) : gj_Y w n (gj_up P t p) := by
  refine ⟨fun s hs => ?_, h.2⟩
  unfold gj_up
  split
  · rename_i z
    rw [z]; exact k1
  · rename_i z
    exact gj_yr_eo (h.1 s hs) k2 z
theorem gj_up_R {k : Nat} {P : Nat → Nat → Nat} {t : Nat} {p : Nat → Nat} {u w q q' s n : Nat → Int32} (hP : gj_P P) (hX : gj_X u P) (hY : gj_Y q n P) (ht : t < 3) (hp : gj_V p) (k1 : gj_xr w t p) (k2 : gj_eo t u w) (k3 : gj_yr q' t p) (k4 : gj_eo t q q') : i_Rel k w (q', s, n) :=
  ⟨gj_up P t p, q', s, n, rfl, gj_up_P hP hp, gj_up_X hX ht k1 k2, gj_up_Y hY k3 k4⟩
/-- the arguments: good, or bad -/
def gj_bad (n : Nat) (x : Int32) : Prop := x < 0 ∨ ∃ j, n ≤ j ∧ j < 2 ^ 31 ∧ x = nI j
theorem gj_gb (n : Nat) (x : Int32) : gj_bad n x ∨ ∃ j, j < n ∧ x = nI j := by
  by_cases h : x < 0
  · exact Or.inl (Or.inl h)
  · obtain ⟨j, hj, rfl⟩ := nI_of h
    by_cases h2 : j < n
    · exact Or.inr ⟨j, h2, rfl⟩
    · exact Or.inl (Or.inr ⟨j, by omega, hj, rfl⟩)
theorem gx_slot {post : Int32 → Prop} {t : Nat} (h : t < 3) (H : post 0) : wpX_isNoSlot post (nI t) := by
  unfold wpX_isNoSlot
  exact br_f (nI_pos (by omega)) (br_t (nI_lt (b := 3) h (by omega)) H)
theorem gx_slotN {post : Int32 → Prop} {x : Int32} (h : gj_bad 3 x) (H : post 1) : wpX_isNoSlot post x := by
  unfold wpX_isNoSlot
  rcases h with h | ⟨j, h1, h2, rfl⟩
  · exact br_t h H
  · exact br_f (nI_pos h2) (br_f (nI_nlt (b := 3) h1 h2) H)
theorem gx_end {post : Int32 → Prop} {t : Nat} (h : t < 8) (H : post 0) : wpX_isNoEnd post (nI t) := by
  unfold wpX_isNoEnd
  exact br_f (nI_pos (by omega)) (br_t (nI_lt (b := 8) h (by omega)) H)
theorem gx_endN {post : Int32 → Prop} {x : Int32} (h : gj_bad 8 x) (H : post 1) : wpX_isNoEnd post x := by
  unfold wpX_isNoEnd
  rcases h with h | ⟨j, h1, h2, rfl⟩
  · exact br_t h H
  · exact br_f (nI_pos h2) (br_f (nI_nlt (b := 8) h1 h2) H)
theorem gy_slot {post : Int32 → Prop} {q s n : Nat → Int32} {t : Nat} (h : t < 3) (H : post 1) : wpY_isSlot post (q, s, n) (nI t) := by
  unfold wpY_isSlot
  exact br_f (nI_pos (by omega)) (br_f (nI_nlt (a := 2) (by omega) (by omega)) H)
theorem gy_slotN {post : Int32 → Prop} {q s n : Nat → Int32} {x : Int32} (h : gj_bad 3 x) (H : post 0) : wpY_isSlot post (q, s, n) x := by
  unfold wpY_isSlot
  rcases h with h | ⟨j, h1, h2, rfl⟩
  · exact br_t h H
  · exact br_f (nI_pos h2) (br_t (nI_lt (a := 2) (by omega) h2) H)
theorem gy_end {post : Int32 → Prop} {q s n : Nat → Int32} {t : Nat} (h : t < 8) (H : post 1) : wpY_isEnd post (q, s, n) (nI t) := by
  unfold wpY_isEnd
  exact br_f (nI_pos (by omega)) (br_f (nI_nlt (a := 7) (by omega) (by omega)) H)
theorem gy_endN {post : Int32 → Prop} {q s n : Nat → Int32} {x : Int32} (h : gj_bad 8 x) (H : post 0) : wpY_isEnd post (q, s, n) x := by
  unfold wpY_isEnd
  rcases h with h | ⟨j, h1, h2, rfl⟩
  · exact br_t h H
  · exact br_f (nI_pos h2) (br_t (nI_lt (a := 7) (by omega) h2) H)
theorem gx_lo_t {post : Int32 → Prop} {u : Nat → Int32} {t e : Nat} {p : Nat → Nat} (hp : gj_V p) (h : gj_xr u t p) (ht : t < 3) (he : e < 8) (z : p e = e) (H : post 1) : wpX_isLoose post u (nI t) (nI e) := gx_loose hp h (by omega) he (fun _ => H) (fun y => absurd z y)
theorem gx_lo_f {post : Int32 → Prop} {u : Nat → Int32} {t e : Nat} {p : Nat → Nat} (hp : gj_V p) (h : gj_xr u t p) (ht : t < 3) (he : e < 8) (z : p e ≠ e) (H : post 0) : wpX_isLoose post u (nI t) (nI e) := gx_loose hp h (by omega) he (fun y => absurd y z) (fun _ => H)
theorem gy_lo_t {post : Int32 → Prop} {q s n : Nat → Int32} {t e : Nat} {p : Nat → Nat} (hp : gj_V p) (h : gj_yr q t p) (ht : t < 3) (he : e < 8) (z : p e = e) (H : post 1) : wpY_isLoose post (q, s, n) (nI t) (nI e) := gy_loose hp h (by omega) he (fun _ => H) (fun y => absurd z y)
theorem gy_lo_f {post : Int32 → Prop} {q s n : Nat → Int32} {t e : Nat} {p : Nat → Nat} (hp : gj_V p) (h : gj_yr q t p) (ht : t < 3) (he : e < 8) (z : p e ≠ e) (H : post 0) : wpY_isLoose post (q, s, n) (nI t) (nI e) := gy_loose hp h (by omega) he (fun y => absurd y z) (fun _ => H)
theorem gj_nt_s : ∀ k, k < 7 → gj_nt (k + 2) = gj_nt (k + 1) + nI (k + 1) * gj_nt k := by decide +kernel
theorem gy_init_69 {post : SY → Prop} {q s : Nat → Int32} (H : ∀ n, gj_nq n → post (q, s, n)) : ∀ d k n, k + d = 7 → (∀ i, i < k + 2 → n i = gj_nt i) → wY_init_69 post (d + 1) (nI (k + 2)) q s n := by
  intro d
  induction d with
  | zero =>
    intro k n hk hn
    have : k = 7 := by omega
    subst this
    exact br_t (nI_le (a := 9) (by omega) (by omega)) (H n hn)
  | succ d ih =>
    intro k n hk hn
    have e1 : nI (k + 2) - 1 = nI (k + 1) := pk_sub (a := k + 2) (b := 1) (by omega)
    have e2 : nI (k + 2) - 2 = nI k := pk_sub (a := k + 2) (b := 2) (by omega)
    refine br_f (nI_ge (b := 9) (by omega) (by omega)) ⟨by rw [e1]; exact vp_in_nI (by omega) (by omega), by rw [e2]; exact vp_in_nI (by omega) (by omega), vp_in_nI (by omega) (by omega), ?_⟩
    rw [e1, e2, nI_clamp (n := k + 1) (by omega), nI_clamp (n := k) (by omega), nI_clamp (n := k + 2) (by omega), hn (k + 1) (by omega), hn k (by omega), ← gj_nt_s k (by omega)]
    refine nm_e (nm_r (nI_1 (k + 2)) (ih (k + 1) _ (by omega) (fun i hi => ?_)))
    by_cases z : i = k + 2
    · rw [z, pk_us]
    · rw [pk_un z]; exact hn i (by omega)
theorem gy_init_31 {post : SY → Prop} {s : Nat → Int32} (H : ∀ q n, (∀ i, i < 40 → q i = nI (i % 8)) → gj_nq n → post (q, s, n)) : ∀ d k q n, k + d = 40 → (∀ i, i < k → q i = nI (i % 8)) → wY_init_31 post (d + 1) (nI k) q s n := by
  intro d
  induction d with
  | zero =>
    intro k q n hk hq
    have : k = 40 := by omega
    subst this
    refine br_t (nI_le (a := 40) (by omega) (by omega)) (nm_e (nm_e ⟨8, gy_init_69 (fun n' hn' => H q n' hq hn') 7 0 _ rfl (fun i hi => ?_)⟩))
    by_cases z : i = 1
    · rw [z, pk_us]; rfl
    · have z0 : i = 0 := by omega
      rw [z0, pk_un (by omega), pk_us]; rfl
  | succ d ih =>
    intro k q n hk hq
    have e8 : nI k - nI k / 8 * 8 = nI (k % 8) := pk_rem (a := k) (d := 8) (by omega) (by omega) (by omega)
    refine br_f (nI_ge (b := 40) (by omega) (by omega)) ⟨by decide, vp_in_nI (by omega) (by omega), nm_r (by rw [e8, nI_clamp (by omega)]) (nm_r (nI_1 k) (ih (k + 1) _ n (by omega) (fun i hi => ?_)))⟩
    by_cases z : i = k
    · rw [z, pk_us]
    · rw [pk_un z]; exact hq i (by omega)
theorem gy_init {post : SY → Prop} (H : ∀ q s n, (∀ i, i < 40 → q i = nI (i % 8)) → gj_nq n → post (q, s, n)) : wpY_init post := by
  unfold wpY_init
  exact ⟨41, gy_init_31 (fun q n h1 h2 => H q _ n h1 h2) 40 0 _ _ rfl (fun i hi => absurd hi (by omega))⟩
theorem gj_mn_u {F : Nat → Nat} {m m' : Nat} (h : gj_mn F m 764) (k : gj_mn (fun i => F (gj_ix i)) m' 764) : m' = m := by
  obtain ⟨h1, i, hi, e⟩ := h
  obtain ⟨k1, j, hj, f⟩ := k
  have a1 := h1 (gj_ix j) (gj_ix_lt hj)
  obtain ⟨i', hi', e'⟩ := gj_ix_sur hi
  have a2 := k1 i' hi'
  dsimp only at a2 f
  rw [e', e] at a2
  omega
theorem gj_cn_near (p r : Nat → Nat) (W : Nat) : gj_cn (fun i => decide (gj_D p (gj_S i) = 1) && decide (gj_D (gj_S i) r < W)) 764 = gj_cn (fun j => decide (gj_D p (gj_T j) = 1) && decide (gj_D (gj_T j) r < W)) 764 := by
  have h := gj_cn_ix (fun j => decide (gj_D p (gj_T j) = 1) && decide (gj_D (gj_T j) r < W))
  exact Eq.trans (gj_cn_c (fun e he => rfl)) h.symm
theorem gj_cn_step (p : Nat → Nat) : gj_cn (fun i => decide (gj_D p (gj_S i) = 1) && true) 764 = gj_cn (fun j => decide (gj_D p (gj_T j) = 1)) 764 := by
  have h := gj_cn_ix (fun j => decide (gj_D p (gj_T j) = 1))
  exact Eq.trans (gj_cn_c (fun e he => Bool.and_true _)) h.symm
theorem gj_cn_mids (P : Nat → Nat → Nat) (m : Nat) : gj_cn (fun i => decide (gj_sm P (gj_S i) 3 = m)) 764 = gj_cn (fun i => decide (gj_sm P (gj_T i) 3 = m)) 764 := by
  have h := gj_cn_ix (fun i => decide (gj_sm P (gj_T i) 3 = m))
  exact Eq.trans (gj_cn_c (fun e he => rfl)) h.symm
end
section
theorem i_vc0 : wpX_init (fun u => wpY_init (fun v => i_Rel 0 u v)) := by
  refine gx_init (fun w hw => gy_init (fun q s n hq hn => ?_))
  refine ⟨fun _ e => e, q, s, n, rfl, fun t ht => ⟨fun e => rfl, fun e he => rfl⟩, ⟨fun t ht e he => ?_, hw.2⟩, fun t ht e he => ?_, hn⟩
  · rw [hw.1 _ (by omega)]
    exact (gj_cx_p rfl).symm
  · rw [hq _ (by omega)]
    exact congrArg nI (show (t * 8 + e) % 8 = e by omega)
theorem i_vc_join {k : Nat} {u : SX} {v : SY} (I : i_Rel k u v) (hk : k + 5 ≤ 2560) (v1 : Int32) (v2 : Int32) (v3 : Int32) : wpX_join (fun r u' => wpY_join (fun r' v' => r' = r ∧ i_Rel (k + 5) u' v') v v1 v2 v3) u v1 v2 v3 := by
  obtain ⟨P, q, s, n, rfl, hP, hX, hY⟩ := I
  have R : i_Rel (k + 5) u (q, s, n) := ⟨P, q, s, n, rfl, hP, hX, hY⟩
  unfold wpX_join wpY_join
  dsimp only
  rcases gj_gb 3 v1 with b1 | ⟨t, ht, rfl⟩
  · exact gx_slotN b1 (br_f (by decide) (gy_slotN b1 (br_t rfl ⟨rfl, R⟩)))
  refine gx_slot ht (br_t rfl ?_)
  rcases gj_gb 8 v2 with b2 | ⟨a, ha, rfl⟩
  · exact gx_endN b2 (br_f (by decide) (gy_slot ht (br_f (by decide) (gy_endN b2 (br_t rfl ⟨rfl, R⟩)))))
  refine gx_end ha (br_t rfl ?_)
  rcases gj_gb 8 v3 with b3 | ⟨b, hb, rfl⟩
  · exact gx_endN b3 (br_f (by decide) (gy_slot ht (br_f (by decide) (gy_end ha (br_f (by decide) (gy_endN b3 (br_t rfl ⟨rfl, R⟩)))))))
  refine gx_end hb (br_t rfl ?_)
  by_cases hab : nI a = nI b
  · exact br_t hab (gy_slot ht (br_f (by decide) (gy_end ha (br_f (by decide) (gy_end hb (br_f (by decide) (br_t hab ⟨rfl, R⟩)))))))
  have hab2 : a ≠ b := fun z => hab (by rw [z])
  have hp := hP t ht
  have hx := hX.1 t ht
  have hy := hY.1 t ht
  by_cases za : P t a = a
  · by_cases zb : P t b = b
    · have hpa : P t a ≠ b := by rw [za]; exact hab2
      have hV := gj_mk_V hp ha hb hab2 hpa
      refine br_f hab (gx_lo_t hp hx ht ha za (br_f (by decide) (gx_lo_t hp hx ht hb zb (br_f (by decide) (gx_make hp hx (by omega) ha hb hab2 hpa (fun w k1 k2 => gx_count hV k1 (by omega) ?_))))))
      refine gy_slot ht (br_f (by decide) (gy_end ha (br_f (by decide) (gy_end hb (br_f (by decide) (br_f hab (gy_lo_t hp hy ht ha za (br_f (by decide) (gy_lo_t hp hy ht hb zb (br_f (by decide) (gy_join hy (by omega) ha hb hab2 za zb (fun w' k3 k4 => ?_))))))))))))
      exact gy_count hV k3 (by omega) ⟨rfl, gj_up_R hP hX hY ht hV k1 k2 k3 k4⟩
    · exact br_f hab (gx_lo_t hp hx ht ha za (br_f (by decide) (gx_lo_f hp hx ht hb zb (br_t rfl (gy_slot ht (br_f (by decide) (gy_end ha (br_f (by decide) (gy_end hb (br_f (by decide) (br_f hab (gy_lo_t hp hy ht ha za (br_f (by decide) (gy_lo_f hp hy ht hb zb (br_t rfl ⟨rfl, R⟩)))))))))))))))
  · exact br_f hab (gx_lo_f hp hx ht ha za (br_t rfl (gy_slot ht (br_f (by decide) (gy_end ha (br_f (by decide) (gy_end hb (br_f (by decide) (br_f hab (gy_lo_f hp hy ht ha za (br_t rfl ⟨rfl, R⟩)))))))))))
theorem i_vc_cut {k : Nat} {u : SX} {v : SY} (I : i_Rel k u v) (hk : k + 5 ≤ 2560) (v1 : Int32) (v2 : Int32) : wpX_cut (fun r u' => wpY_cut (fun r' v' => r' = r ∧ i_Rel (k + 5) u' v') v v1 v2) u v1 v2 := by
  obtain ⟨P, q, s, n, rfl, hP, hX, hY⟩ := I
  have R : i_Rel (k + 5) u (q, s, n) := ⟨P, q, s, n, rfl, hP, hX, hY⟩
  unfold wpX_cut wpY_cut
  dsimp only
  rcases gj_gb 3 v1 with b1 | ⟨t, ht, rfl⟩
  · exact gx_slotN b1 (br_f (by decide) (gy_slotN b1 (br_t rfl ⟨rfl, R⟩)))
  refine gx_slot ht (br_t rfl ?_)
  rcases gj_gb 8 v2 with b2 | ⟨a, ha, rfl⟩
  · exact gx_endN b2 (br_f (by decide) (gy_slot ht (br_f (by decide) (gy_endN b2 (br_t rfl ⟨rfl, R⟩)))))
  refine gx_end ha (br_t rfl ?_)
  have hp := hP t ht
  have hx := hX.1 t ht
  have hy := hY.1 t ht
  by_cases za : P t a = a
  · exact gx_lo_t hp hx ht ha za (br_f (by decide) (gy_slot ht (br_f (by decide) (gy_end ha (br_f (by decide) (gy_lo_t hp hy ht ha za (br_f (by decide) ⟨rfl, R⟩)))))))
  · refine gx_lo_f hp hx ht ha za (br_t rfl ⟨gj_xv (by omega) ha, nm_r (e' := nI (P t a)) (by rw [gj_xc (by omega) ha, hx a ha, gj_cx_n za]) (gx_take hp hx (by omega) ha za (fun w k1 k2 => ?_))⟩)
    refine gy_slot ht (br_f (by decide) (gy_end ha (br_f (by decide) (gy_lo_f hp hy ht ha za (br_t rfl ⟨gj_yv (by omega) ha, nm_r (e' := nI (P t a)) (by rw [gj_yc (by omega) ha, hy a ha]) (gy_unlink hp hy (by omega) ha (fun w' k3 k4 => ?_))⟩)))))
    exact ⟨rfl, gj_up_R hP hX hY ht (gj_rm_V hp a) k1 k2 k3 k4⟩
theorem i_vc_cross {k : Nat} {u : SX} {v : SY} (I : i_Rel k u v) (hk : k + 5 ≤ 2560) (v1 : Int32) (v2 : Int32) (v3 : Int32) : wpX_cross (fun r u' => wpY_cross (fun r' v' => r' = r ∧ i_Rel (k + 5) u' v') v v1 v2 v3) u v1 v2 v3 := by
  obtain ⟨P, q, s, n, rfl, hP, hX, hY⟩ := I
  have R : i_Rel (k + 5) u (q, s, n) := ⟨P, q, s, n, rfl, hP, hX, hY⟩
  unfold wpX_cross wpY_cross
  dsimp only
  rcases gj_gb 3 v1 with b1 | ⟨t, ht, rfl⟩
  · exact gx_slotN b1 (br_f (by decide) (gy_slotN b1 (br_t rfl ⟨rfl, R⟩)))
  refine gx_slot ht (br_t rfl ?_)
  rcases gj_gb 8 v2 with b2 | ⟨a, ha, rfl⟩
  · exact gx_endN b2 (br_f (by decide) (gy_slot ht (br_f (by decide) (gy_endN b2 (br_t rfl ⟨rfl, R⟩)))))
  refine gx_end ha (br_t rfl ?_)
  rcases gj_gb 8 v3 with b3 | ⟨b, hb, rfl⟩
  · exact gx_endN b3 (br_f (by decide) (gy_slot ht (br_f (by decide) (gy_end ha (br_f (by decide) (gy_endN b3 (br_t rfl ⟨rfl, R⟩)))))))
  refine gx_end hb (br_t rfl ?_)
  have hp := hP t ht
  have hx := hX.1 t ht
  have hy := hY.1 t ht
  have l1 := gj_V_lt hp ha
  by_cases za : P t a = a
  · exact gx_lo_t hp hx ht ha za (br_f (by decide) (gy_slot ht (br_f (by decide) (gy_end ha (br_f (by decide) (gy_end hb (br_f (by decide) (gy_lo_t hp hy ht ha za (br_f (by decide) ⟨rfl, R⟩)))))))))
  · by_cases zb : P t b = b
    · exact gx_lo_f hp hx ht ha za (br_t rfl (gx_lo_t hp hx ht hb zb (br_f (by decide) (gy_slot ht (br_f (by decide) (gy_end ha (br_f (by decide) (gy_end hb (br_f (by decide) (gy_lo_f hp hy ht ha za (br_t rfl (gy_lo_t hp hy ht hb zb (br_f (by decide) ⟨rfl, R⟩)))))))))))))
    · by_cases hab : nI a = nI b
      · exact gx_lo_f hp hx ht ha za (br_t rfl (gx_lo_f hp hx ht hb zb (br_t rfl (br_t hab (gy_slot ht (br_f (by decide) (gy_end ha (br_f (by decide) (gy_end hb (br_f (by decide) (gy_lo_f hp hy ht ha za (br_t rfl (gy_lo_f hp hy ht hb zb (br_t rfl (br_t hab ⟨rfl, R⟩)))))))))))))))
      · have hab2 : a ≠ b := fun z => hab (by rw [z])
        by_cases zc : P t a = b
        · refine gx_lo_f hp hx ht ha za (br_t rfl (gx_lo_f hp hx ht hb zb (br_t rfl (br_f hab ⟨gj_xv (by omega) ha, br_t (by rw [gj_xc (by omega) ha, hx a ha, gj_cx_n za, zc]) ?_⟩))))
          exact gy_slot ht (br_f (by decide) (gy_end ha (br_f (by decide) (gy_end hb (br_f (by decide) (gy_lo_f hp hy ht ha za (br_t rfl (gy_lo_f hp hy ht hb zb (br_t rfl (br_f hab ⟨gj_yv (by omega) ha, br_t (by rw [gj_yc (by omega) ha, hy a ha, zc]) ⟨rfl, R⟩⟩))))))))))
        · have hne : ¬ nI (P t a) = nI b := fun z => zc ((nI_eq (by omega) (by omega)).mp z)
          have hV := gj_mk_V hp ha hb hab2 zc
          refine gx_lo_f hp hx ht ha za (br_t rfl (gx_lo_f hp hx ht hb zb (br_t rfl (br_f hab ⟨gj_xv (by omega) ha, br_f (by rw [gj_xc (by omega) ha, hx a ha, gj_cx_n za]; exact hne) (gx_make hp hx (by omega) ha hb hab2 zc (fun w k1 k2 => ?_))⟩))))
          refine gy_slot ht (br_f (by decide) (gy_end ha (br_f (by decide) (gy_end hb (br_f (by decide) (gy_lo_f hp hy ht ha za (br_t rfl (gy_lo_f hp hy ht hb zb (br_t rfl (br_f hab ⟨gj_yv (by omega) ha, br_f (by rw [gj_yc (by omega) ha, hy a ha]; exact hne) (gy_exch hp hy (by omega) ha hb hab2 zc za zb (fun w' k3 k4 => ?_))⟩))))))))))
          exact ⟨rfl, gj_up_R hP hX hY ht hV k1 k2 k3 k4⟩
theorem i_vc_shift {k : Nat} {u : SX} {v : SY} (I : i_Rel k u v) (hk : k + 5 ≤ 2560) (v1 : Int32) (v2 : Int32) (v3 : Int32) : wpX_shift (fun r u' => wpY_shift (fun r' v' => r' = r ∧ i_Rel (k + 5) u' v') v v1 v2 v3) u v1 v2 v3 := by
  obtain ⟨P, q, s, n, rfl, hP, hX, hY⟩ := I
  have R : i_Rel (k + 5) u (q, s, n) := ⟨P, q, s, n, rfl, hP, hX, hY⟩
  unfold wpX_shift wpY_shift
  dsimp only
  rcases gj_gb 3 v1 with b1 | ⟨t, ht, rfl⟩
  · exact gx_slotN b1 (br_f (by decide) (gy_slotN b1 (br_t rfl ⟨rfl, R⟩)))
  refine gx_slot ht (br_t rfl ?_)
  rcases gj_gb 8 v2 with b2 | ⟨a, ha, rfl⟩
  · exact gx_endN b2 (br_f (by decide) (gy_slot ht (br_f (by decide) (gy_endN b2 (br_t rfl ⟨rfl, R⟩)))))
  refine gx_end ha (br_t rfl ?_)
  rcases gj_gb 8 v3 with b3 | ⟨b, hb, rfl⟩
  · exact gx_endN b3 (br_f (by decide) (gy_slot ht (br_f (by decide) (gy_end ha (br_f (by decide) (gy_endN b3 (br_t rfl ⟨rfl, R⟩)))))))
  refine gx_end hb (br_t rfl ?_)
  have hp := hP t ht
  have hx := hX.1 t ht
  have hy := hY.1 t ht
  by_cases za : P t a = a
  · exact gx_lo_t hp hx ht ha za (br_f (by decide) (gy_slot ht (br_f (by decide) (gy_end ha (br_f (by decide) (gy_end hb (br_f (by decide) (gy_lo_t hp hy ht ha za (br_f (by decide) ⟨rfl, R⟩)))))))))
  · by_cases zb : P t b = b
    · have hab2 : a ≠ b := fun z => za (by rw [z]; exact zb)
      have zc : P t a ≠ b := fun z => za (by have := hp.1 a; rw [z, zb] at this; rw [z]; exact this)
      have hV := gj_mk_V hp ha hb hab2 zc
      refine gx_lo_f hp hx ht ha za (br_t rfl (gx_lo_t hp hx ht hb zb (br_f (by decide) ⟨gj_xv (by omega) ha, nm_r (e' := nI (P t a)) (by rw [gj_xc (by omega) ha, hx a ha, gj_cx_n za]) (gx_make hp hx (by omega) ha hb hab2 zc (fun w k1 k2 => ?_))⟩)))
      refine gy_slot ht (br_f (by decide) (gy_end ha (br_f (by decide) (gy_end hb (br_f (by decide) (gy_lo_f hp hy ht ha za (br_t rfl (gy_lo_t hp hy ht hb zb (br_f (by decide) ⟨gj_yv (by omega) ha, nm_r (e' := nI (P t a)) (by rw [gj_yc (by omega) ha, hy a ha]) (gy_unlink hp hy (by omega) ha (fun w' k3 k4 => ?_))⟩)))))))))
      refine gy_join k3 (by omega) ha hb hab2 (if_pos rfl) ?_ (fun w2 k5 k6 => ?_)
      · unfold gj_rm
        rw [if_neg (fun z => hab2 z.symm), if_neg (fun z => zc z.symm), zb]
      · rw [gj_mk_ra hp.1 hab2 zb] at k5
        exact ⟨rfl, gj_up_R hP hX hY ht hV k1 k2 k5 (gj_eo_t k4 k6)⟩
    · exact gx_lo_f hp hx ht ha za (br_t rfl (gx_lo_f hp hx ht hb zb (br_t rfl (gy_slot ht (br_f (by decide) (gy_end ha (br_f (by decide) (gy_end hb (br_f (by decide) (gy_lo_f hp hy ht ha za (br_t rfl (gy_lo_f hp hy ht hb zb (br_t rfl ⟨rfl, R⟩)))))))))))))
end
section
theorem i_vc_copy {k : Nat} {u : SX} {v : SY} (I : i_Rel k u v) (hk : k + 5 ≤ 2560) (v1 : Int32) (v2 : Int32) : wpX_copy (fun r u' => wpY_copy (fun r' v' => r' = r ∧ i_Rel (k + 5) u' v') v v1 v2) u v1 v2 := by
  obtain ⟨P, q, s, n, rfl, hP, hX, hY⟩ := I
  have R : i_Rel (k + 5) u (q, s, n) := ⟨P, q, s, n, rfl, hP, hX, hY⟩
  unfold wpX_copy wpY_copy
  dsimp only
  rcases gj_gb 3 v1 with b1 | ⟨t, ht, rfl⟩
  · exact gx_slotN b1 (br_f (by decide) (gy_slotN b1 (br_t rfl ⟨rfl, R⟩)))
  refine gx_slot ht (br_t rfl ?_)
  rcases gj_gb 3 v2 with b2 | ⟨r, hr, rfl⟩
  · exact gx_slotN b2 (br_f (by decide) (gy_slot ht (br_f (by decide) (gy_slotN b2 (br_t rfl ⟨rfl, R⟩)))))
  refine gx_slot hr (br_t rfl ?_)
  refine gx_copyr (by omega) (by omega) (hX.1 r hr) (fun w k1 k2 => gx_count (hP r hr) k2 (by omega) ?_)
  refine gy_slot ht (br_f (by decide) (gy_slot hr (br_f (by decide) (gy_copy (by omega) (by omega) (hY.1 r hr) (fun w' k3 k4 => ?_)))))
  exact gy_count (hP r hr) k4 (by omega) ⟨rfl, gj_up_R hP hX hY ht (hP r hr) k2 k1 k4 k3⟩
theorem i_vc_partner {k : Nat} {u : SX} {v : SY} (I : i_Rel k u v) (hk : k + 5 ≤ 2560) (v1 : Int32) (v2 : Int32) : wpX_partner (fun r => wpY_partner (fun r' => r' = r ∧ i_Rel (k + 5) u v) v v1 v2) u v1 v2 := by
  obtain ⟨P, q, s, n, rfl, hP, hX, hY⟩ := I
  have R : i_Rel (k + 5) u (q, s, n) := ⟨P, q, s, n, rfl, hP, hX, hY⟩
  unfold wpX_partner wpY_partner
  dsimp only
  rcases gj_gb 3 v1 with b1 | ⟨t, ht, rfl⟩
  · exact gx_slotN b1 (br_f (by decide) (gy_slotN b1 (br_t rfl ⟨rfl, R⟩)))
  refine gx_slot ht (br_t rfl ?_)
  rcases gj_gb 8 v2 with b2 | ⟨a, ha, rfl⟩
  · exact gx_endN b2 (br_f (by decide) (gy_slot ht (br_f (by decide) (gy_endN b2 (br_t rfl ⟨rfl, R⟩)))))
  refine gx_end ha (br_t rfl ?_)
  have hp := hP t ht
  have hx := hX.1 t ht
  have hy := hY.1 t ht
  by_cases za : P t a = a
  · exact gx_lo_t hp hx ht ha za (br_f (by decide) (gy_slot ht (br_f (by decide) (gy_end ha (br_f (by decide) (gy_lo_t hp hy ht ha za (br_f (by decide) ⟨rfl, R⟩)))))))
  · refine gx_lo_f hp hx ht ha za (br_t rfl ⟨gj_xv (by omega) ha, ?_⟩)
    rw [gj_xc (by omega) ha, hx a ha, gj_cx_n za]
    refine gy_slot ht (br_f (by decide) (gy_end ha (br_f (by decide) (gy_lo_f hp hy ht ha za (br_t rfl ⟨gj_yv (by omega) ha, ?_⟩)))))
    rw [gj_yc (by omega) ha, hy a ha]
    exact ⟨rfl, R⟩
theorem i_vc_joints {k : Nat} {u : SX} {v : SY} (I : i_Rel k u v) (hk : k + 5 ≤ 2560) (v1 : Int32) : wpX_joints (fun r => wpY_joints (fun r' => r' = r ∧ i_Rel (k + 5) u v) v v1) u v1 := by
  obtain ⟨P, q, s, n, rfl, hP, hX, hY⟩ := I
  have R : i_Rel (k + 5) u (q, s, n) := ⟨P, q, s, n, rfl, hP, hX, hY⟩
  unfold wpX_joints wpY_joints
  dsimp only
  rcases gj_gb 3 v1 with b1 | ⟨t, ht, rfl⟩
  · exact gx_slotN b1 (br_f (by decide) (gy_slotN b1 (br_t rfl ⟨rfl, R⟩)))
  exact gx_slot ht (br_t rfl (gx_count (hP t ht) (hX.1 t ht) (by omega) (gy_slot ht (br_f (by decide) (gy_count (hP t ht) (hY.1 t ht) (by omega) ⟨rfl, R⟩)))))
theorem i_vc_chromosomes {k : Nat} {u : SX} {v : SY} (I : i_Rel k u v) (hk : k + 5 ≤ 2560) (v1 : Int32) : wpX_chromosomes (fun r => wpY_chromosomes (fun r' => r' = r ∧ i_Rel (k + 5) u v) v v1) u v1 := by
  obtain ⟨P, q, s, n, rfl, hP, hX, hY⟩ := I
  have R : i_Rel (k + 5) u (q, s, n) := ⟨P, q, s, n, rfl, hP, hX, hY⟩
  unfold wpX_chromosomes wpY_chromosomes
  dsimp only
  rcases gj_gb 3 v1 with b1 | ⟨t, ht, rfl⟩
  · exact gx_slotN b1 (br_f (by decide) (gy_slotN b1 (br_t rfl ⟨rfl, R⟩)))
  exact gx_slot ht (br_t rfl (gx_ch (hP t ht) (hX.1 t ht) (by omega) (gy_slot ht (br_f (by decide) (gy_ch (hP t ht) (hY.1 t ht) (by omega) ⟨rfl, R⟩)))))
theorem i_vc_round {k : Nat} {u : SX} {v : SY} (I : i_Rel k u v) (hk : k + 5 ≤ 2560) (v1 : Int32) : wpX_round (fun r => wpY_round (fun r' => r' = r ∧ i_Rel (k + 5) u v) v v1) u v1 := by
  obtain ⟨P, q, s, n, rfl, hP, hX, hY⟩ := I
  have R : i_Rel (k + 5) u (q, s, n) := ⟨P, q, s, n, rfl, hP, hX, hY⟩
  unfold wpX_round wpY_round
  dsimp only
  rcases gj_gb 3 v1 with b1 | ⟨t, ht, rfl⟩
  · exact gx_slotN b1 (br_f (by decide) (gy_slotN b1 (br_t rfl ⟨rfl, R⟩)))
  exact gx_slot ht (br_t rfl (gx_rd (hP t ht) (hX.1 t ht) (by omega) (gy_slot ht (br_f (by decide) (gy_rd (hP t ht) (hY.1 t ht) (by omega) ⟨rfl, R⟩)))))
theorem i_vc_distance {k : Nat} {u : SX} {v : SY} (I : i_Rel k u v) (hk : k + 5 ≤ 2560) (v1 : Int32) (v2 : Int32) : wpX_distance (fun r u' => wpY_distance (fun r' v' => r' = r ∧ i_Rel (k + 5) u' v') v v1 v2) u v1 v2 := by
  obtain ⟨P, q, s, n, rfl, hP, hX, hY⟩ := I
  have R : i_Rel (k + 5) u (q, s, n) := ⟨P, q, s, n, rfl, hP, hX, hY⟩
  unfold wpX_distance wpY_distance
  dsimp only
  rcases gj_gb 3 v1 with b1 | ⟨t, ht, rfl⟩
  · exact gx_slotN b1 (br_f (by decide) (gy_slotN b1 (br_t rfl ⟨rfl, R⟩)))
  refine gx_slot ht (br_t rfl ?_)
  rcases gj_gb 3 v2 with b2 | ⟨r, hr, rfl⟩
  · exact gx_slotN b2 (br_f (by decide) (gy_slot ht (br_f (by decide) (gy_slotN b2 (br_t rfl ⟨rfl, R⟩)))))
  refine gx_slot hr (br_t rfl (gx_btw_ss hP hX ht hr (fun w hw => ?_)))
  refine gy_slot ht (br_f (by decide) (gy_slot hr (br_f (by decide) (gy_way (hP t ht) (hP r hr) (hY.1 t ht) (hY.1 r hr) (by omega) (by omega) (by omega) (fun w' kw => ?_)))))
  exact ⟨rfl, P, w', s, n, rfl, hP, hw, gj_Y_3 hY kw⟩
theorem i_vc_nearer {k : Nat} {u : SX} {v : SY} (I : i_Rel k u v) (hk : k + 5 ≤ 2560) (v1 : Int32) (v2 : Int32) : wpX_nearer (fun r u' => wpY_nearer (fun r' v' => r' = r ∧ i_Rel (k + 5) u' v') v v1 v2) u v1 v2 := by
  obtain ⟨P, q, s, n, rfl, hP, hX, hY⟩ := I
  have R : i_Rel (k + 5) u (q, s, n) := ⟨P, q, s, n, rfl, hP, hX, hY⟩
  unfold wpX_nearer wpY_nearer
  dsimp only
  rcases gj_gb 3 v1 with b1 | ⟨t, ht, rfl⟩
  · exact gx_slotN b1 (br_f (by decide) (gy_slotN b1 (br_t rfl ⟨rfl, R⟩)))
  refine gx_slot ht (br_t rfl ?_)
  rcases gj_gb 3 v2 with b2 | ⟨r, hr, rfl⟩
  · exact gx_slotN b2 (br_f (by decide) (gy_slot ht (br_f (by decide) (gy_slotN b2 (br_t rfl ⟨rfl, R⟩)))))
  refine gx_slot hr (br_t rfl (gx_btw_ss hP hX ht hr (fun w hw => ?_)))
  refine ⟨765, gx_near_l hP ht hr (gj_D_le _ _) (fun w2 hw2 => ?_) 764 0 w rfl hw⟩
  refine gy_slot ht (br_f (by decide) (gy_slot hr (br_f (by decide) (gy_way (hP t ht) (hP r hr) (hY.1 t ht) (hY.1 r hr) (by omega) (by omega) (by omega) (fun w' kw => ?_)))))
  dsimp only
  refine gy_cs (Q := fun i => decide (gj_D (gj_S i) (P r) < gj_D (P t) (P r))) hP ht hr (Or.inr ⟨_, gj_D_le _ _, rfl, fun i => rfl⟩) (gj_Y_3 hY kw) (fun w3 s3 h3 => ?_)
  dsimp only
  refine ⟨congrArg nI ?_, P, w3, s3, n, rfl, hP, hw2, h3⟩
  exact gj_cn_near _ _ _
theorem i_vc_steps {k : Nat} {u : SX} {v : SY} (I : i_Rel k u v) (hk : k + 5 ≤ 2560) (v1 : Int32) : wpX_steps (fun r u' => wpY_steps (fun r' v' => r' = r ∧ i_Rel (k + 5) u' v') v v1) u v1 := by
  obtain ⟨P, q, s, n, rfl, hP, hX, hY⟩ := I
  have R : i_Rel (k + 5) u (q, s, n) := ⟨P, q, s, n, rfl, hP, hX, hY⟩
  unfold wpX_steps wpY_steps
  dsimp only
  rcases gj_gb 3 v1 with b1 | ⟨t, ht, rfl⟩
  · exact gx_slotN b1 (br_f (by decide) (gy_slotN b1 (br_t rfl ⟨rfl, R⟩)))
  refine gx_slot ht (br_t rfl ⟨765, gx_steps_l hP ht (fun w2 hw2 => ?_) 764 0 u rfl hX⟩)
  refine gy_slot ht (br_f (by decide) (gy_cs (Q := fun _ => true) hP ht ht (Or.inl ⟨by decide, fun i => rfl⟩) hY (fun w3 s3 h3 => ?_)))
  dsimp only
  refine ⟨congrArg nI ?_, P, w3, s3, n, rfl, hP, hw2, h3⟩
  exact gj_cn_step _
theorem i_vc_approach {k : Nat} {u : SX} {v : SY} (I : i_Rel k u v) (hk : k + 5 ≤ 2560) (v1 : Int32) (v2 : Int32) : wpX_approach (fun r u' => wpY_approach (fun r' v' => r' = r ∧ i_Rel (k + 5) u' v') v v1 v2) u v1 v2 := by
  obtain ⟨P, q, s, n, rfl, hP, hX, hY⟩ := I
  have R : i_Rel (k + 5) u (q, s, n) := ⟨P, q, s, n, rfl, hP, hX, hY⟩
  unfold wpX_approach wpY_approach
  dsimp only
  rcases gj_gb 3 v1 with b1 | ⟨t, ht, rfl⟩
  · exact gx_slotN b1 (br_f (by decide) (gy_slotN b1 (br_t rfl ⟨rfl, R⟩)))
  refine gx_slot ht (br_t rfl ?_)
  rcases gj_gb 3 v2 with b2 | ⟨r, hr, rfl⟩
  · exact gx_slotN b2 (br_f (by decide) (gy_slot ht (br_f (by decide) (gy_slotN b2 (br_t rfl ⟨rfl, R⟩)))))
  refine gx_slot hr (br_t rfl (gx_step (hP t ht) (hP r hr) (hX.1 t ht) (hX.1 r hr) (by omega) (by omega) (fun z => ?_) (fun z w k1 k2 => ?_)))
  · exact br_t rfl (gy_slot ht (br_f (by decide) (gy_slot hr (br_f (by decide) (gy_go (hP t ht) (hP r hr) (hY.1 t ht) (hY.1 r hr) (by omega) (by omega) (fun _ => br_t rfl ⟨rfl, R⟩) (fun y => absurd y z))))))
  · have hV := gj_st_V (hP t ht) (hP r hr)
    have hP2 := gj_up_P (t := t) hP hV
    have hX2 := gj_up_X hX ht k1 k2
    refine br_f (by decide) (gx_btw_ss hP2 hX2 ht hr (fun w2 hw2 => ?_))
    refine gy_slot ht (br_f (by decide) (gy_slot hr (br_f (by decide) (gy_go (hP t ht) (hP r hr) (hY.1 t ht) (hY.1 r hr) (by omega) (by omega) (fun y => absurd z y) (fun _ w' k3 k4 => ?_)))))
    dsimp only
    have hY2 := gj_up_Y hY k3 k4
    refine br_f (by decide) (gy_way (hP2 t ht) (hP2 r hr) (hY2.1 t ht) (hY2.1 r hr) (by omega) (by omega) (by omega) (fun w3 kw => ?_))
    exact ⟨rfl, _, w3, s, n, rfl, hP2, hw2, gj_Y_3 hY2 kw⟩
theorem i_vc_middle {k : Nat} {u : SX} {v : SY} (I : i_Rel k u v) (hk : k + 5 ≤ 2560) : wpX_middle (fun r u' => wpY_middle (fun r' v' => r' = r ∧ i_Rel (k + 5) u' v') v) u := by
  obtain ⟨P, q, s, n, rfl, hP, hX, hY⟩ := I
  refine gx_mid hP hX (fun m w hw hm => gy_mid hP hY (fun m' w' hw' hm' => ?_))
  have e : m' = m := gj_mn_u (F := fun i => gj_sm P (gj_T i) 3) hm hm'
  exact ⟨by rw [e], P, w', s, n, rfl, hP, hw, hw'⟩
theorem i_vc_middles {k : Nat} {u : SX} {v : SY} (I : i_Rel k u v) (hk : k + 5 ≤ 2560) : wpX_middles (fun r u' => wpY_middles (fun r' v' => r' = r ∧ i_Rel (k + 5) u' v') v) u := by
  obtain ⟨P, q, s, n, rfl, hP, hX, hY⟩ := I
  refine gx_mids hP hX (fun m w hw hm => gy_mids hP hY (fun m' w' hw' hm' => ?_))
  have e : m' = m := gj_mn_u (F := fun i => gj_sm P (gj_T i) 3) hm hm'
  subst e
  refine ⟨congrArg nI ?_, P, w', s, n, rfl, hP, hw, hw'⟩
  exact gj_cn_mids _ _
theorem i_vc_onTheWay {k : Nat} {u : SX} {v : SY} (I : i_Rel k u v) (hk : k + 5 ≤ 2560) (v1 : Int32) (v2 : Int32) (v3 : Int32) (v4 : Int32) : wpX_onTheWay (fun r u' => wpY_onTheWay (fun r' v' => r' = r ∧ i_Rel (k + 5) u' v') v v1 v2 v3 v4) u v1 v2 v3 v4 := by
  obtain ⟨P, q, s, n, rfl, hP, hX, hY⟩ := I
  have R : i_Rel (k + 5) u (q, s, n) := ⟨P, q, s, n, rfl, hP, hX, hY⟩
  unfold wpX_onTheWay wpY_onTheWay
  dsimp only
  rcases gj_gb 3 v1 with b1 | ⟨t, ht, rfl⟩
  · exact gx_slotN b1 (br_f (by decide) (gy_slotN b1 (br_t rfl ⟨rfl, R⟩)))
  refine gx_slot ht (br_t rfl ?_)
  rcases gj_gb 3 v2 with b2 | ⟨r, hr, rfl⟩
  · exact gx_slotN b2 (br_f (by decide) (gy_slot ht (br_f (by decide) (gy_slotN b2 (br_t rfl ⟨rfl, R⟩)))))
  refine gx_slot hr (br_t rfl (gx_btw_ss hP hX ht hr (fun w hw => ?_)))
  refine ⟨765, gx_otw_l hP ht hr (fun hE w2 hw2 => ?_) (fun hA w2 hw2 => ?_) 764 0 w rfl hw (fun i hi => absurd hi (by omega))⟩
  · refine gy_slot ht (br_f (by decide) (gy_slot hr (br_f (by decide) (gy_way (hP t ht) (hP r hr) (hY.1 t ht) (hY.1 r hr) (by omega) (by omega) (by omega) (fun w' kw => ?_)))))
    dsimp only
    refine ⟨765, gy_otw_l hP ht hr (fun _ w3 h3 => ?_) (fun hA w3 h3 => ?_) 764 0 w' rfl (gj_Y_3 hY kw) (fun i hi => absurd hi (by omega))⟩
    · exact ⟨rfl, P, w3, s, n, rfl, hP, hw2, h3⟩
    · obtain ⟨j, hj, hj2⟩ := hE
      obtain ⟨i, hi, rfl⟩ := gj_ix_sur hj
      exact absurd hj2 (hA i hi)
  · refine gy_slot ht (br_f (by decide) (gy_slot hr (br_f (by decide) (gy_way (hP t ht) (hP r hr) (hY.1 t ht) (hY.1 r hr) (by omega) (by omega) (by omega) (fun w' kw => ?_)))))
    dsimp only
    refine ⟨765, gy_otw_l hP ht hr (fun hE w3 h3 => ?_) (fun _ w3 h3 => ?_) 764 0 w' rfl (gj_Y_3 hY kw) (fun i hi => absurd hi (by omega))⟩
    · obtain ⟨i, hi, hi2⟩ := hE
      exact absurd hi2 (hA (gj_ix i) (gj_ix_lt hi))
    · exact ⟨rfl, P, w3, s, n, rfl, hP, hw2, h3⟩
end
