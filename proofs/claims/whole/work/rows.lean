section
/-! pure rows to paste: stores, nI and lN arithmetic, masks, shifts, narrowing, branches by naturals (pk_le, pk_lt, pk_eq), loops (lp1 .. lp16: the measure of the state; rp1 ..: recursion), negatives. Take what you need -/
theorem pk_us {f : Nat → Int32} {k : Nat} {x : Int32} : upd f k x k = x := if_pos rfl
theorem pk_un {f : Nat → Int32} {k j : Nat} {x : Int32} (h : j ≠ k) : upd f k x j = f j := if_neg h
theorem pk_sub {a b : Nat} (h : b ≤ a) : nI a - nI b = nI (a - b) := by
  obtain ⟨c, rfl⟩ : ∃ c, a = c + b := ⟨a - b, by omega⟩
  rw [← nI_add, Int32.add_sub_cancel, Nat.add_sub_cancel]
theorem pk_m1 (n : Nat) : nI (n + 1) + (-1) = nI n := by
  rw [← nI_1, Int32.add_assoc, show (1 : Int32) + (-1) = 0 from rfl, Int32.add_zero]
theorem pk_mul (a b : Nat) : nI a * nI b = nI (a * b) := (Int32.ofNat_mul a b).symm
theorem pk_div {a d : Nat} (ha : a < 2 ^ 31) (h0 : 0 < d) (hd : d < 2 ^ 31) : nI a / nI d = nI (a / d) := by
  apply Int32.toInt_inj.mp
  rw [lg_idiv_nonneg (by rw [nI_toInt ha]; omega) (by rw [nI_toInt hd]; omega), nI_toInt ha, nI_toInt hd, nI_toInt (Nat.lt_of_le_of_lt (Nat.div_le_self a d) ha)]
  first | rfl | exact (Int.natCast_ediv _ _).symm
theorem pk_rem {a d : Nat} (ha : a < 2 ^ 31) (h0 : 0 < d) (hd : d < 2 ^ 31) : nI a - nI a / nI d * nI d = nI (a % d) := by
  rw [pk_div ha h0 hd, pk_mul, pk_sub (Nat.div_mul_le_self a d)]
  exact congrArg nI (by have := Nat.div_add_mod' a d; omega)
theorem pk_sub_toInt {a b : Nat} (ha : a < 2 ^ 30) (hb : b < 2 ^ 30) : (nI a - nI b).toInt = (a : Int) - b := by
  rw [Int32.toInt_sub, nI_toInt (by omega), nI_toInt (by omega)]
  exact Int.bmod_eq_of_le (by omega) (by omega)
theorem pk_sneg {a b : Nat} (hb : b < 2 ^ 30) (h : a < b) : nI a - nI b < 0 := by
  rw [Int32.lt_iff_toInt_lt, pk_sub_toInt (by omega) hb, show (0 : Int32).toInt = 0 from by decide]
  omega
theorem pk_ix (x : Int32) {n : Nat} (hn : n < 2 ^ 31) : x < 0 ∨ nI n ≤ x ∨ ∃ j : Nat, j < n ∧ x = nI j := by
  by_cases h : x < 0
  · exact Or.inl h
  · obtain ⟨j, hj, rfl⟩ := nI_of h
    by_cases h2 : j < n
    · exact Or.inr (Or.inr ⟨j, h2, rfl⟩)
    · exact Or.inr (Or.inl (nI_le (by omega) hj))
theorem pk_le {x y : Int32} {A B : Prop} (a b : Nat) (f : a ≤ b → A) (g : b < a → B) (hx : x = nI a := by rfl) (hy : y = nI b := by rfl) (ha : a < 2 ^ 31 := by omega) (hb : b < 2 ^ 31 := by omega) : (x ≤ y → A) ∧ (¬ x ≤ y → B) := by
  subst hx hy
  rw [nI_leI ha hb]
  exact ⟨f, fun z => g (by omega)⟩
theorem pk_lt {x y : Int32} {A B : Prop} (a b : Nat) (f : a < b → A) (g : b ≤ a → B) (hx : x = nI a := by rfl) (hy : y = nI b := by rfl) (ha : a < 2 ^ 31 := by omega) (hb : b < 2 ^ 31 := by omega) : (x < y → A) ∧ (¬ x < y → B) := by
  subst hx hy
  rw [nI_ltI ha hb]
  exact ⟨f, fun z => g (by omega)⟩
theorem pk_eq {x y : Int32} {A B : Prop} (a b : Nat) (f : a = b → A) (g : a ≠ b → B) (hx : x = nI a := by rfl) (hy : y = nI b := by rfl) (ha : a < 2 ^ 31 := by omega) (hb : b < 2 ^ 31 := by omega) : (x = y → A) ∧ (¬ x = y → B) := by
  subst hx hy
  rw [nI_eq ha hb]
  exact ⟨f, g⟩
theorem pk_in {x : Int32} (n N : Nat) (h : n < N) (hx : x = nI n := by rfl) (hN : N < 2 ^ 31 := by omega) : vp_in x N := by
  subst hx
  exact vp_in_nI h hN
theorem pk_cl {x : Int32} (n : Nat) (hx : x = nI n := by rfl) (h : n < 2 ^ 31 := by omega) : x.toNatClampNeg = n := by
  subst hx
  exact nI_clamp h
theorem pk_tn {n : Nat} (h : n < 2 ^ 32) : (nI n).toBitVec.toNat = n := Nat.mod_eq_of_lt h
theorem pk_and (x : Int32) {m : Int32} (k : Nat) (hm : m.toBitVec.toNat = 2 ^ k - 1) : x &&& m = nI (x.toBitVec.toNat % 2 ^ k) := by
  apply Int32.toBitVec_inj.mp
  apply BitVec.eq_of_toNat_eq
  rw [Int32.toBitVec_and, BitVec.toNat_and, hm, Nat.and_two_pow_sub_one_eq_mod]
  show _ = (BitVec.ofNat 32 _).toNat
  rw [BitVec.toNat_ofNat]
  exact (Nat.mod_eq_of_lt (Nat.lt_of_le_of_lt (Nat.mod_le _ _) x.toBitVec.isLt)).symm
theorem pk_andN {n : Nat} (h : n < 2 ^ 32) {m : Int32} (k : Nat) (hm : m.toBitVec.toNat = 2 ^ k - 1) : nI n &&& m = nI (n % 2 ^ k) := by
  rw [pk_and _ k hm, pk_tn h]
theorem pk_andE (x : Int32) {m : Int32} (k : Nat) (hm : m.toBitVec.toNat = 2 ^ k - 1) : ∃ j : Nat, j < 2 ^ k ∧ x &&& m = nI j := ⟨_, Nat.mod_lt _ (Nat.two_pow_pos k), pk_and x k hm⟩
theorem pk_andIn (x : Int32) {m : Int32} (k : Nat) (hm : m.toBitVec.toNat = 2 ^ k - 1) (hk : k ≤ 30) : vp_in (x &&& m) (2 ^ k) := by
  obtain ⟨j, hj, e⟩ := pk_andE x k hm
  rw [e]
  exact vp_in_nI hj (Nat.lt_of_le_of_lt (Nat.pow_le_pow_right (by decide) hk) (by decide))
theorem pk_shl (a s : Int32) (k : Nat) (hs : (s.toBitVec.smod 32).toNat = k) : (a <<< s).toBitVec.toNat = a.toBitVec.toNat * 2 ^ k % 2 ^ 32 := by
  show (a.toBitVec <<< (s.toBitVec.smod 32).toNat).toNat = _
  rw [hs, BitVec.toNat_shiftLeft, Nat.shiftLeft_eq]
theorem pk_shlN {n : Nat} (s : Int32) (k : Nat) (hs : (s.toBitVec.smod 32).toNat = k) (h : n * 2 ^ k < 2 ^ 32) : nI n <<< s = nI (n * 2 ^ k) := by
  apply Int32.toBitVec_inj.mp
  apply BitVec.eq_of_toNat_eq
  have hn : n < 2 ^ 32 := Nat.lt_of_le_of_lt (Nat.le_mul_of_pos_right n (Nat.two_pow_pos k)) h
  rw [pk_shl _ _ k hs, pk_tn hn, pk_tn h, Nat.mod_eq_of_lt h]
theorem pk_shr (a s : Int32) (k : Nat) (hs : (s.toBitVec.smod 32).toNat = k) : (a >>> s).toInt = a.toInt >>> k := by
  show (a.toBitVec.sshiftRight (s.toBitVec.smod 32).toNat).toInt = _
  rw [hs, BitVec.toInt_sshiftRight]
  rfl
theorem pk_shrN {n : Nat} (h : n < 2 ^ 31) (s : Int32) (k : Nat) (hs : (s.toBitVec.smod 32).toNat = k) : nI n >>> s = nI (n / 2 ^ k) := by
  apply Int32.toInt_inj.mp
  have h2 : n / 2 ^ k ≤ n := Nat.div_le_self _ _
  rw [pk_shr _ _ k hs, nI_toInt h, nI_toInt (by omega), Int.shiftRight_eq_div_pow]
  rfl
end
section
/-- a genome: each end's partner, a loose end its own -/
def gj_V (p : Nat → Nat) : Prop := (∀ e, p (p e) = e) ∧ ∀ e, 8 ≤ e → p e = e
/-- the genome with the joint a b made: what both leave behind becomes a joint, or loose -/
def gj_mk (p : Nat → Nat) (a b : Nat) : Nat → Nat := fun e =>
  if e = a then b else if e = b then a else if e = p a then (if p b = b then e else p b) else if e = p b then (if p a = a then e else p a) else p e
/-- the genome with the joint at a taken away -/
def gj_rm (p : Nat → Nat) (a : Nat) : Nat → Nat := fun e => if e = a then e else if e = p a then e else p e
theorem gj_V_lt {p : Nat → Nat} (h : gj_V p) {e : Nat} (he : e < 8) : p e < 8 := by
  by_cases h8 : p e < 8
  · exact h8
  · have h1 := h.2 (p e) (by omega)
    have h2 := h.1 e
    omega
theorem gj_mk_I {p : Nat → Nat} (I : ∀ e, p (p e) = e) {a b : Nat} (hab : a ≠ b) (hp : p a ≠ b) : ∀ e, gj_mk p a b (gj_mk p a b e) = e := by
  intro e
  have h1 := I a
  have h2 := I b
  have h3 := I e
  unfold gj_mk
  grind
theorem gj_rm_I {p : Nat → Nat} (I : ∀ e, p (p e) = e) (a : Nat) : ∀ e, gj_rm p a (gj_rm p a e) = e := by
  intro e
  have h1 := I a
  have h3 := I e
  unfold gj_rm
  grind
theorem gj_mk_V {p : Nat → Nat} (h : gj_V p) {a b : Nat} (ha : a < 8) (hb : b < 8) (hab : a ≠ b) (hp : p a ≠ b) : gj_V (gj_mk p a b) := by
  refine ⟨gj_mk_I h.1 hab hp, fun e he => ?_⟩
  have h1 := gj_V_lt h ha
  have h2 := gj_V_lt h hb
  have h3 := h.2 e he
  unfold gj_mk
  rw [if_neg (by omega), if_neg (by omega), if_neg (by omega), if_neg (by omega), h3]
theorem gj_rm_V {p : Nat → Nat} (h : gj_V p) (a : Nat) : gj_V (gj_rm p a) := by
  refine ⟨gj_rm_I h.1 a, fun e he => ?_⟩
  have h3 := h.2 e he
  unfold gj_rm
  rw [h3]
  simp
theorem gj_mk_s {p : Nat → Nat} (I : ∀ e, p (p e) = e) {a b : Nat} (hab : a ≠ b) (hp : p a ≠ b) : gj_mk p a b = gj_mk p b a := by
  funext e
  have h1 := I a
  have h2 := I b
  have h3 := I e
  unfold gj_mk
  grind
theorem gj_mk_a {p : Nat → Nat} {a b : Nat} : gj_mk p a b a = b := if_pos rfl
theorem gj_mk_b {p : Nat → Nat} {a b : Nat} : gj_mk p a b b = a := by
  unfold gj_mk
  by_cases h : b = a
  · rw [if_pos h]; exact h
  · rw [if_neg h, if_pos rfl]
/-- the values of a made joint, one by one -/
theorem gj_mk_pa {p : Nat → Nat} {a b e : Nat} (h1 : e ≠ a) (h2 : e ≠ b) (h3 : e = p a) (h4 : p b = b) : gj_mk p a b e = e := by
  unfold gj_mk; rw [if_neg h1, if_neg h2, if_pos h3, if_pos h4]
theorem gj_mk_o {p : Nat → Nat} {a b e : Nat} (h1 : e ≠ a) (h2 : e ≠ b) (h3 : e ≠ p a) (h4 : e ≠ p b) : gj_mk p a b e = p e := by
  unfold gj_mk; rw [if_neg h1, if_neg h2, if_neg h3, if_neg h4]
/-- if the second joint came with the first, either makes both -/
theorem gj_mk_2 {p : Nat → Nat} (I : ∀ e, p (p e) = e) {a b c d : Nat} (hab : a ≠ b) (hcd : c ≠ d) (hp : p a ≠ b) (hq : p c ≠ d) (h1 : c ≠ a) (h2 : c ≠ b) (h3 : d ≠ a) (h4 : d ≠ b) (h : gj_mk p a b c = d) : gj_mk p a b = gj_mk p c d := by
  have i1 := I a
  have i2 := I b
  have k : (c = p a ∧ d = p b) ∨ (c = p b ∧ d = p a) := by
    unfold gj_mk at h
    grind
  funext e
  have i5 := I e
  clear h
  rcases k with ⟨k1, k2⟩ | ⟨k1, k2⟩
  · subst k1 k2
    unfold gj_mk
    rw [i1, i2]
    grind
  · subst k1 k2
    unfold gj_mk
    rw [i1, i2]
    grind
/-- else the two steps may change places -/
theorem gj_mk_c {p : Nat → Nat} (I : ∀ e, p (p e) = e) {a b c d : Nat} (hab : a ≠ b) (hcd : c ≠ d) (hp : p a ≠ b) (hq : p c ≠ d) (h1 : c ≠ a) (h2 : c ≠ b) (h3 : d ≠ a) (h4 : d ≠ b) (h : gj_mk p a b c ≠ d) : gj_mk (gj_mk p a b) c d = gj_mk (gj_mk p c d) a b := by
  funext e
  have i1 := I a
  have i2 := I b
  have i3 := I c
  have i4 := I d
  have i5 := I e
  unfold gj_mk at *
  grind (splits := 40)
theorem gj_rm_c {p : Nat → Nat} (I : ∀ e, p (p e) = e) {a c : Nat} : gj_rm (gj_rm p a) c = gj_rm (gj_rm p c) a := by
  funext e
  have i1 := I a
  have i3 := I c
  have i5 := I e
  unfold gj_rm at *
  grind
end
section
/-- the first end at or behind i, of k, whose joint in r is wanting in p -/
def gj_lk (p r : Nat → Nat) : Nat → Nat → Nat
  | 0, i => i
  | k + 1, i => if r i ≠ i ∧ p i ≠ r i then i else gj_lk p r k (i + 1)
theorem gj_lk_s (p r : Nat → Nat) : ∀ k i, gj_lk p r k i ≤ i + k ∧ i ≤ gj_lk p r k i ∧ (∀ j, i ≤ j → j < gj_lk p r k i → r j ≠ j → p j = r j) ∧ (gj_lk p r k i < i + k → r (gj_lk p r k i) ≠ gj_lk p r k i ∧ p (gj_lk p r k i) ≠ r (gj_lk p r k i)) := by
  intro k
  induction k with
  | zero =>
    intro i
    refine ⟨Nat.le_refl _, Nat.le_refl _, fun j h1 h2 => ?_, fun h => ?_⟩
    · have h3 : j < i := h2
      omega
    · have h3 : i < i + 0 := h
      omega
  | succ k ih =>
    intro i
    by_cases h : r i ≠ i ∧ p i ≠ r i
    · have e : gj_lk p r (k + 1) i = i := if_pos h
      rw [e]
      exact ⟨by omega, by omega, fun j h1 h2 => absurd h2 (by omega), fun _ => h⟩
    · have e : gj_lk p r (k + 1) i = gj_lk p r k (i + 1) := if_neg h
      rw [e]
      obtain ⟨h1, h2, h3, h4⟩ := ih (i + 1)
      refine ⟨by omega, by omega, fun j j1 j2 j3 => ?_, fun z => h4 (by omega)⟩
      by_cases hj : j = i
      · subst hj
        by_cases hz : p j = r j
        · exact hz
        · exact absurd ⟨j3, hz⟩ h
      · exact h3 j (by omega) j2 j3
/-- the first of the eight -/
def gj_l (p r : Nat → Nat) : Nat := gj_lk p r 8 0
theorem gj_l_t {p r : Nat → Nat} (h : gj_l p r < 8) : r (gj_l p r) ≠ gj_l p r ∧ p (gj_l p r) ≠ r (gj_l p r) := (gj_lk_s p r 8 0).2.2.2 (by unfold gj_l at h; omega)
theorem gj_l_b {p r : Nat → Nat} : ∀ j, j < gj_l p r → r j ≠ j → p j = r j := fun j hj => (gj_lk_s p r 8 0).2.2.1 j (by omega) hj
theorem gj_l_f {p r : Nat → Nat} (hr : gj_V r) (h : ¬ gj_l p r < 8) : ∀ e, r e ≠ e → p e = r e := by
  intro e he
  by_cases h8 : e < 8
  · exact gj_l_b e (by omega) he
  · exact absurd (hr.2 e (by omega)) he
theorem gj_l_i {p r : Nat → Nat} (hr : gj_V r) {e : Nat} (he : r e ≠ e) (hp : p e ≠ r e) : gj_l p r < 8 := by
  by_cases h : gj_l p r < 8
  · exact h
  · exact absurd (gj_l_f hr h e he) hp
/-- one greedy step from p to r -/
def gj_st (p r : Nat → Nat) : Nat → Nat := if gj_l p r < 8 then gj_mk p (gj_l p r) (r (gj_l p r)) else if gj_l r p < 8 then gj_rm p (gj_l r p) else p
/-- the greedy count, with fuel -/
def gj_gr : Nat → (Nat → Nat) → (Nat → Nat) → Nat
  | 0, _, _ => 0
  | n + 1, p, r => if gj_l p r < 8 ∨ gj_l r p < 8 then gj_gr n (gj_st p r) r + 1 else 0
def gj_D (p r : Nat → Nat) : Nat := gj_gr 8 p r
theorem gj_gr_le : ∀ n p r, gj_gr n p r ≤ n := by
  intro n
  induction n with
  | zero => intro p r; exact Nat.le_refl _
  | succ n ih =>
    intro p r
    show (if gj_l p r < 8 ∨ gj_l r p < 8 then gj_gr n (gj_st p r) r + 1 else 0) ≤ n + 1
    split
    · have := ih (gj_st p r) r
      omega
    · omega
theorem gj_D_le (p r : Nat → Nat) : gj_D p r ≤ 8 := gj_gr_le 8 p r
theorem gj_gr_s {n : Nat} {p r : Nat → Nat} (h : gj_l p r < 8 ∨ gj_l r p < 8) : gj_gr (n + 1) p r = gj_gr n (gj_st p r) r + 1 := if_pos h
theorem gj_gr_0 {n : Nat} {p r : Nat → Nat} (h : ¬ (gj_l p r < 8 ∨ gj_l r p < 8)) : gj_gr n p r = 0 := by
  cases n with
  | zero => rfl
  | succ n => exact if_neg h
theorem gj_ne_l {p r : Nat → Nat} (hp : gj_V p) (hr : gj_V r) (h : ¬ (gj_l p r < 8 ∨ gj_l r p < 8)) : p = r := by
  funext e
  have h1 := gj_l_f (p := p) hr (fun z => h (Or.inl z)) e
  have h2 := gj_l_f (p := r) hp (fun z => h (Or.inr z)) e
  by_cases hz : r e = e
  · by_cases hy : p e = e
    · omega
    · have := h2 hy; omega
  · exact h1 hz
theorem gj_l_self {p : Nat → Nat} : ¬ gj_l p p < 8 := fun h => (gj_l_t h).2 rfl
theorem gj_D_self (p : Nat → Nat) : gj_D p p = 0 := gj_gr_0 (fun h => h.elim gj_l_self gj_l_self)
theorem gj_st_V {p r : Nat → Nat} (hp : gj_V p) (hr : gj_V r) : gj_V (gj_st p r) := by
  unfold gj_st
  split
  · rename_i h
    have := gj_l_t h
    exact gj_mk_V hp h (gj_V_lt hr h) (fun z => this.1 z.symm) this.2
  · split
    · exact gj_rm_V hp _
    · exact hp
/-- counting the ends below n -/
def gj_cn (f : Nat → Bool) : Nat → Nat
  | 0 => 0
  | n + 1 => gj_cn f n + (if f n = true then 1 else 0)
theorem gj_cn_le (f : Nat → Bool) : ∀ n, gj_cn f n ≤ n := by
  intro n
  induction n with
  | zero => exact Nat.le_refl _
  | succ n ih => show gj_cn f n + (if f n = true then 1 else 0) ≤ n + 1; split <;> omega
theorem gj_cn_mono {f g : Nat → Bool} : ∀ n, (∀ e, e < n → g e = true → f e = true) → gj_cn g n ≤ gj_cn f n := by
  intro n
  induction n with
  | zero => intro _; exact Nat.le_refl _
  | succ n ih =>
    intro h
    have h1 := ih (fun e he => h e (by omega))
    have h2 := h n (by omega)
    show gj_cn g n + (if g n = true then 1 else 0) ≤ gj_cn f n + (if f n = true then 1 else 0)
    by_cases hg : g n = true
    · rw [if_pos hg, if_pos (h2 hg)]; omega
    · rw [if_neg hg]; omega
theorem gj_cn_1 {f g : Nat → Bool} {a : Nat} : ∀ n, (∀ e, e < n → g e = true → f e = true) → a < n → f a = true → g a = false → gj_cn g n + 1 ≤ gj_cn f n := by
  intro n
  induction n with
  | zero => intro _ h; omega
  | succ n ih =>
    intro h ha hf hg
    have h2 := h n (by omega)
    show gj_cn g n + (if g n = true then 1 else 0) + 1 ≤ gj_cn f n + (if f n = true then 1 else 0)
    by_cases hn : a = n
    · subst hn
      have h1 := gj_cn_mono (f := f) (g := g) a (fun e he => h e (by omega))
      rw [if_pos hf, hg, if_neg (by decide)]; omega
    · have h1 := ih (fun e he => h e (by omega)) (by omega) hf hg
      by_cases hg : g n = true
      · rw [if_pos hg, if_pos (h2 hg)]; omega
      · rw [if_neg hg]; omega
theorem gj_cn_2 {f g : Nat → Bool} {a b n : Nat} (h : ∀ e, e < n → g e = true → f e = true) (ha : a < n) (hb : b < n) (hab : a ≠ b) (fa : f a = true) (ga : g a = false) (fb : f b = true) (gb : g b = false) : gj_cn g n + 2 ≤ gj_cn f n := by
  have h1 := gj_cn_1 (f := fun e => g e || decide (e = a)) (g := g) (a := a) n (fun e _ hg => by simp [hg]) ha (by simp) ga
  have h2 := gj_cn_1 (f := f) (g := fun e => g e || decide (e = a)) (a := b) n (fun e he hg => by
    simp only [Bool.or_eq_true, decide_eq_true_eq] at hg
    rcases hg with hg | hg
    · exact h e he hg
    · rw [hg]; exact fa) hb fb (by simp [gb]; omega)
  omega
/-- ends whose joint in r is wanting in p; ends joined in p alone -/
def gj_A (p r : Nat → Nat) : Nat := gj_cn (fun e => decide (r e ≠ e ∧ p e ≠ r e)) 8
def gj_C (p r : Nat → Nat) : Nat := gj_cn (fun e => decide (p e ≠ e ∧ r e = e)) 8
theorem gj_cn_0 {f : Nat → Bool} {n : Nat} (h : ∀ e, e < n → f e = false) : gj_cn f n = 0 := by
  induction n with
  | zero => rfl
  | succ n ih =>
    show gj_cn f n + (if f n = true then 1 else 0) = 0
    rw [ih (fun e he => h e (by omega)), h n (by omega)]
    rfl
/-- making r's joint at a: no other joint of r is lost -/
theorem gj_mk_k {p r : Nat → Nat} (I : ∀ e, p (p e) = e) (J : ∀ e, r (r e) = e) {a e : Nat} (hp : p a ≠ r a) (he : p e = r e) : gj_mk p a (r a) e = r e := by
  have i1 := I a
  have i2 := I (r a)
  have i3 := I e
  have j1 := J a
  have j2 := J e
  unfold gj_mk
  grind
theorem gj_A_mk {p r : Nat → Nat} (hp : gj_V p) (hr : gj_V r) {a : Nat} (h1 : r a ≠ a) (h2 : p a ≠ r a) : gj_A (gj_mk p a (r a)) r + 2 ≤ gj_A p r := by
  have ha : a < 8 := by
    by_cases h : a < 8
    · exact h
    · exact absurd (hr.2 a (by omega)) h1
  have hb := gj_V_lt hr ha
  refine gj_cn_2 (a := a) (b := r a) (fun e _ h => ?_) ha hb (fun z => h1 z.symm) ?_ ?_ ?_ ?_
  · simp only [decide_eq_true_eq] at h ⊢
    exact ⟨h.1, fun z => h.2 (gj_mk_k hp.1 hr.1 h2 z)⟩
  · simp only [decide_eq_true_eq]
    exact ⟨h1, h2⟩
  · simp only [decide_eq_false_iff_not]
    exact fun z => z.2 gj_mk_a
  · simp only [decide_eq_true_eq]
    refine ⟨fun z => h1 (by rw [hr.1 a] at z; exact z.symm), fun z => h2 ?_⟩
    rw [hr.1 a] at z
    have := hp.1 (r a)
    rw [z] at this
    exact this
  · simp only [decide_eq_false_iff_not]
    exact fun z => z.2 (by rw [gj_mk_b, hr.1 a])
theorem gj_C_rm {p r : Nat → Nat} (hp : gj_V p) (hr : gj_V r) (h0 : ∀ e, r e ≠ e → p e = r e) {a : Nat} (h1 : p a ≠ a) (h2 : r a = a) : gj_C (gj_rm p a) r + 2 ≤ gj_C p r := by
  have ha : a < 8 := by
    by_cases h : a < 8
    · exact h
    · exact absurd (hp.2 a (by omega)) h1
  have hb := gj_V_lt hp ha
  have h3 : r (p a) = p a := by
    by_cases hz : r (p a) = p a
    · exact hz
    · have e1 := h0 _ hz
      rw [hp.1 a] at e1
      have e2 := hr.1 (p a)
      rw [← e1, h2] at e2
      exact absurd e2.symm h1
  refine gj_cn_2 (a := a) (b := p a) (fun e _ h => ?_) ha hb (fun z => h1 z.symm) ?_ ?_ ?_ ?_
  · simp only [decide_eq_true_eq] at h ⊢
    refine ⟨fun z => h.1 ?_, h.2⟩
    unfold gj_rm
    rw [z]; simp
  · simp only [decide_eq_true_eq]
    exact ⟨h1, h2⟩
  · simp only [decide_eq_false_iff_not]
    exact fun z => z.1 (if_pos rfl)
  · simp only [decide_eq_true_eq]
    exact ⟨fun z => h1 (by rw [hp.1 a] at z; exact z.symm), h3⟩
  · simp only [decide_eq_false_iff_not]
    exact fun z => z.1 (by unfold gj_rm; rw [if_neg h1, if_pos rfl])
theorem gj_rm_k {p r : Nat → Nat} (hp : gj_V p) (hr : gj_V r) (h0 : ∀ e, r e ≠ e → p e = r e) {a : Nat} (h1 : p a ≠ a) (h2 : r a = a) : ∀ e, r e ≠ e → gj_rm p a e = r e := by
  intro e he
  have i1 := hp.1 a
  have i2 := hp.1 e
  have j1 := hr.1 e
  have k1 := h0 e he
  have k2 := h0 (p a)
  unfold gj_rm
  grind
theorem gj_st_mk {p r : Nat → Nat} (h : gj_l p r < 8) : gj_st p r = gj_mk p (gj_l p r) (r (gj_l p r)) := if_pos h
theorem gj_st_rm {p r : Nat → Nat} (h : ¬ gj_l p r < 8) (h2 : gj_l r p < 8) : gj_st p r = gj_rm p (gj_l r p) := by
  unfold gj_st; rw [if_neg h, if_pos h2]
theorem gj_l_r {p r : Nat → Nat} (hr : gj_V r) (h : ¬ gj_l p r < 8) (h2 : gj_l r p < 8) : p (gj_l r p) ≠ gj_l r p ∧ r (gj_l r p) = gj_l r p := by
  have h3 := gj_l_t h2
  refine ⟨h3.1, ?_⟩
  by_cases hz : r (gj_l r p) = gj_l r p
  · exact hz
  · exact absurd (gj_l_f hr h _ hz).symm h3.2
theorem gj_stab0 : ∀ n p r, gj_V p → gj_V r → (∀ e, r e ≠ e → p e = r e) → gj_C p r ≤ 2 * n → gj_gr n p r = gj_gr (n + 1) p r := by
  intro n
  induction n with
  | zero =>
    intro p r hp hr h0 hC
    rw [gj_gr_0 (n := 1) (p := p) (r := r)]
    · rfl
    · intro h
      have hn : ¬ gj_l p r < 8 := fun z => (gj_l_t z).2 (h0 _ (gj_l_t z).1)
      have h2 : gj_l r p < 8 := h.elim (fun z => absurd z hn) id
      have h3 := gj_l_r hr hn h2
      have := gj_C_rm hp hr h0 h3.1 h3.2
      omega
  | succ n ih =>
    intro p r hp hr h0 hC
    by_cases h : gj_l p r < 8 ∨ gj_l r p < 8
    · have hn : ¬ gj_l p r < 8 := fun z => (gj_l_t z).2 (h0 _ (gj_l_t z).1)
      have h2 : gj_l r p < 8 := h.elim (fun z => absurd z hn) id
      have h3 := gj_l_r hr hn h2
      have h4 := gj_C_rm hp hr h0 h3.1 h3.2
      rw [gj_gr_s h, gj_gr_s h, gj_st_rm hn h2]
      rw [ih _ r (gj_rm_V hp _) hr (gj_rm_k hp hr h0 h3.1 h3.2) (by omega)]
    · rw [gj_gr_0 h, gj_gr_0 h]
theorem gj_C_le (p r : Nat → Nat) : gj_C p r ≤ 8 := gj_cn_le _ 8
theorem gj_A_le (p r : Nat → Nat) : gj_A p r ≤ 8 := gj_cn_le _ 8
theorem gj_stab : ∀ m p r, gj_V p → gj_V r → gj_A p r ≤ 2 * m → gj_gr (m + 4) p r = gj_gr (m + 5) p r := by
  intro m
  induction m with
  | zero =>
    intro p r hp hr hA
    by_cases h : gj_l p r < 8
    · have h1 := gj_l_t h
      have := gj_A_mk hp hr h1.1 h1.2
      omega
    · exact gj_stab0 4 p r hp hr (gj_l_f hr h) (gj_C_le p r)
  | succ m ih =>
    intro p r hp hr hA
    by_cases h : gj_l p r < 8
    · have h1 := gj_l_t h
      have h2 := gj_A_mk hp hr h1.1 h1.2
      rw [show m + 1 + 4 = (m + 4) + 1 from by omega, show m + 1 + 5 = (m + 5) + 1 from by omega, gj_gr_s (Or.inl h), gj_gr_s (Or.inl h)]
      rw [ih _ r (gj_st_V hp hr) hr (by rw [gj_st_mk h]; omega)]
    · have := gj_C_le p r
      exact gj_stab0 (m + 1 + 4) p r hp hr (gj_l_f hr h) (by omega)
/-- the greedy count falls by one with each greedy step -/
theorem gj_D_s {p r : Nat → Nat} (hp : gj_V p) (hr : gj_V r) (h : gj_l p r < 8 ∨ gj_l r p < 8) : gj_D p r = gj_D (gj_st p r) r + 1 := by
  unfold gj_D
  rw [gj_gr_s (n := 7) h]
  congr 1
  by_cases h1 : gj_l p r < 8
  · have h2 := gj_l_t h1
    have h3 := gj_A_mk hp hr h2.1 h2.2
    have h4 := gj_A_le p r
    exact gj_stab 3 _ r (gj_st_V hp hr) hr (by rw [gj_st_mk h1]; omega)
  · have h2 : gj_l r p < 8 := h.elim (fun z => absurd z h1) id
    have h3 := gj_l_r hr h1 h2
    have h0 := gj_rm_k hp hr (gj_l_f hr h1) h3.1 h3.2
    rw [← gj_st_rm h1 h2] at h0
    have := gj_C_le (gj_st p r) r
    exact gj_stab0 7 _ r (gj_st_V hp hr) hr h0 (by omega)
theorem gj_D_mk0 {p r : Nat → Nat} (hp : gj_V p) (hr : gj_V r) (h : gj_l p r < 8) : gj_D p r = gj_D (gj_mk p (gj_l p r) (r (gj_l p r))) r + 1 := by
  rw [gj_D_s hp hr (Or.inl h), gj_st_mk h]
theorem gj_D_rm0 {p r : Nat → Nat} (hp : gj_V p) (hr : gj_V r) (h : ¬ gj_l p r < 8) (h2 : gj_l r p < 8) : gj_D p r = gj_D (gj_rm p (gj_l r p)) r + 1 := by
  rw [gj_D_s hp hr (Or.inr h2), gj_st_rm h h2]
end
