/-- a genome: each end's partner, a loose end its own -/
def gj_V (p : Nat → Nat) : Prop := (∀ e, p (p e) = e) ∧ ∀ e, 8 ≤ e → p e = e
/-- the genome with the joint a b made: what both leave behind becomes a joint, or loose -/
def gj_mk (p : Nat → Nat) (a b : Nat) : Nat → Nat := fun e =>
  if e = a then b else if e = b then a else if e = p a then (if p b = b then e else p b) else if e = p b then (if p a = a then e else p a) else p e
/-- the genome with the joint at a taken away -/
def gj_rm (p : Nat → Nat) (a : Nat) : Nat → Nat := fun e => if e = a then e else if e = p a then e else p e
theorem gj_V_lt {p : Nat → Nat} (h : gj_V p) {e : Nat} (he : e < 8) : p e < 8 := by
  by_cases h8 : p e < 8
  · exact h8
  · have h1 := h.2 (p e) (by omega)
    have h2 := h.1 e
    omega
theorem gj_mk_I {p : Nat → Nat} (I : ∀ e, p (p e) = e) {a b : Nat} (hab : a ≠ b) (hp : p a ≠ b) : ∀ e, gj_mk p a b (gj_mk p a b e) = e := by
  intro e
  have h1 := I a
  have h2 := I b
  have h3 := I e
  unfold gj_mk
  grind
theorem gj_rm_I {p : Nat → Nat} (I : ∀ e, p (p e) = e) (a : Nat) : ∀ e, gj_rm p a (gj_rm p a e) = e := by
  intro e
  have h1 := I a
  have h3 := I e
  unfold gj_rm
  grind
theorem gj_mk_V {p : Nat → Nat} (h : gj_V p) {a b : Nat} (ha : a < 8) (hb : b < 8) (hab : a ≠ b) (hp : p a ≠ b) : gj_V (gj_mk p a b) := by
  refine ⟨gj_mk_I h.1 hab hp, fun e he => ?_⟩
  have h1 := gj_V_lt h ha
  have h2 := gj_V_lt h hb
  have h3 := h.2 e he
  unfold gj_mk
  rw [if_neg (by omega), if_neg (by omega), if_neg (by omega), if_neg (by omega), h3]
theorem gj_rm_V {p : Nat → Nat} (h : gj_V p) (a : Nat) : gj_V (gj_rm p a) := by
  refine ⟨gj_rm_I h.1 a, fun e he => ?_⟩
  have h3 := h.2 e he
  unfold gj_rm
  rw [h3]
  simp
theorem gj_mk_s {p : Nat → Nat} (I : ∀ e, p (p e) = e) {a b : Nat} (hab : a ≠ b) (hp : p a ≠ b) : gj_mk p a b = gj_mk p b a := by
  funext e
  have h1 := I a
  have h2 := I b
  have h3 := I e
  unfold gj_mk
  grind
theorem gj_mk_a {p : Nat → Nat} {a b : Nat} : gj_mk p a b a = b := if_pos rfl
theorem gj_mk_b {p : Nat → Nat} {a b : Nat} : gj_mk p a b b = a := by
  unfold gj_mk
  by_cases h : b = a
  · rw [if_pos h]; exact h
  · rw [if_neg h, if_pos rfl]
/-- the values of a made joint, one by one -/
theorem gj_mk_pa {p : Nat → Nat} {a b e : Nat} (h1 : e ≠ a) (h2 : e ≠ b) (h3 : e = p a) (h4 : p b = b) : gj_mk p a b e = e := by
  unfold gj_mk; rw [if_neg h1, if_neg h2, if_pos h3, if_pos h4]
theorem gj_mk_o {p : Nat → Nat} {a b e : Nat} (h1 : e ≠ a) (h2 : e ≠ b) (h3 : e ≠ p a) (h4 : e ≠ p b) : gj_mk p a b e = p e := by
  unfold gj_mk; rw [if_neg h1, if_neg h2, if_neg h3, if_neg h4]
/-- if the second joint came with the first, either makes both -/
theorem gj_mk_2 {p : Nat → Nat} (I : ∀ e, p (p e) = e) {a b c d : Nat} (hab : a ≠ b) (hcd : c ≠ d) (hp : p a ≠ b) (hq : p c ≠ d) (h1 : c ≠ a) (h2 : c ≠ b) (h3 : d ≠ a) (h4 : d ≠ b) (h : gj_mk p a b c = d) : gj_mk p a b = gj_mk p c d := by
  have i1 := I a
  have i2 := I b
  have k : (c = p a ∧ d = p b) ∨ (c = p b ∧ d = p a) := by
    unfold gj_mk at h
    grind
  funext e
  have i5 := I e
  clear h
  rcases k with ⟨k1, k2⟩ | ⟨k1, k2⟩
  · subst k1 k2
    unfold gj_mk
    rw [i1, i2]
    grind
  · subst k1 k2
    unfold gj_mk
    rw [i1, i2]
    grind
/-- else the two steps may change places -/
theorem gj_mk_c {p : Nat → Nat} (I : ∀ e, p (p e) = e) {a b c d : Nat} (hab : a ≠ b) (hcd : c ≠ d) (hp : p a ≠ b) (hq : p c ≠ d) (h1 : c ≠ a) (h2 : c ≠ b) (h3 : d ≠ a) (h4 : d ≠ b) (h : gj_mk p a b c ≠ d) : gj_mk (gj_mk p a b) c d = gj_mk (gj_mk p c d) a b := by
  funext e
  have i1 := I a
  have i2 := I b
  have i3 := I c
  have i4 := I d
  have i5 := I e
  unfold gj_mk at *
  grind (splits := 40)
theorem gj_rm_c {p : Nat → Nat} (I : ∀ e, p (p e) = e) {a c : Nat} : gj_rm (gj_rm p a) c = gj_rm (gj_rm p c) a := by
  funext e
  have i1 := I a
  have i3 := I c
  have i5 := I e
  unfold gj_rm at *
  grind
