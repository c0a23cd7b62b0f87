/-- a count over the rows is a count over the numbers -/
theorem gj_cn_P (f : Nat → Bool) : ∀ n, gj_cn f n = (List.range n).countP f := by
  intro n
  induction n with
  | zero => rfl
  | succ n ih =>
    rw [List.range_succ, List.countP_append, ← ih]
    show gj_cn f n + (if f n = true then 1 else 0) = _
    rw [List.countP_singleton]
theorem gj_perm : ((List.range 764).map gj_ix).Perm (List.range 764) := List.isPerm_iff.mp gj_perm_ck
theorem gj_cn_ix (f : Nat → Bool) : gj_cn f 764 = gj_cn (fun i => f (gj_ix i)) 764 := by
  rw [gj_cn_P, gj_cn_P, ← gj_perm.countP_eq, List.countP_map]
  rfl
theorem gj_ix_sur {j : Nat} (hj : j < 764) : ∃ i, i < 764 ∧ gj_ix i = j := by
  have h : j ∈ (List.range 764).map gj_ix := gj_perm.mem_iff.mpr (List.mem_range.mpr hj)
  obtain ⟨i, h1, h2⟩ := List.mem_map.mp h
  exact ⟨i, List.mem_range.mp h1, h2⟩
theorem gj_cn_c {f g : Nat → Bool} {n : Nat} (h : ∀ e, e < n → f e = g e) : gj_cn f n = gj_cn g n := by
  have h1 := gj_cn_mono (f := f) (g := g) n (fun e he z => by rw [h e he]; exact z)
  have h2 := gj_cn_mono (f := g) (g := f) n (fun e he z => by rw [← h e he]; exact z)
  omega
/-- all genomes, by a walk over their first ends -/
def gj_ok (l : List Nat) (v : Nat) : Bool := !(l.contains v) && (if v < l.length then Nat.beq (l.getD v 9) l.length else !(l.contains l.length))
def gj_va (f : List Nat → Bool) : Nat → List Nat → Bool
  | 0, l => f l
  | n + 1, l => gj_all 8 (fun v => !(gj_ok l v) || gj_va f n (l ++ [v]))
theorem gj_ok_t {p : Nat → Nat} (hp : gj_V p) (k : Nat) : gj_ok ((List.range k).map p) (p k) = true := by
  have hl : ((List.range k).map p).length = k := by simp
  have h1 : ¬ p k ∈ (List.range k).map p := by
    intro h
    obtain ⟨i, h1, h2⟩ := List.mem_map.mp h
    have h3 := List.mem_range.mp h1
    have h4 : i = k := by rw [← hp.1 i, h2, hp.1 k]
    omega
  unfold gj_ok
  rw [hl]
  have e1 : ((List.range k).map p).contains (p k) = false := by
    simpa using h1
  rw [e1]
  by_cases hv : p k < k
  · rw [if_pos hv]
    have e2 : ((List.range k).map p).getD (p k) 9 = k := by
      rw [List.getD_eq_getElem?_getD, List.getElem?_map, List.getElem?_range hv]
      show p (p k) = k
      exact hp.1 k
    rw [e2]
    simp
  · rw [if_neg hv]
    have h2 : ¬ k ∈ (List.range k).map p := by
      intro h
      obtain ⟨i, h1, h2⟩ := List.mem_map.mp h
      have h3 := List.mem_range.mp h1
      have h4 : i = p k := by rw [← h2, hp.1 i]
      omega
    have e2 : ((List.range k).map p).contains k = false := by
      simpa using h2
    rw [e2]
    rfl
theorem gj_va_s {f : List Nat → Bool} {p : Nat → Nat} (hp : gj_V p) : ∀ n k, k + n = 8 → gj_va f n ((List.range k).map p) = true → f ((List.range 8).map p) = true := by
  intro n
  induction n with
  | zero =>
    intro k hk h
    have : k = 8 := by omega
    subst this
    exact h
  | succ n ih =>
    intro k hk h
    have h1 := gj_all_i (n := 8) h (p k) (gj_V_lt hp (by omega))
    rw [gj_ok_t hp k] at h1
    have h2 : gj_va f n ((List.range k).map p ++ [p k]) = true := h1
    refine ih (k + 1) (by omega) ?_
    rw [List.range_succ, List.map_append]
    exact h2
def gj_f (l : List Nat) : Nat → Nat := fun e => if e < 8 then l.getD e 0 else e
theorem gj_f_p {p : Nat → Nat} (hp : gj_V p) : gj_f ((List.range 8).map p) = p := by
  funext e
  unfold gj_f
  by_cases he : e < 8
  · rw [if_pos he, List.getD_eq_getElem?_getD, List.getElem?_map, List.getElem?_range he]
    rfl
  · rw [if_neg he, hp.2 e (by omega)]
def gj_leaf (l : List Nat) : Bool := match gj_no (gj_f l) 8 0 255 8 0 with
  | some r => Nat.blt r.toNatClampNeg 764 && gj_eq (gj_f l) (gj_S r.toNatClampNeg)
  | none => false
theorem gj_va_ck : gj_va gj_leaf 8 [] = true := by decide +kernel
theorem gj_num {p : Nat → Nat} (hp : gj_V p) : ∃ i, i < 764 ∧ p = gj_S i := by
  have h := gj_va_s (f := gj_leaf) hp 8 0 rfl gj_va_ck
  unfold gj_leaf at h
  rw [gj_f_p hp] at h
  split at h
  · rename_i r _
    rw [Bool.and_eq_true] at h
    exact ⟨r.toNatClampNeg, Nat.le_of_ble_eq_true h.1, gj_eq_i h.2 hp.2 (gj_T_8 _)⟩
  · exact absurd h (by decide)
theorem gj_no_S {i : Nat} (hi : i < 764) : gj_no (gj_S i) 8 0 255 8 0 = some (nI i) := by
  have h := gj_all_i gj_N_ck i hi
  unfold gj_chN at h
  split at h
  · rename_i r hr
    rw [hr, of_decide_eq_true h]
  · exact absurd h (by decide)
theorem gj_S_inj {i j : Nat} (hi : i < 764) (hj : j < 764) (h : gj_S i = gj_S j) : i = j := by
  have h1 := gj_no_S hi
  rw [h, gj_no_S hj] at h1
  exact ((nI_eq (by omega) (by omega)).mp (Option.some.inj h1)).symm
theorem gj_sn_S {i : Nat} (hi : i < 764) : ∃ q, gj_sn 8 (nI i) 255 8 0 (fun e => e) = some q ∧ ∀ e, e < 8 → q e = gj_S i e := by
  have h := gj_all_i gj_S_ck i hi
  unfold gj_chS at h
  split at h
  · rename_i q hq
    exact ⟨q, hq, fun e he => Nat.eq_of_beq_eq_true (gj_all_i h e he)⟩
  · exact absurd h (by decide)
/-- the number of joints, and of joined ends -/
def gj_jn (p : Nat → Nat) : Nat := gj_cn (fun e => decide (e < p e)) 8
def gj_je (p : Nat → Nat) : Nat := gj_cn (fun e => decide (p e ≠ e)) 8
theorem gj_j_ck : gj_all 764 (fun i => Nat.beq (gj_je (gj_S i)) (2 * gj_jn (gj_S i))) = true := by decide +kernel
theorem gj_j {p : Nat → Nat} (hp : gj_V p) : gj_je p = 2 * gj_jn p := by
  obtain ⟨i, hi, rfl⟩ := gj_num hp
  exact Nat.eq_of_beq_eq_true (gj_all_i gj_j_ck i hi)
/-- the component's listing over the table: only the number of rows so far is carried -/
def gj_sr (a b : Nat) : Nat → Nat → Nat → Option Nat
  | 0, _, n => some n
  | k + 1, row, n => if (Nat.blt n 764 && Nat.beq (gj_T row a) a && Nat.beq (gj_T row b) b) = true then (if gj_eq (gj_mk (gj_T row) a b) (gj_T n) = true then gj_sr a b k (row + 1) (n + 1) else none) else gj_sr a b k (row + 1) n
def gj_sb (a : Nat) : Nat → Nat → Nat → Option Nat
  | 0, _, n => some n
  | k + 1, b, n => match gj_sr a b n 0 n with
    | some m => gj_sb a k (b + 1) m
    | none => none
def gj_sa : Nat → Nat → Nat → Option Nat
  | 0, _, n => some n
  | k + 1, a, n => match gj_sb a (7 - a) (a + 1) n with
    | some m => gj_sa k (a + 1) m
    | none => none
def gj_isS (o : Option Nat) (n : Nat) : Bool := match o with
  | some m => Nat.beq m n
  | none => false
theorem gj_sa_ck : gj_isS (gj_sa 8 0 1) 764 = true := by decide +kernel
theorem gj_sa_764 : gj_sa 8 0 1 = some 764 := by
  have h := gj_sa_ck
  unfold gj_isS at h
  split at h
  · rename_i m hm
    rw [hm, Nat.eq_of_beq_eq_true h]
  · exact absurd h (by decide)
theorem gj_T0_ck : gj_eq (fun e => e) (gj_T 0) = true := by decide +kernel
theorem gj_T0 : gj_T 0 = fun e => e := (gj_eq_i gj_T0_ck (fun _ _ => rfl) (gj_T_8 0)).symm
