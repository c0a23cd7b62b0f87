theorem i_vc_copy {k : Nat} {u : SX} {v : SY} (I : i_Rel k u v) (hk : k + 5 ≤ 2560) (v1 : Int32) (v2 : Int32) : wpX_copy (fun r u' => wpY_copy (fun r' v' => r' = r ∧ i_Rel (k + 5) u' v') v v1 v2) u v1 v2 := by
  obtain ⟨P, q, s, n, rfl, hP, hX, hY⟩ := I
  have R : i_Rel (k + 5) u (q, s, n) := ⟨P, q, s, n, rfl, hP, hX, hY⟩
  unfold wpX_copy wpY_copy
  dsimp only
  rcases gj_gb 3 v1 with b1 | ⟨t, ht, rfl⟩
  · exact gx_slotN b1 (br_f (by decide) (gy_slotN b1 (br_t rfl ⟨rfl, R⟩)))
  refine gx_slot ht (br_t rfl ?_)
  rcases gj_gb 3 v2 with b2 | ⟨r, hr, rfl⟩
  · exact gx_slotN b2 (br_f (by decide) (gy_slot ht (br_f (by decide) (gy_slotN b2 (br_t rfl ⟨rfl, R⟩)))))
  refine gx_slot hr (br_t rfl ?_)
  refine gx_copyr (by omega) (by omega) (hX.1 r hr) (fun w k1 k2 => gx_count (hP r hr) k2 (by omega) ?_)
  refine gy_slot ht (br_f (by decide) (gy_slot hr (br_f (by decide) (gy_copy (by omega) (by omega) (hY.1 r hr) (fun w' k3 k4 => ?_)))))
  exact gy_count (hP r hr) k4 (by omega) ⟨rfl, gj_up_R hP hX hY ht (hP r hr) k2 k1 k4 k3⟩
theorem i_vc_partner {k : Nat} {u : SX} {v : SY} (I : i_Rel k u v) (hk : k + 5 ≤ 2560) (v1 : Int32) (v2 : Int32) : wpX_partner (fun r => wpY_partner (fun r' => r' = r ∧ i_Rel (k + 5) u v) v v1 v2) u v1 v2 := by
  obtain ⟨P, q, s, n, rfl, hP, hX, hY⟩ := I
  have R : i_Rel (k + 5) u (q, s, n) := ⟨P, q, s, n, rfl, hP, hX, hY⟩
  unfold wpX_partner wpY_partner
  dsimp only
  rcases gj_gb 3 v1 with b1 | ⟨t, ht, rfl⟩
  · exact gx_slotN b1 (br_f (by decide) (gy_slotN b1 (br_t rfl ⟨rfl, R⟩)))
  refine gx_slot ht (br_t rfl ?_)
  rcases gj_gb 8 v2 with b2 | ⟨a, ha, rfl⟩
  · exact gx_endN b2 (br_f (by decide) (gy_slot ht (br_f (by decide) (gy_endN b2 (br_t rfl ⟨rfl, R⟩)))))
  refine gx_end ha (br_t rfl ?_)
  have hp := hP t ht
  have hx := hX.1 t ht
  have hy := hY.1 t ht
  by_cases za : P t a = a
  · exact gx_lo_t hp hx ht ha za (br_f (by decide) (gy_slot ht (br_f (by decide) (gy_end ha (br_f (by decide) (gy_lo_t hp hy ht ha za (br_f (by decide) ⟨rfl, R⟩)))))))
  · refine gx_lo_f hp hx ht ha za (br_t rfl ⟨gj_xv (by omega) ha, ?_⟩)
    rw [gj_xc (by omega) ha, hx a ha, gj_cx_n za]
    refine gy_slot ht (br_f (by decide) (gy_end ha (br_f (by decide) (gy_lo_f hp hy ht ha za (br_t rfl ⟨gj_yv (by omega) ha, ?_⟩)))))
    rw [gj_yc (by omega) ha, hy a ha]
    exact ⟨rfl, R⟩
theorem i_vc_joints {k : Nat} {u : SX} {v : SY} (I : i_Rel k u v) (hk : k + 5 ≤ 2560) (v1 : Int32) : wpX_joints (fun r => wpY_joints (fun r' => r' = r ∧ i_Rel (k + 5) u v) v v1) u v1 := by
  obtain ⟨P, q, s, n, rfl, hP, hX, hY⟩ := I
  have R : i_Rel (k + 5) u (q, s, n) := ⟨P, q, s, n, rfl, hP, hX, hY⟩
  unfold wpX_joints wpY_joints
  dsimp only
  rcases gj_gb 3 v1 with b1 | ⟨t, ht, rfl⟩
  · exact gx_slotN b1 (br_f (by decide) (gy_slotN b1 (br_t rfl ⟨rfl, R⟩)))
  exact gx_slot ht (br_t rfl (gx_count (hP t ht) (hX.1 t ht) (by omega) (gy_slot ht (br_f (by decide) (gy_count (hP t ht) (hY.1 t ht) (by omega) ⟨rfl, R⟩)))))
theorem i_vc_chromosomes {k : Nat} {u : SX} {v : SY} (I : i_Rel k u v) (hk : k + 5 ≤ 2560) (v1 : Int32) : wpX_chromosomes (fun r => wpY_chromosomes (fun r' => r' = r ∧ i_Rel (k + 5) u v) v v1) u v1 := by
  obtain ⟨P, q, s, n, rfl, hP, hX, hY⟩ := I
  have R : i_Rel (k + 5) u (q, s, n) := ⟨P, q, s, n, rfl, hP, hX, hY⟩
  unfold wpX_chromosomes wpY_chromosomes
  dsimp only
  rcases gj_gb 3 v1 with b1 | ⟨t, ht, rfl⟩
  · exact gx_slotN b1 (br_f (by decide) (gy_slotN b1 (br_t rfl ⟨rfl, R⟩)))
  exact gx_slot ht (br_t rfl (gx_ch (hP t ht) (hX.1 t ht) (by omega) (gy_slot ht (br_f (by decide) (gy_ch (hP t ht) (hY.1 t ht) (by omega) ⟨rfl, R⟩)))))
theorem i_vc_round {k : Nat} {u : SX} {v : SY} (I : i_Rel k u v) (hk : k + 5 ≤ 2560) (v1 : Int32) : wpX_round (fun r => wpY_round (fun r' => r' = r ∧ i_Rel (k + 5) u v) v v1) u v1 := by
  obtain ⟨P, q, s, n, rfl, hP, hX, hY⟩ := I
  have R : i_Rel (k + 5) u (q, s, n) := ⟨P, q, s, n, rfl, hP, hX, hY⟩
  unfold wpX_round wpY_round
  dsimp only
  rcases gj_gb 3 v1 with b1 | ⟨t, ht, rfl⟩
  · exact gx_slotN b1 (br_f (by decide) (gy_slotN b1 (br_t rfl ⟨rfl, R⟩)))
  exact gx_slot ht (br_t rfl (gx_rd (hP t ht) (hX.1 t ht) (by omega) (gy_slot ht (br_f (by decide) (gy_rd (hP t ht) (hY.1 t ht) (by omega) ⟨rfl, R⟩)))))
theorem i_vc_distance {k : Nat} {u : SX} {v : SY} (I : i_Rel k u v) (hk : k + 5 ≤ 2560) (v1 : Int32) (v2 : Int32) : wpX_distance (fun r u' => wpY_distance (fun r' v' => r' = r ∧ i_Rel (k + 5) u' v') v v1 v2) u v1 v2 := by
  obtain ⟨P, q, s, n, rfl, hP, hX, hY⟩ := I
  have R : i_Rel (k + 5) u (q, s, n) := ⟨P, q, s, n, rfl, hP, hX, hY⟩
  unfold wpX_distance wpY_distance
  dsimp only
  rcases gj_gb 3 v1 with b1 | ⟨t, ht, rfl⟩
  · exact gx_slotN b1 (br_f (by decide) (gy_slotN b1 (br_t rfl ⟨rfl, R⟩)))
  refine gx_slot ht (br_t rfl ?_)
  rcases gj_gb 3 v2 with b2 | ⟨r, hr, rfl⟩
  · exact gx_slotN b2 (br_f (by decide) (gy_slot ht (br_f (by decide) (gy_slotN b2 (br_t rfl ⟨rfl, R⟩)))))
  refine gx_slot hr (br_t rfl (gx_btw_ss hP hX ht hr (fun w hw => ?_)))
  refine gy_slot ht (br_f (by decide) (gy_slot hr (br_f (by decide) (gy_way (hP t ht) (hP r hr) (hY.1 t ht) (hY.1 r hr) (by omega) (by omega) (by omega) (fun w' kw => ?_)))))
  exact ⟨rfl, P, w', s, n, rfl, hP, hw, gj_Y_3 hY kw⟩
theorem i_vc_nearer {k : Nat} {u : SX} {v : SY} (I : i_Rel k u v) (hk : k + 5 ≤ 2560) (v1 : Int32) (v2 : Int32) : wpX_nearer (fun r u' => wpY_nearer (fun r' v' => r' = r ∧ i_Rel (k + 5) u' v') v v1 v2) u v1 v2 := by
  obtain ⟨P, q, s, n, rfl, hP, hX, hY⟩ := I
  have R : i_Rel (k + 5) u (q, s, n) := ⟨P, q, s, n, rfl, hP, hX, hY⟩
  unfold wpX_nearer wpY_nearer
  dsimp only
  rcases gj_gb 3 v1 with b1 | ⟨t, ht, rfl⟩
  · exact gx_slotN b1 (br_f (by decide) (gy_slotN b1 (br_t rfl ⟨rfl, R⟩)))
  refine gx_slot ht (br_t rfl ?_)
  rcases gj_gb 3 v2 with b2 | ⟨r, hr, rfl⟩
  · exact gx_slotN b2 (br_f (by decide) (gy_slot ht (br_f (by decide) (gy_slotN b2 (br_t rfl ⟨rfl, R⟩)))))
  refine gx_slot hr (br_t rfl (gx_btw_ss hP hX ht hr (fun w hw => ?_)))
  refine ⟨765, gx_near_l hP ht hr (gj_D_le _ _) (fun w2 hw2 => ?_) 764 0 w rfl hw⟩
  refine gy_slot ht (br_f (by decide) (gy_slot hr (br_f (by decide) (gy_way (hP t ht) (hP r hr) (hY.1 t ht) (hY.1 r hr) (by omega) (by omega) (by omega) (fun w' kw => ?_)))))
  dsimp only
  refine gy_cs (Q := fun i => decide (gj_D (gj_S i) (P r) < gj_D (P t) (P r))) hP ht hr (Or.inr ⟨_, gj_D_le _ _, rfl, fun i => rfl⟩) (gj_Y_3 hY kw) (fun w3 s3 h3 => ?_)
  dsimp only
  refine ⟨congrArg nI ?_, P, w3, s3, n, rfl, hP, hw2, h3⟩
  exact gj_cn_near _ _ _
theorem i_vc_steps {k : Nat} {u : SX} {v : SY} (I : i_Rel k u v) (hk : k + 5 ≤ 2560) (v1 : Int32) : wpX_steps (fun r u' => wpY_steps (fun r' v' => r' = r ∧ i_Rel (k + 5) u' v') v v1) u v1 := by
  obtain ⟨P, q, s, n, rfl, hP, hX, hY⟩ := I
  have R : i_Rel (k + 5) u (q, s, n) := ⟨P, q, s, n, rfl, hP, hX, hY⟩
  unfold wpX_steps wpY_steps
  dsimp only
  rcases gj_gb 3 v1 with b1 | ⟨t, ht, rfl⟩
  · exact gx_slotN b1 (br_f (by decide) (gy_slotN b1 (br_t rfl ⟨rfl, R⟩)))
  refine gx_slot ht (br_t rfl ⟨765, gx_steps_l hP ht (fun w2 hw2 => ?_) 764 0 u rfl hX⟩)
  refine gy_slot ht (br_f (by decide) (gy_cs (Q := fun _ => true) hP ht ht (Or.inl ⟨by decide, fun i => rfl⟩) hY (fun w3 s3 h3 => ?_)))
  dsimp only
  refine ⟨congrArg nI ?_, P, w3, s3, n, rfl, hP, hw2, h3⟩
  exact gj_cn_step _
theorem i_vc_approach {k : Nat} {u : SX} {v : SY} (I : i_Rel k u v) (hk : k + 5 ≤ 2560) (v1 : Int32) (v2 : Int32) : wpX_approach (fun r u' => wpY_approach (fun r' v' => r' = r ∧ i_Rel (k + 5) u' v') v v1 v2) u v1 v2 := by
  obtain ⟨P, q, s, n, rfl, hP, hX, hY⟩ := I
  have R : i_Rel (k + 5) u (q, s, n) := ⟨P, q, s, n, rfl, hP, hX, hY⟩
  unfold wpX_approach wpY_approach
  dsimp only
  rcases gj_gb 3 v1 with b1 | ⟨t, ht, rfl⟩
  · exact gx_slotN b1 (br_f (by decide) (gy_slotN b1 (br_t rfl ⟨rfl, R⟩)))
  refine gx_slot ht (br_t rfl ?_)
  rcases gj_gb 3 v2 with b2 | ⟨r, hr, rfl⟩
  · exact gx_slotN b2 (br_f (by decide) (gy_slot ht (br_f (by decide) (gy_slotN b2 (br_t rfl ⟨rfl, R⟩)))))
  refine gx_slot hr (br_t rfl (gx_step (hP t ht) (hP r hr) (hX.1 t ht) (hX.1 r hr) (by omega) (by omega) (fun z => ?_) (fun z w k1 k2 => ?_)))
  · exact br_t rfl (gy_slot ht (br_f (by decide) (gy_slot hr (br_f (by decide) (gy_go (hP t ht) (hP r hr) (hY.1 t ht) (hY.1 r hr) (by omega) (by omega) (fun _ => br_t rfl ⟨rfl, R⟩) (fun y => absurd y z))))))
  · have hV := gj_st_V (hP t ht) (hP r hr)
    have hP2 := gj_up_P (t := t) hP hV
    have hX2 := gj_up_X hX ht k1 k2
    refine br_f (by decide) (gx_btw_ss hP2 hX2 ht hr (fun w2 hw2 => ?_))
    refine gy_slot ht (br_f (by decide) (gy_slot hr (br_f (by decide) (gy_go (hP t ht) (hP r hr) (hY.1 t ht) (hY.1 r hr) (by omega) (by omega) (fun y => absurd z y) (fun _ w' k3 k4 => ?_)))))
    dsimp only
    have hY2 := gj_up_Y hY k3 k4
    refine br_f (by decide) (gy_way (hP2 t ht) (hP2 r hr) (hY2.1 t ht) (hY2.1 r hr) (by omega) (by omega) (by omega) (fun w3 kw => ?_))
    exact ⟨rfl, _, w3, s, n, rfl, hP2, hw2, gj_Y_3 hY2 kw⟩
theorem i_vc_middle {k : Nat} {u : SX} {v : SY} (I : i_Rel k u v) (hk : k + 5 ≤ 2560) : wpX_middle (fun r u' => wpY_middle (fun r' v' => r' = r ∧ i_Rel (k + 5) u' v') v) u := by
  obtain ⟨P, q, s, n, rfl, hP, hX, hY⟩ := I
  refine gx_mid hP hX (fun m w hw hm => gy_mid hP hY (fun m' w' hw' hm' => ?_))
  have e : m' = m := gj_mn_u (F := fun i => gj_sm P (gj_T i) 3) hm hm'
  exact ⟨by rw [e], P, w', s, n, rfl, hP, hw, hw'⟩
theorem i_vc_middles {k : Nat} {u : SX} {v : SY} (I : i_Rel k u v) (hk : k + 5 ≤ 2560) : wpX_middles (fun r u' => wpY_middles (fun r' v' => r' = r ∧ i_Rel (k + 5) u' v') v) u := by
  obtain ⟨P, q, s, n, rfl, hP, hX, hY⟩ := I
  refine gx_mids hP hX (fun m w hw hm => gy_mids hP hY (fun m' w' hw' hm' => ?_))
  have e : m' = m := gj_mn_u (F := fun i => gj_sm P (gj_T i) 3) hm hm'
  subst e
  refine ⟨congrArg nI ?_, P, w', s, n, rfl, hP, hw, hw'⟩
  exact gj_cn_mids _ _
theorem i_vc_onTheWay {k : Nat} {u : SX} {v : SY} (I : i_Rel k u v) (hk : k + 5 ≤ 2560) (v1 : Int32) (v2 : Int32) (v3 : Int32) (v4 : Int32) : wpX_onTheWay (fun r u' => wpY_onTheWay (fun r' v' => r' = r ∧ i_Rel (k + 5) u' v') v v1 v2 v3 v4) u v1 v2 v3 v4 := by
  obtain ⟨P, q, s, n, rfl, hP, hX, hY⟩ := I
  have R : i_Rel (k + 5) u (q, s, n) := ⟨P, q, s, n, rfl, hP, hX, hY⟩
  unfold wpX_onTheWay wpY_onTheWay
  dsimp only
  rcases gj_gb 3 v1 with b1 | ⟨t, ht, rfl⟩
  · exact gx_slotN b1 (br_f (by decide) (gy_slotN b1 (br_t rfl ⟨rfl, R⟩)))
  refine gx_slot ht (br_t rfl ?_)
  rcases gj_gb 3 v2 with b2 | ⟨r, hr, rfl⟩
  · exact gx_slotN b2 (br_f (by decide) (gy_slot ht (br_f (by decide) (gy_slotN b2 (br_t rfl ⟨rfl, R⟩)))))
  refine gx_slot hr (br_t rfl (gx_btw_ss hP hX ht hr (fun w hw => ?_)))
  refine ⟨765, gx_otw_l hP ht hr (fun hE w2 hw2 => ?_) (fun hA w2 hw2 => ?_) 764 0 w rfl hw (fun i hi => absurd hi (by omega))⟩
  · refine gy_slot ht (br_f (by decide) (gy_slot hr (br_f (by decide) (gy_way (hP t ht) (hP r hr) (hY.1 t ht) (hY.1 r hr) (by omega) (by omega) (by omega) (fun w' kw => ?_)))))
    dsimp only
    refine ⟨765, gy_otw_l hP ht hr (fun _ w3 h3 => ?_) (fun hA w3 h3 => ?_) 764 0 w' rfl (gj_Y_3 hY kw) (fun i hi => absurd hi (by omega))⟩
    · exact ⟨rfl, P, w3, s, n, rfl, hP, hw2, h3⟩
    · obtain ⟨j, hj, hj2⟩ := hE
      obtain ⟨i, hi, rfl⟩ := gj_ix_sur hj
      exact absurd hj2 (hA i hi)
  · refine gy_slot ht (br_f (by decide) (gy_slot hr (br_f (by decide) (gy_way (hP t ht) (hP r hr) (hY.1 t ht) (hY.1 r hr) (by omega) (by omega) (by omega) (fun w' kw => ?_)))))
    dsimp only
    refine ⟨765, gy_otw_l hP ht hr (fun hE w3 h3 => ?_) (fun _ w3 h3 => ?_) 764 0 w' rfl (gj_Y_3 hY kw) (fun i hi => absurd hi (by omega))⟩
    · obtain ⟨i, hi, hi2⟩ := hE
      exact absurd hi2 (hA (gj_ix i) (gj_ix_lt hi))
    · exact ⟨rfl, P, w3, s, n, rfl, hP, hw2, h3⟩
