theorem i_vc0 : wpX_init (fun u => wpY_init (fun v => i_Rel 0 u v)) := by
  refine gx_init (fun w hw => gy_init (fun q s n hq hn => ?_))
  refine ⟨fun _ e => e, q, s, n, rfl, fun t ht => ⟨fun e => rfl, fun e he => rfl⟩, ⟨fun t ht e he => ?_, hw.2⟩, fun t ht e he => ?_, hn⟩
  · rw [hw.1 _ (by omega)]
    exact (gj_cx_p rfl).symm
  · rw [hq _ (by omega)]
    exact congrArg nI (show (t * 8 + e) % 8 = e by omega)
theorem i_vc_join {k : Nat} {u : SX} {v : SY} (I : i_Rel k u v) (hk : k + 5 ≤ 2560) (v1 : Int32) (v2 : Int32) (v3 : Int32) : wpX_join (fun r u' => wpY_join (fun r' v' => r' = r ∧ i_Rel (k + 5) u' v') v v1 v2 v3) u v1 v2 v3 := by
  obtain ⟨P, q, s, n, rfl, hP, hX, hY⟩ := I
  have R : i_Rel (k + 5) u (q, s, n) := ⟨P, q, s, n, rfl, hP, hX, hY⟩
  unfold wpX_join wpY_join
  dsimp only
  rcases gj_gb 3 v1 with b1 | ⟨t, ht, rfl⟩
  · exact gx_slotN b1 (br_f (by decide) (gy_slotN b1 (br_t rfl ⟨rfl, R⟩)))
  refine gx_slot ht (br_t rfl ?_)
  rcases gj_gb 8 v2 with b2 | ⟨a, ha, rfl⟩
  · exact gx_endN b2 (br_f (by decide) (gy_slot ht (br_f (by decide) (gy_endN b2 (br_t rfl ⟨rfl, R⟩)))))
  refine gx_end ha (br_t rfl ?_)
  rcases gj_gb 8 v3 with b3 | ⟨b, hb, rfl⟩
  · exact gx_endN b3 (br_f (by decide) (gy_slot ht (br_f (by decide) (gy_end ha (br_f (by decide) (gy_endN b3 (br_t rfl ⟨rfl, R⟩)))))))
  refine gx_end hb (br_t rfl ?_)
  by_cases hab : nI a = nI b
  · exact br_t hab (gy_slot ht (br_f (by decide) (gy_end ha (br_f (by decide) (gy_end hb (br_f (by decide) (br_t hab ⟨rfl, R⟩)))))))
  have hab2 : a ≠ b := fun z => hab (by rw [z])
  have hp := hP t ht
  have hx := hX.1 t ht
  have hy := hY.1 t ht
  by_cases za : P t a = a
  · by_cases zb : P t b = b
    · have hpa : P t a ≠ b := by rw [za]; exact hab2
      have hV := gj_mk_V hp ha hb hab2 hpa
      refine br_f hab (gx_lo_t hp hx ht ha za (br_f (by decide) (gx_lo_t hp hx ht hb zb (br_f (by decide) (gx_make hp hx (by omega) ha hb hab2 hpa (fun w k1 k2 => gx_count hV k1 (by omega) ?_))))))
      refine gy_slot ht (br_f (by decide) (gy_end ha (br_f (by decide) (gy_end hb (br_f (by decide) (br_f hab (gy_lo_t hp hy ht ha za (br_f (by decide) (gy_lo_t hp hy ht hb zb (br_f (by decide) (gy_join hy (by omega) ha hb hab2 za zb (fun w' k3 k4 => ?_))))))))))))
      exact gy_count hV k3 (by omega) ⟨rfl, gj_up_R hP hX hY ht hV k1 k2 k3 k4⟩
    · exact br_f hab (gx_lo_t hp hx ht ha za (br_f (by decide) (gx_lo_f hp hx ht hb zb (br_t rfl (gy_slot ht (br_f (by decide) (gy_end ha (br_f (by decide) (gy_end hb (br_f (by decide) (br_f hab (gy_lo_t hp hy ht ha za (br_f (by decide) (gy_lo_f hp hy ht hb zb (br_t rfl ⟨rfl, R⟩)))))))))))))))
  · exact br_f hab (gx_lo_f hp hx ht ha za (br_t rfl (gy_slot ht (br_f (by decide) (gy_end ha (br_f (by decide) (gy_end hb (br_f (by decide) (br_f hab (gy_lo_f hp hy ht ha za (br_t rfl ⟨rfl, R⟩)))))))))))
theorem i_vc_cut {k : Nat} {u : SX} {v : SY} (I : i_Rel k u v) (hk : k + 5 ≤ 2560) (v1 : Int32) (v2 : Int32) : wpX_cut (fun r u' => wpY_cut (fun r' v' => r' = r ∧ i_Rel (k + 5) u' v') v v1 v2) u v1 v2 := by
  obtain ⟨P, q, s, n, rfl, hP, hX, hY⟩ := I
  have R : i_Rel (k + 5) u (q, s, n) := ⟨P, q, s, n, rfl, hP, hX, hY⟩
  unfold wpX_cut wpY_cut
  dsimp only
  rcases gj_gb 3 v1 with b1 | ⟨t, ht, rfl⟩
  · exact gx_slotN b1 (br_f (by decide) (gy_slotN b1 (br_t rfl ⟨rfl, R⟩)))
  refine gx_slot ht (br_t rfl ?_)
  rcases gj_gb 8 v2 with b2 | ⟨a, ha, rfl⟩
  · exact gx_endN b2 (br_f (by decide) (gy_slot ht (br_f (by decide) (gy_endN b2 (br_t rfl ⟨rfl, R⟩)))))
  refine gx_end ha (br_t rfl ?_)
  have hp := hP t ht
  have hx := hX.1 t ht
  have hy := hY.1 t ht
  by_cases za : P t a = a
  · exact gx_lo_t hp hx ht ha za (br_f (by decide) (gy_slot ht (br_f (by decide) (gy_end ha (br_f (by decide) (gy_lo_t hp hy ht ha za (br_f (by decide) ⟨rfl, R⟩)))))))
  · refine gx_lo_f hp hx ht ha za (br_t rfl ⟨gj_xv (by omega) ha, nm_r (e' := nI (P t a)) (by rw [gj_xc (by omega) ha, hx a ha, gj_cx_n za]) (gx_take hp hx (by omega) ha za (fun w k1 k2 => ?_))⟩)
    refine gy_slot ht (br_f (by decide) (gy_end ha (br_f (by decide) (gy_lo_f hp hy ht ha za (br_t rfl ⟨gj_yv (by omega) ha, nm_r (e' := nI (P t a)) (by rw [gj_yc (by omega) ha, hy a ha]) (gy_unlink hp hy (by omega) ha (fun w' k3 k4 => ?_))⟩)))))
    exact ⟨rfl, gj_up_R hP hX hY ht (gj_rm_V hp a) k1 k2 k3 k4⟩
theorem i_vc_cross {k : Nat} {u : SX} {v : SY} (I : i_Rel k u v) (hk : k + 5 ≤ 2560) (v1 : Int32) (v2 : Int32) (v3 : Int32) : wpX_cross (fun r u' => wpY_cross (fun r' v' => r' = r ∧ i_Rel (k + 5) u' v') v v1 v2 v3) u v1 v2 v3 := by
  obtain ⟨P, q, s, n, rfl, hP, hX, hY⟩ := I
  have R : i_Rel (k + 5) u (q, s, n) := ⟨P, q, s, n, rfl, hP, hX, hY⟩
  unfold wpX_cross wpY_cross
  dsimp only
  rcases gj_gb 3 v1 with b1 | ⟨t, ht, rfl⟩
  · exact gx_slotN b1 (br_f (by decide) (gy_slotN b1 (br_t rfl ⟨rfl, R⟩)))
  refine gx_slot ht (br_t rfl ?_)
  rcases gj_gb 8 v2 with b2 | ⟨a, ha, rfl⟩
  · exact gx_endN b2 (br_f (by decide) (gy_slot ht (br_f (by decide) (gy_endN b2 (br_t rfl ⟨rfl, R⟩)))))
  refine gx_end ha (br_t rfl ?_)
  rcases gj_gb 8 v3 with b3 | ⟨b, hb, rfl⟩
  · exact gx_endN b3 (br_f (by decide) (gy_slot ht (br_f (by decide) (gy_end ha (br_f (by decide) (gy_endN b3 (br_t rfl ⟨rfl, R⟩)))))))
  refine gx_end hb (br_t rfl ?_)
  have hp := hP t ht
  have hx := hX.1 t ht
  have hy := hY.1 t ht
  have l1 := gj_V_lt hp ha
  by_cases za : P t a = a
  · exact gx_lo_t hp hx ht ha za (br_f (by decide) (gy_slot ht (br_f (by decide) (gy_end ha (br_f (by decide) (gy_end hb (br_f (by decide) (gy_lo_t hp hy ht ha za (br_f (by decide) ⟨rfl, R⟩)))))))))
  · by_cases zb : P t b = b
    · exact gx_lo_f hp hx ht ha za (br_t rfl (gx_lo_t hp hx ht hb zb (br_f (by decide) (gy_slot ht (br_f (by decide) (gy_end ha (br_f (by decide) (gy_end hb (br_f (by decide) (gy_lo_f hp hy ht ha za (br_t rfl (gy_lo_t hp hy ht hb zb (br_f (by decide) ⟨rfl, R⟩)))))))))))))
    · by_cases hab : nI a = nI b
      · exact gx_lo_f hp hx ht ha za (br_t rfl (gx_lo_f hp hx ht hb zb (br_t rfl (br_t hab (gy_slot ht (br_f (by decide) (gy_end ha (br_f (by decide) (gy_end hb (br_f (by decide) (gy_lo_f hp hy ht ha za (br_t rfl (gy_lo_f hp hy ht hb zb (br_t rfl (br_t hab ⟨rfl, R⟩)))))))))))))))
      · have hab2 : a ≠ b := fun z => hab (by rw [z])
        by_cases zc : P t a = b
        · refine gx_lo_f hp hx ht ha za (br_t rfl (gx_lo_f hp hx ht hb zb (br_t rfl (br_f hab ⟨gj_xv (by omega) ha, br_t (by rw [gj_xc (by omega) ha, hx a ha, gj_cx_n za, zc]) ?_⟩))))
          exact gy_slot ht (br_f (by decide) (gy_end ha (br_f (by decide) (gy_end hb (br_f (by decide) (gy_lo_f hp hy ht ha za (br_t rfl (gy_lo_f hp hy ht hb zb (br_t rfl (br_f hab ⟨gj_yv (by omega) ha, br_t (by rw [gj_yc (by omega) ha, hy a ha, zc]) ⟨rfl, R⟩⟩))))))))))
        · have hne : ¬ nI (P t a) = nI b := fun z => zc ((nI_eq (by omega) (by omega)).mp z)
          have hV := gj_mk_V hp ha hb hab2 zc
          refine gx_lo_f hp hx ht ha za (br_t rfl (gx_lo_f hp hx ht hb zb (br_t rfl (br_f hab ⟨gj_xv (by omega) ha, br_f (by rw [gj_xc (by omega) ha, hx a ha, gj_cx_n za]; exact hne) (gx_make hp hx (by omega) ha hb hab2 zc (fun w k1 k2 => ?_))⟩))))
          refine gy_slot ht (br_f (by decide) (gy_end ha (br_f (by decide) (gy_end hb (br_f (by decide) (gy_lo_f hp hy ht ha za (br_t rfl (gy_lo_f hp hy ht hb zb (br_t rfl (br_f hab ⟨gj_yv (by omega) ha, br_f (by rw [gj_yc (by omega) ha, hy a ha]; exact hne) (gy_exch hp hy (by omega) ha hb hab2 zc za zb (fun w' k3 k4 => ?_))⟩))))))))))
          exact ⟨rfl, gj_up_R hP hX hY ht hV k1 k2 k3 k4⟩
theorem i_vc_shift {k : Nat} {u : SX} {v : SY} (I : i_Rel k u v) (hk : k + 5 ≤ 2560) (v1 : Int32) (v2 : Int32) (v3 : Int32) : wpX_shift (fun r u' => wpY_shift (fun r' v' => r' = r ∧ i_Rel (k + 5) u' v') v v1 v2 v3) u v1 v2 v3 := by
  obtain ⟨P, q, s, n, rfl, hP, hX, hY⟩ := I
  have R : i_Rel (k + 5) u (q, s, n) := ⟨P, q, s, n, rfl, hP, hX, hY⟩
  unfold wpX_shift wpY_shift
  dsimp only
  rcases gj_gb 3 v1 with b1 | ⟨t, ht, rfl⟩
  · exact gx_slotN b1 (br_f (by decide) (gy_slotN b1 (br_t rfl ⟨rfl, R⟩)))
  refine gx_slot ht (br_t rfl ?_)
  rcases gj_gb 8 v2 with b2 | ⟨a, ha, rfl⟩
  · exact gx_endN b2 (br_f (by decide) (gy_slot ht (br_f (by decide) (gy_endN b2 (br_t rfl ⟨rfl, R⟩)))))
  refine gx_end ha (br_t rfl ?_)
  rcases gj_gb 8 v3 with b3 | ⟨b, hb, rfl⟩
  · exact gx_endN b3 (br_f (by decide) (gy_slot ht (br_f (by decide) (gy_end ha (br_f (by decide) (gy_endN b3 (br_t rfl ⟨rfl, R⟩)))))))
  refine gx_end hb (br_t rfl ?_)
  have hp := hP t ht
  have hx := hX.1 t ht
  have hy := hY.1 t ht
  by_cases za : P t a = a
  · exact gx_lo_t hp hx ht ha za (br_f (by decide) (gy_slot ht (br_f (by decide) (gy_end ha (br_f (by decide) (gy_end hb (br_f (by decide) (gy_lo_t hp hy ht ha za (br_f (by decide) ⟨rfl, R⟩)))))))))
  · by_cases zb : P t b = b
    · have hab2 : a ≠ b := fun z => za (by rw [z]; exact zb)
      have zc : P t a ≠ b := fun z => za (by have := hp.1 a; rw [z, zb] at this; rw [z]; exact this)
      have hV := gj_mk_V hp ha hb hab2 zc
      refine gx_lo_f hp hx ht ha za (br_t rfl (gx_lo_t hp hx ht hb zb (br_f (by decide) ⟨gj_xv (by omega) ha, nm_r (e' := nI (P t a)) (by rw [gj_xc (by omega) ha, hx a ha, gj_cx_n za]) (gx_make hp hx (by omega) ha hb hab2 zc (fun w k1 k2 => ?_))⟩)))
      refine gy_slot ht (br_f (by decide) (gy_end ha (br_f (by decide) (gy_end hb (br_f (by decide) (gy_lo_f hp hy ht ha za (br_t rfl (gy_lo_t hp hy ht hb zb (br_f (by decide) ⟨gj_yv (by omega) ha, nm_r (e' := nI (P t a)) (by rw [gj_yc (by omega) ha, hy a ha]) (gy_unlink hp hy (by omega) ha (fun w' k3 k4 => ?_))⟩)))))))))
      refine gy_join k3 (by omega) ha hb hab2 (if_pos rfl) ?_ (fun w2 k5 k6 => ?_)
      · unfold gj_rm
        rw [if_neg (fun z => hab2 z.symm), if_neg (fun z => zc z.symm), zb]
      · rw [gj_mk_ra hp.1 hab2 zb] at k5
        exact ⟨rfl, gj_up_R hP hX hY ht hV k1 k2 k5 (gj_eo_t k4 k6)⟩
    · exact gx_lo_f hp hx ht ha za (br_t rfl (gx_lo_f hp hx ht hb zb (br_t rfl (gy_slot ht (br_f (by decide) (gy_end ha (br_f (by decide) (gy_end hb (br_f (by decide) (gy_lo_f hp hy ht ha za (br_t rfl (gy_lo_f hp hy ht hb zb (br_t rfl ⟨rfl, R⟩)))))))))))))
