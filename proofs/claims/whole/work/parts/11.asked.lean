/-! V: what is asked of the rights -/
theorem i_vc_rights {k : Nat} {u : SX} {v : SY} (I : i_Rel k u v) (hk : k + 5 ≤ 2560) (v1 : Int32) (v2 : Int32) : wpX_rights (fun r => wpY_rights (fun r' => r' = r ∧ i_Rel (k + 5) u v) v v1 v2) u v1 v2 := by
  have J : i_Rel (k + 5) u v := I
  obtain ⟨s, l, f, c, w, r, m, ST, CL, cv, mm, be, rfl, rfl, hs, hl, T, hc, hw, hr, hm, hcv⟩ := I
  unfold wpX_rights
  dsimp only
  rcases ac_ix v1 (N := 16) (by decide) with h1 | ⟨o, ho, rfl⟩
  · refine ac_xo0 h1 ?_
    unfold wpY_rights
    try dsimp only
    exact ac_yo0 h1 ⟨rfl, J⟩
  · refine ac_xo1 ho ?_
    rcases ac_ix v2 (N := 6) (by decide) with h2 | ⟨p, hp, rfl⟩
    · refine ac_xp0 h2 ?_
      unfold wpY_rights
      try dsimp only
      exact ac_yo1 ho (ac_yp0 h2 ⟨rfl, J⟩)
    · refine ac_xp1 hp ?_
      cases so : s o
      · exact ac_xh0 ((hs o ho).trans so) (by omega) (ac_y_rs hm hw hc T.2.1 hcv ho hp ⟨by rw [so]; rfl, J⟩)
      · exact ac_xh1 ((hs o ho).trans so) (by omega) (ac_x_rc hc hw T.2.1 hl ho (by omega) (ac_y_rs hm hw hc T.2.1 hcv ho hp ⟨by rw [if_pos so]; exact ac_rs_set hm hr l p (ac_T15 T ho so), J⟩))
theorem i_vc_may {k : Nat} {u : SX} {v : SY} (I : i_Rel k u v) (hk : k + 5 ≤ 2560) (v1 : Int32) (v2 : Int32) (v3 : Int32) : wpX_may (fun r => wpY_may (fun r' => r' = r ∧ i_Rel (k + 5) u v) v v1 v2 v3) u v1 v2 v3 := by
  have J : i_Rel (k + 5) u v := I
  obtain ⟨s, l, f, c, w, r, m, ST, CL, cv, mm, be, rfl, rfl, hs, hl, T, hc, hw, hr, hm, hcv⟩ := I
  unfold wpX_may wpY_may
  dsimp only
  rcases ac_ix v1 (N := 16) (by decide) with h1 | ⟨o, ho, rfl⟩
  · exact ac_xo0 h1 (ac_yo0 h1 ⟨rfl, J⟩)
  · refine ac_xo1 ho ?_
    have vo : vp_in (nI o) 16 := vp_in_nI ho (by decide)
    rcases ac_ix v2 (N := 6) (by decide) with h2 | ⟨p, hp, rfl⟩
    · exact ac_xp0 h2 (ac_yo1 ho (ac_yp0 h2 ⟨rfl, J⟩))
    · refine ac_xp1 hp ?_
      rcases ac_ix v3 (N := 4) (by decide) with h3 | ⟨b, hb, rfl⟩
      · exact ac_xr0 h3 (ac_yo1 ho (ac_yp1 hp (ac_yr0 h3 ⟨rfl, J⟩)))
      · refine ac_xr1 hb ?_
        cases so : s o
        · exact ac_xh0 ((hs o ho).trans so) (by omega) (ac_yo1 ho (ac_yp1 hp (ac_yr1 hb ⟨vo, ac_bs0 (by omega) so ⟨rfl, J⟩⟩)))
        · refine ac_xh1 ((hs o ho).trans so) (by omega) (ac_x_al hm hc hw T.2.1 hl ho (by omega) (by omega) ?_)
          have e17 := ac_al_17 (c := c) (w := w) (r := r) (m := m) (cv := cv) l p b (ac_T15 T ho so)
          cases e : ac_al f c w r m cv l p b 16 o
          · refine br_t rfl (ac_yo1 ho (ac_yp1 hp (ac_yr1 hb ⟨vo, ac_bs1 (by omega) so (ac_y_al hm hw hc T.2.1 hcv ho hp (by omega) ?_)⟩)))
            rw [e17, e]
            exact br_t rfl ⟨rfl, J⟩
          · refine br_f ac_10 (ac_yo1 ho (ac_yp1 hp (ac_yr1 hb ⟨vo, ac_bs1 (by omega) so (ac_y_al hm hw hc T.2.1 hcv ho hp (by omega) ?_)⟩)))
            rw [e17, e]
            exact br_f ac_10 ⟨rfl, J⟩
theorem i_vc_who {k : Nat} {u : SX} {v : SY} (I : i_Rel k u v) (hk : k + 5 ≤ 2560) (v1 : Int32) (v2 : Int32) : wpX_who (fun r => wpY_who (fun r' => r' = r ∧ i_Rel (k + 5) u v) v v1 v2) u v1 v2 := by
  have J : i_Rel (k + 5) u v := I
  obtain ⟨s, l, f, c, w, r, m, ST, CL, cv, mm, be, rfl, rfl, hs, hl, T, hc, hw, hr, hm, hcv⟩ := I
  unfold wpX_who wpY_who
  dsimp only
  rcases ac_ix v1 (N := 16) (by decide) with h1 | ⟨o, ho, rfl⟩
  · exact ac_xo0 h1 (ac_yo0 h1 ⟨rfl, J⟩)
  · refine ac_xo1 ho ?_
    have vo : vp_in (nI o) 16 := vp_in_nI ho (by decide)
    rcases ac_ix v2 (N := 4) (by decide) with h2 | ⟨b, hb, rfl⟩
    · exact ac_xr0 h2 (ac_yo1 ho (ac_yr0 h2 ⟨rfl, J⟩))
    · refine ac_xr1 hb ?_
      cases so : s o
      · exact ac_xh0 ((hs o ho).trans so) (by omega) (ac_yo1 ho (ac_yr1 hb ⟨vo, ac_bs0 (by omega) so ⟨rfl, J⟩⟩))
      · refine ac_xh1 ((hs o ho).trans so) (by omega) ⟨7, ac_x_who_l hm hc hw T.2.1 hl ho (by omega) ?_ 6 0 7 rfl (by omega)⟩
        exact ac_yo1 ho (ac_yr1 hb ⟨vo, ac_bs1 (by omega) so ⟨7, ac_y_who_l hm hw hc T.2.1 hcv ho (by omega) ⟨ac_set_e 6 (fun p _ => ac_al_17 l p b (ac_T15 T ho so)), J⟩ 6 0 7 rfl (by omega)⟩⟩)
theorem i_vc_count {k : Nat} {u : SX} {v : SY} (I : i_Rel k u v) (hk : k + 5 ≤ 2560) (v1 : Int32) (v2 : Int32) : wpX_count (fun r => wpY_count (fun r' => r' = r ∧ i_Rel (k + 5) u v) v v1 v2) u v1 v2 := by
  have J : i_Rel (k + 5) u v := I
  obtain ⟨s, l, f, c, w, r, m, ST, CL, cv, mm, be, rfl, rfl, hs, hl, T, hc, hw, hr, hm, hcv⟩ := I
  unfold wpX_count wpY_count
  dsimp only
  rcases ac_ix v1 (N := 6) (by decide) with h1 | ⟨p, hp, rfl⟩
  · exact ac_xp0 h1 (ac_yp0 h1 ⟨rfl, J⟩)
  · refine ac_xp1 hp ?_
    rcases ac_ix v2 (N := 4) (by decide) with h2 | ⟨b, hb, rfl⟩
    · exact ac_xr0 h2 (ac_yp1 hp (ac_yr0 h2 ⟨rfl, J⟩))
    · refine ac_xr1 hb ⟨17, ac_x_cnt_l hs hm hc hw T.2.1 hl (by omega) (by omega) ?_ 16 0 17 rfl (by omega)⟩
      refine ac_yp1 hp (ac_yr1 hb ⟨17, ac_y_cnt_l hm hw hc T.2.1 hcv hp (by omega) ⟨congrArg nI (ac_cn_e 16 ?_), J⟩ 16 0 17 rfl (by omega)⟩)
      intro x hx
      try dsimp only
      cases sx : s x
      · rfl
      · rw [ac_al_17 l p b (ac_T15 T hx sx)]
theorem i_vc_reach {k : Nat} {u : SX} {v : SY} (I : i_Rel k u v) (hk : k + 5 ≤ 2560) (v1 : Int32) : wpX_reach (fun r => wpY_reach (fun r' => r' = r ∧ i_Rel (k + 5) u v) v v1) u v1 := by
  have J : i_Rel (k + 5) u v := I
  obtain ⟨s, l, f, c, w, r, m, ST, CL, cv, mm, be, rfl, rfl, hs, hl, T, hc, hw, hr, hm, hcv⟩ := I
  unfold wpX_reach wpY_reach
  dsimp only
  rcases ac_ix v1 (N := 6) (by decide) with h1 | ⟨p, hp, rfl⟩
  · exact ac_xp0 h1 (ac_yp0 h1 ⟨rfl, J⟩)
  · refine ac_xp1 hp ⟨17, ac_x_rea_l hs hm hc hw T.2.1 hl (by omega) ?_ 16 0 17 rfl (by omega)⟩
    refine ac_yp1 hp ⟨17, ac_y_rea_l hm hw hc T.2.1 hcv hp ⟨congrArg nI (ac_cn_e 16 ?_), J⟩ 16 0 17 rfl (by omega)⟩
    intro x hx
    try dsimp only
    cases sx : s x
    · rfl
    · have t15 := ac_T15 T hx sx
      rw [ac_gxy T.1 T.2.1 (fun y _ hy => (ac_al_17 (c := c) (w := w) (r := r) (m := m) (cv := cv) l p 0 hy).symm) 15 x hx t15 t15]
theorem i_vc_stir {k : Nat} {u : SX} {v : SY} (I : i_Rel k u v) (hk : k + 5 ≤ 2560) (v1 : Int32) : wpX_stir (fun r => wpY_stir (fun r' v' => r' = r ∧ i_Rel (k + 5) u v') v v1) u v1 := by
  have J : i_Rel (k + 5) u v := I
  obtain ⟨s, l, f, c, w, r, m, ST, CL, cv, mm, be, rfl, rfl, hs, hl, T, hc, hw, hr, hm, hcv⟩ := I
  unfold wpX_stir wpY_stir
  dsimp only
  rcases ac_ix v1 (N := 16) (by decide) with h1 | ⟨o, ho, rfl⟩
  · exact ac_xo0 h1 (ac_yo0 h1 ⟨rfl, J⟩)
  · refine ac_xo1 ho ?_
    have vo : vp_in (nI o) 16 := vp_in_nI ho (by decide)
    cases so : s o
    · exact ac_xh0 ((hs o ho).trans so) (by omega) (ac_yo1 ho ⟨vo, ac_bs0 (by omega) so ⟨rfl, J⟩⟩)
    · refine ac_xh1 ((hs o ho).trans so) (by omega) (nm_e ⟨17, ac_x_st_l hs hc hw T.2.1 hl (ac_hxor hl ho) ?_ 16 0 17 rfl (by omega)⟩)
      refine ac_yo1 ho ⟨vo, ac_bs1 (by omega) so ⟨97, ac_y_s1_l hm hw hc T.2.1 hcv ho (fun be' hb => ⟨97, ac_y_s2_l (l := ac_up l o (!l o)) hm hw hc T.2.1 hcv ho ⟨congrArg nI ?_, ?_⟩ 96 0 97 rfl (by omega)⟩) 96 0 97 be rfl (by omega) (fun j hj => by omega)⟩⟩
      · rw [ac_cn_e (q' := fun j => !decide (ac_rv s f c w r m cv l (j % 6) (j / 6) = ac_rv s f c w r m cv (ac_up l o (!l o)) (j % 6) (j / 6))) 96 (fun j hj => by rw [hb j hj])]
        refine (ac_pairs (fun x p => !decide (ac_rv s f c w r m cv l p x = ac_rv s f c w r m cv (ac_up l o (!l o)) p x)) 16).trans (ac_sm_e 16 (fun x hx => ?_))
        try dsimp only
        cases sx : s x
        · rw [if_neg (by decide), ← ac_cn_0 6]
          refine ac_cn_e 6 (fun p _ => ?_)
          try dsimp only
          unfold ac_rv
          rw [sx]
          simp
        · rw [if_pos rfl]
          refine ac_cn_e 6 (fun p _ => ?_)
          have t15 := ac_T15 T hx sx
          try dsimp only
          unfold ac_rv
          rw [if_pos sx, if_pos sx, ac_rs_set hm hr l p t15, ac_rs_set hm hr (ac_up l o (!l o)) p t15]
      · refine ⟨s, l, f, c, w, r, m, _, _, cv, mm, be', rfl, ?_, hs, hl, T, hc, hw, hr, hm, hcv⟩
        have e1 : ac_up (ac_up l o (!l o)) o (!ac_up l o (!l o) o) = l := by
          rw [ac_us, Bool.not_not]
          exact ac_uu l o (!l o)
        rw [e1]
