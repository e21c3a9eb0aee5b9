/-! T: the methods, first those without a walk -/
theorem i_vc_create {k : Nat} {u : SX} {v : SY} (I : i_Rel k u v) (hk : k + 5 ≤ 2560) (v1 : Int32) (v2 : Int32) : wpX_create (fun r u' => wpY_create (fun r' v' => r' = r ∧ i_Rel (k + 5) u' v') v v1 v2) u v1 v2 := by
  have J : i_Rel (k + 5) u v := I
  obtain ⟨s, l, f, c, w, r, m, ST, CL, cv, mm, be, rfl, rfl, hs, hl, T, hc, hw, hr, hm, hcv⟩ := I
  unfold wpX_create wpY_create
  dsimp only
  rcases ac_mv v1 with h1 | ⟨o, h0, ho, rfl⟩
  · refine ac_xm0 h1 ?_
    rcases h1 with h1 | h1
    · exact ac_yo0 h1 ⟨rfl, J⟩
    · subst h1; exact ac_yo1 (n := 0) (by omega) (br_t rfl ⟨rfl, J⟩)
  · refine ac_xm1 h0 ho ?_
    have ne : ¬ nI o = 0 := nI_ne0 h0 (by omega)
    have vo : vp_in (nI o) 16 := vp_in_nI ho (by decide)
    rcases ac_ix v2 (N := 16) (by decide) with h2 | ⟨q, hq, rfl⟩
    · exact ac_xo0 h2 (ac_yo1 ho (br_f ne (ac_yo0 h2 ⟨rfl, J⟩)))
    · have vq : vp_in (nI q) 16 := vp_in_nI hq (by decide)
      refine ac_xo1 hq ?_
      cases so : s o
      · refine ac_xh0 ((hs o ho).trans so) (by omega) ?_
        cases sq : s q
        · exact ac_xh0 ((hs q hq).trans sq) (by omega) (ac_yo1 ho (br_f ne (ac_yo1 hq ⟨vo, ac_bs0 (by omega) so ⟨vq, ac_bs0 (by omega) sq ⟨rfl, J⟩⟩⟩)))
        · refine ac_xh1 ((hs q hq).trans sq) (by omega) (ac_xw1 (ac_xw0 ⟨vo, nm_r (ac_uN' c (by omega) 0) ⟨vo, nm_r (ac_uN' f (by omega) q) ?_⟩⟩))
          exact ac_yo1 ho (br_f ne (ac_yo1 hq ⟨vo, ac_bs0 (by omega) so ⟨vq, ac_bs1 (by omega) sq ⟨vo, nm_r (ac_uB' s (by omega) true) ⟨vo, nm_r (ac_uN' f (by omega) q) ⟨vo, nm_r (ac_uB' l (by omega) false) ⟨vo, nm_r (ac_uN' c (by omega) 0) ⟨rfl, ⟨ac_up s o true, ac_up l o false, ac_up f o q, ac_up c o 0, w, r, m, _, _, cv, mm, be, rfl, rfl, ac_hon hs ho, ac_hoff hl ho, ac_T_create T ho (by omega) hq so sq, ac_ub hc (by omega), hw, hr, hm, hcv⟩⟩⟩⟩⟩⟩⟩⟩))
      · exact ac_xh1 ((hs o ho).trans so) (by omega) (ac_yo1 ho (br_f ne (ac_yo1 hq ⟨vo, ac_bs1 (by omega) so ⟨rfl, J⟩⟩)))
theorem i_vc_remove {k : Nat} {u : SX} {v : SY} (I : i_Rel k u v) (hk : k + 5 ≤ 2560) (v1 : Int32) : wpX_remove (fun r u' => wpY_remove (fun r' v' => r' = r ∧ i_Rel (k + 5) u' v') v v1) u v1 := by
  have J : i_Rel (k + 5) u v := I
  obtain ⟨s, l, f, c, w, r, m, ST, CL, cv, mm, be, rfl, rfl, hs, hl, T, hc, hw, hr, hm, hcv⟩ := I
  unfold wpX_remove wpY_remove
  dsimp only
  rcases ac_mv v1 with h1 | ⟨o, h0, ho, rfl⟩
  · refine ac_xm0 h1 ?_
    rcases h1 with h1 | h1
    · exact ac_yo0 h1 ⟨rfl, J⟩
    · subst h1; exact ac_yo1 (n := 0) (by omega) (br_t rfl ⟨rfl, J⟩)
  · refine ac_xm1 h0 ho ?_
    have ne : ¬ nI o = 0 := nI_ne0 h0 (by omega)
    have vo : vp_in (nI o) 16 := vp_in_nI ho (by decide)
    cases so : s o
    · exact ac_xh0 ((hs o ho).trans so) (by omega) (ac_yo1 ho (br_f ne ⟨vo, ac_bs0 (by omega) so ⟨rfl, J⟩⟩))
    · refine ac_xh1 ((hs o ho).trans so) (by omega) (ac_x_pa hs T.2.1 ho ?_)
      cases e : ac_an (fun x => s x && decide (f x = o)) 1 15
      · refine br_t rfl (ac_xw0 (ac_yo1 ho (br_f ne ⟨vo, ac_bs1 (by omega) so ⟨16, ac_y_rm_l T.2.1 ho 15 1 16 rfl (by omega) (fun _ => ⟨rfl, ?_⟩) (fun z => ac_tf z e)⟩⟩)))
        refine ⟨ac_up s o false, l, f, c, w, r, m, _, _, cv, mm, be, rfl, rfl, ac_hoff hs ho, hl, ac_T_remove T (by omega) ?_, hc, hw, hr, hm, hcv⟩
        intro x h1 h2 h3 h4
        have z : (s x && decide (f x = o)) = false := ac_an_no 15 1 e x h1 (by omega)
        rw [h3, h4] at z
        simp at z
      · exact br_f ac_10 (ac_yo1 ho (br_f ne ⟨vo, ac_bs1 (by omega) so ⟨16, ac_y_rm_l T.2.1 ho 15 1 16 rfl (by omega) (fun z => ac_tf e z) (fun _ => ⟨rfl, J⟩)⟩⟩))
theorem i_vc_move {k : Nat} {u : SX} {v : SY} (I : i_Rel k u v) (hk : k + 5 ≤ 2560) (v1 : Int32) (v2 : Int32) : wpX_move (fun r u' => wpY_move (fun r' v' => r' = r ∧ i_Rel (k + 5) u' v') v v1 v2) u v1 v2 := by
  have J : i_Rel (k + 5) u v := I
  obtain ⟨s, l, f, c, w, r, m, ST, CL, cv, mm, be, rfl, rfl, hs, hl, T, hc, hw, hr, hm, hcv⟩ := I
  unfold wpX_move wpY_move
  dsimp only
  rcases ac_mv v1 with h1 | ⟨o, h0, ho, rfl⟩
  · refine ac_xm0 h1 ?_
    rcases h1 with h1 | h1
    · exact ac_yo0 h1 ⟨rfl, J⟩
    · subst h1; exact ac_yo1 (n := 0) (by omega) (br_t rfl ⟨rfl, J⟩)
  · refine ac_xm1 h0 ho ?_
    have ne : ¬ nI o = 0 := nI_ne0 h0 (by omega)
    have no : o ≠ 0 := by omega
    have vo : vp_in (nI o) 16 := vp_in_nI ho (by decide)
    rcases ac_ix v2 (N := 16) (by decide) with h2 | ⟨q, hq, rfl⟩
    · exact ac_xo0 h2 (ac_yo1 ho (br_f ne (ac_yo0 h2 ⟨rfl, J⟩)))
    · have vq : vp_in (nI q) 16 := vp_in_nI hq (by decide)
      refine ac_xo1 hq ?_
      cases so : s o
      · exact ac_xh0 ((hs o ho).trans so) (by omega) (ac_yo1 ho (br_f ne (ac_yo1 hq ⟨vo, ac_bs0 (by omega) so ⟨rfl, J⟩⟩)))
      · refine ac_xh1 ((hs o ho).trans so) (by omega) ?_
        cases sq : s q
        · exact ac_xh0 ((hs q hq).trans sq) (by omega) (ac_yo1 ho (br_f ne (ac_yo1 hq ⟨vo, ac_bs1 (by omega) so ⟨vq, ac_bs0 (by omega) sq ⟨rfl, J⟩⟩⟩)))
        · refine ac_xh1 ((hs q hq).trans sq) (by omega) (ac_x_ab T.2.1 ho hq ?_)
          cases e : ac_ab f o 16 q
          · refine br_t rfl ⟨vo, nm_e ⟨vo, nm_r (ac_uN' f (by omega) q) ?_⟩⟩
            refine ac_yo1 ho (br_f ne (ac_yo1 hq ⟨vo, ac_bs1 (by omega) so ⟨vq, ac_bs1 (by omega) sq ⟨17, ac_y_mv_l T.2.1 ho no 16 0 17 q rfl (by omega) hq (fun _ => ?_) (fun z => ac_tf z e)⟩⟩⟩))
            unfold wY_move_80
            exact ⟨vo, nm_e ⟨vo, nm_r (ac_uN' f (by omega) q) ⟨rfl, ⟨s, l, ac_up f o q, c, w, r, m, _, _, cv, mm, be, rfl, rfl, hs, hl, ac_T_move T ho no hq sq (ac_ab_f no T.1 16 q e), hc, hw, hr, hm, hcv⟩⟩⟩⟩
          · exact br_f ac_10 (ac_yo1 ho (br_f ne (ac_yo1 hq ⟨vo, ac_bs1 (by omega) so ⟨vq, ac_bs1 (by omega) sq ⟨17, ac_y_mv_l T.2.1 ho no 16 0 17 q rfl (by omega) hq (fun z => ac_tf e z) (fun _ => ⟨rfl, J⟩)⟩⟩⟩)))
theorem i_vc_parentOf {k : Nat} {u : SX} {v : SY} (I : i_Rel k u v) (hk : k + 5 ≤ 2560) (v1 : Int32) : wpX_parentOf (fun r => wpY_parentOf (fun r' => r' = r ∧ i_Rel (k + 5) u v) v v1) u v1 := by
  have J : i_Rel (k + 5) u v := I
  obtain ⟨s, l, f, c, w, r, m, ST, CL, cv, mm, be, rfl, rfl, hs, hl, T, hc, hw, hr, hm, hcv⟩ := I
  unfold wpX_parentOf wpY_parentOf
  dsimp only
  rcases ac_mv v1 with h1 | ⟨o, h0, ho, rfl⟩
  · refine ac_xm0 h1 ?_
    rcases h1 with h1 | h1
    · exact ac_yo0 h1 ⟨rfl, J⟩
    · subst h1; exact ac_yo1 (n := 0) (by omega) (br_t rfl ⟨rfl, J⟩)
  · refine ac_xm1 h0 ho ?_
    have ne : ¬ nI o = 0 := nI_ne0 h0 (by omega)
    have vo : vp_in (nI o) 16 := vp_in_nI ho (by decide)
    cases so : s o
    · exact ac_xh0 ((hs o ho).trans so) (by omega) (ac_yo1 ho (br_f ne ⟨vo, ac_bs0 (by omega) so ⟨rfl, J⟩⟩))
    · exact ac_xh1 ((hs o ho).trans so) (by omega) ⟨vo, ac_yo1 ho (br_f ne ⟨vo, ac_bs1 (by omega) so ⟨vo, rfl, J⟩⟩)⟩
theorem i_vc_close {k : Nat} {u : SX} {v : SY} (I : i_Rel k u v) (hk : k + 5 ≤ 2560) (v1 : Int32) (v2 : Int32) : wpX_close (fun r u' => wpY_close (fun r' v' => r' = r ∧ i_Rel (k + 5) u' v') v v1 v2) u v1 v2 := by
  have J : i_Rel (k + 5) u v := I
  obtain ⟨s, l, f, c, w, r, m, ST, CL, cv, mm, be, rfl, rfl, hs, hl, T, hc, hw, hr, hm, hcv⟩ := I
  unfold wpX_close wpY_close
  dsimp only
  rcases ac_ix v1 (N := 16) (by decide) with h1 | ⟨o, ho, rfl⟩
  · exact ac_xo0 h1 (ac_yo0 h1 ⟨rfl, J⟩)
  · refine ac_xo1 ho ?_
    have vo : vp_in (nI o) 16 := vp_in_nI ho (by decide)
    cases so : s o
    · exact ac_xh0 ((hs o ho).trans so) (by omega) (ac_yo1 ho ⟨vo, ac_bs0 (by omega) so ⟨rfl, J⟩⟩)
    · refine ac_xh1 ((hs o ho).trans so) (by omega) ?_
      unfold wX_close_39 wX_close_55 wY_close_36
      have R0 : i_Rel (k + 5) (ST, CL &&& (((1 : Int32) <<< (nI o &&& 31)) ^^^ (-1)), (fun zz => nI (f zz)), cv, (fun zz => nI (c zz)), (fun zz => nI (w zz)), (fun zz => nI (r zz)), (fun zz => nI (m zz))) ((fun zz => ac_b (s zz)), (fun zz => nI (f zz)), (fun zz => ac_b ((ac_up l o false) zz)), mm, (fun zz => nI (c zz)), (fun zz => nI (m zz / 8)), (fun zz => nI (w zz)), (fun zz => nI (r zz)), (fun zz => nI (m zz % 8)), be) :=
        ⟨s, ac_up l o false, f, c, w, r, m, _, _, cv, mm, be, rfl, rfl, hs, ac_hoff hl ho, T, hc, hw, hr, hm, hcv⟩
      have R1 : i_Rel (k + 5) (ST, CL ||| ((1 : Int32) <<< (nI o &&& 31)), (fun zz => nI (f zz)), cv, (fun zz => nI (c zz)), (fun zz => nI (w zz)), (fun zz => nI (r zz)), (fun zz => nI (m zz))) ((fun zz => ac_b (s zz)), (fun zz => nI (f zz)), (fun zz => ac_b ((ac_up l o true) zz)), mm, (fun zz => nI (c zz)), (fun zz => nI (m zz / 8)), (fun zz => nI (w zz)), (fun zz => nI (r zz)), (fun zz => nI (m zz % 8)), be) :=
        ⟨s, ac_up l o true, f, c, w, r, m, _, _, cv, mm, be, rfl, rfl, hs, ac_hon hl ho, T, hc, hw, hr, hm, hcv⟩
      cases lo : l o
      · refine ac_xh0 ((hl o ho).trans lo) (by omega) ?_
        by_cases h2 : v2 = 0
        · exact br_t h2 (ac_xw0 (ac_yo1 ho ⟨vo, ac_bs1 (by omega) so ⟨vo, ac_bs0 (by omega) lo (br_t h2 ⟨vo, nm_r (ac_uB' l (by omega) false) ⟨rfl, R0⟩⟩)⟩⟩))
        · exact br_f h2 (ac_xw1 (ac_yo1 ho ⟨vo, ac_bs1 (by omega) so ⟨vo, ac_bs0 (by omega) lo (br_f h2 ⟨vo, nm_r (ac_uB' l (by omega) true) ⟨rfl, R1⟩⟩)⟩⟩))
      · refine ac_xh1 ((hl o ho).trans lo) (by omega) ?_
        by_cases h2 : v2 = 0
        · exact br_t h2 (ac_xw0 (ac_yo1 ho ⟨vo, ac_bs1 (by omega) so ⟨vo, ac_bs1 (by omega) lo (br_t h2 ⟨vo, nm_r (ac_uB' l (by omega) false) ⟨rfl, R0⟩⟩)⟩⟩))
        · exact br_f h2 (ac_xw1 (ac_yo1 ho ⟨vo, ac_bs1 (by omega) so ⟨vo, ac_bs1 (by omega) lo (br_f h2 ⟨vo, nm_r (ac_uB' l (by omega) true) ⟨rfl, R1⟩⟩)⟩⟩))
theorem i_vc_entries {k : Nat} {u : SX} {v : SY} (I : i_Rel k u v) (hk : k + 5 ≤ 2560) (v1 : Int32) : wpX_entries (fun r => wpY_entries (fun r' => r' = r ∧ i_Rel (k + 5) u v) v v1) u v1 := by
  have J : i_Rel (k + 5) u v := I
  obtain ⟨s, l, f, c, w, r, m, ST, CL, cv, mm, be, rfl, rfl, hs, hl, T, hc, hw, hr, hm, hcv⟩ := I
  unfold wpX_entries wpY_entries
  dsimp only
  rcases ac_ix v1 (N := 16) (by decide) with h1 | ⟨o, ho, rfl⟩
  · exact ac_xo0 h1 (ac_yo0 h1 ⟨rfl, J⟩)
  · refine ac_xo1 ho ?_
    have vo : vp_in (nI o) 16 := vp_in_nI ho (by decide)
    cases so : s o
    · exact ac_xh0 ((hs o ho).trans so) (by omega) (ac_yo1 ho ⟨vo, ac_bs0 (by omega) so ⟨rfl, J⟩⟩)
    · exact ac_xh1 ((hs o ho).trans so) (by omega) ⟨vo, ac_yo1 ho ⟨vo, ac_bs1 (by omega) so ⟨vo, rfl, J⟩⟩⟩
theorem i_vc_member {k : Nat} {u : SX} {v : SY} (I : i_Rel k u v) (hk : k + 5 ≤ 2560) (v1 : Int32) (v2 : Int32) (v3 : Int32) : wpX_member (fun r u' => wpY_member (fun r' v' => r' = r ∧ i_Rel (k + 5) u' v') v v1 v2 v3) u v1 v2 v3 := by
  have J : i_Rel (k + 5) u v := I
  obtain ⟨s, l, f, c, w, r, m, ST, CL, cv, mm, be, rfl, rfl, hs, hl, T, hc, hw, hr, hm, hcv⟩ := I
  unfold wpX_member wpY_member
  dsimp only
  rcases ac_gr v1 with h1 | ⟨g, h6, h8, rfl⟩
  · refine ac_xg0 h1 ?_
    by_cases z : v1 < 6
    · exact br_t z ⟨rfl, J⟩
    · exact br_f z (br_t (ac_lel (N := 7) (by decide) (h1.resolve_left z)) ⟨rfl, J⟩)
  · refine ac_xg1 h6 h8 ?_
    have y6 : ¬ nI g < 6 := nI_nlt (b := 6) h6 (by omega)
    have y7 : ¬ 7 < nI g := nI_nlt (a := 7) (by omega) (by decide)
    rcases ac_ix v2 (N := 6) (by decide) with h2 | ⟨p, hp, rfl⟩
    · exact ac_xp0 h2 (br_f y6 (br_f y7 (ac_yp0 h2 ⟨rfl, J⟩)))
    · have vg : vp_in (nI g) 8 := vp_in_nI h8 (by decide)
      have eg : nI g - 6 = nI (g - 6) := pk_sub (b := 6) h6
      have vy : vp_in (nI g - 6) 2 := by rw [eg]; exact vp_in_nI (by omega) (by decide)
      have cg : (nI g).toNatClampNeg = g := nI_clamp (by omega)
      have cy : (nI g - 6).toNatClampNeg = g - 6 := by rw [eg]; exact nI_clamp (by omega)
      have key : mm (g - 6) = cv g := by
        rcases (show g = 6 ∨ g = 7 by omega) with z | z
        · subst z; exact hcv.1.symm
        · subst z; exact hcv.2.1.symm
      have R : ∀ X : Int32, i_Rel (k + 5) (ST, CL, (fun zz => nI (f zz)), upd cv g X, (fun zz => nI (c zz)), (fun zz => nI (w zz)), (fun zz => nI (r zz)), (fun zz => nI (m zz))) ((fun zz => ac_b (s zz)), (fun zz => nI (f zz)), (fun zz => ac_b (l zz)), (upd mm (g - 6) X), (fun zz => nI (c zz)), (fun zz => nI (m zz / 8)), (fun zz => nI (w zz)), (fun zz => nI (r zz)), (fun zz => nI (m zz % 8)), be) :=
        fun X => ⟨s, l, f, c, w, r, m, _, _, upd cv g X, upd mm (g - 6) X, be, rfl, rfl, hs, hl, T, hc, hw, hr, hm, ac_C_up hcv h6 h8 X⟩
      unfold wX_member_34 wX_member_57
      rw [cg, cy, key, ac_bit (cv g) (show p < 32 by omega)]
      refine ac_xp1 hp ⟨vg, ?_⟩
      cases e : bt (cv g) p
      · refine ac_xh0 e (by omega) ⟨vg, ?_⟩
        by_cases h3 : v3 = 0
        · exact br_t h3 (ac_xw0 ⟨vg, nm_e (br_f y6 (br_f y7 (ac_yp1 hp ⟨vy, nm_e (br_t h3 ⟨vy, vy, nm_e ⟨rfl, R _⟩⟩)⟩)))⟩)
        · exact br_f h3 (ac_xw1 ⟨vg, nm_e (br_f y6 (br_f y7 (ac_yp1 hp ⟨vy, nm_e (br_f h3 ⟨vy, vy, nm_e ⟨rfl, R _⟩⟩)⟩)))⟩)
      · refine ac_xh1 e (by omega) ⟨vg, ?_⟩
        by_cases h3 : v3 = 0
        · exact br_t h3 (ac_xw0 ⟨vg, nm_e (br_f y6 (br_f y7 (ac_yp1 hp ⟨vy, nm_e (br_t h3 ⟨vy, vy, nm_e ⟨rfl, R _⟩⟩)⟩)))⟩)
        · exact br_f h3 (ac_xw1 ⟨vg, nm_e (br_f y6 (br_f y7 (ac_yp1 hp ⟨vy, nm_e (br_f h3 ⟨vy, vy, nm_e ⟨rfl, R _⟩⟩)⟩)))⟩)
