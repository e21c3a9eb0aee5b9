/-! U: entry, drop, and what is asked of the rights -/
theorem ac_not16 {x : Int32} (h : nI 16 ≤ x) : ¬ x ≤ 15 := fun z => absurd (ac_lel (N := 15) (by decide) h) (Int32.not_lt.mpr z)
theorem i_vc_entry {k : Nat} {u : SX} {v : SY} (I : i_Rel k u v) (hk : k + 5 ≤ 2560) (v1 : Int32) (v2 : Int32) (v3 : Int32) (v4 : Int32) : wpX_entry (fun r u' => wpY_entry (fun r' v' => r' = r ∧ i_Rel (k + 5) u' v') v v1 v2 v3 v4) u v1 v2 v3 v4 := by
  have J : i_Rel (k + 5) u v := I
  obtain ⟨s, l, f, c, w, r, m, ST, CL, cv, mm, be, rfl, rfl, hs, hl, T, hc, hw, hr, hm, hcv⟩ := I
  unfold wpX_entry wpY_entry
  dsimp only
  rcases ac_ix v1 (N := 16) (by decide) with h1 | ⟨o, ho, rfl⟩
  · exact ac_xo0 h1 (ac_yo0 h1 ⟨rfl, J⟩)
  · refine ac_xo1 ho ?_
    have vo : vp_in (nI o) 16 := vp_in_nI ho (by decide)
    rcases ac_ix v2 (N := 8) (by decide) with h2 | ⟨a, ha, rfl⟩
    · by_cases z : v2 < 0
      · exact br_t z (ac_yo1 ho (br_t z ⟨rfl, J⟩))
      · have z2 := h2.resolve_left z
        exact br_f z (br_f (Int32.not_lt.mpr z2) (ac_yo1 ho (br_f z (br_t (ac_lel (N := 7) (by decide) z2) ⟨rfl, J⟩))))
    · have a0 : ¬ nI a < 0 := nI_pos (by omega)
      have a1 : nI a < 8 := nI_lt (b := 8) ha (by decide)
      have a2 : ¬ 7 < nI a := nI_nlt (a := 7) (by omega) (by decide)
      refine br_f a0 (br_t a1 ?_)
      rcases ac_ix v3 (N := 16) (by decide) with h3 | ⟨b, hb, rfl⟩
      · by_cases z : v3 < 0
        · exact br_t z (ac_yo1 ho (br_f a0 (br_f a2 (br_t z ⟨rfl, J⟩))))
        · have z2 := h3.resolve_left z
          exact br_f z (br_t z2 (ac_yo1 ho (br_f a0 (br_f a2 (br_f z (br_t (ac_lel (N := 15) (by decide) z2) ⟨rfl, J⟩))))))
      · have b0 : ¬ nI b < 0 := nI_pos (by omega)
        have b1 : ¬ 16 ≤ nI b := nI_ge (b := 16) hb (by decide)
        have b2 : ¬ 15 < nI b := nI_nlt (a := 15) (by omega) (by decide)
        refine br_f b0 (br_f b1 ?_)
        rcases ac_ix v4 (N := 16) (by decide) with h4 | ⟨d, hd, rfl⟩
        · by_cases z : v4 < 0
          · exact br_t z (ac_yo1 ho (br_f a0 (br_f a2 (br_f b0 (br_f b2 (br_t z ⟨rfl, J⟩))))))
          · have z2 := h4.resolve_left z
            exact br_f z (br_f (Int32.not_lt.mpr z2) (ac_yo1 ho (br_f a0 (br_f a2 (br_f b0 (br_f b2 (br_f z (br_f (ac_not16 z2) ⟨rfl, J⟩))))))))
        · have d0 : ¬ nI d < 0 := nI_pos (by omega)
          have d1 : nI d < 16 := nI_lt (b := 16) hd (by decide)
          have d2 : nI d ≤ 15 := nI_le (b := 15) (by omega) (by decide)
          refine br_f d0 (br_t d1 ?_)
          cases so : s o
          · exact ac_xh0 ((hs o ho).trans so) (by omega) (ac_yo1 ho (br_f a0 (br_f a2 (br_f b0 (br_f b2 (br_f d0 (br_t d2 ⟨vo, ac_bs0 (by omega) so ⟨rfl, J⟩⟩)))))))
          · refine ac_xh1 ((hs o ho).trans so) (by omega) ⟨vo, ?_⟩
            have hco := hc o
            have co : (nI o).toNatClampNeg = o := nI_clamp (by omega)
            have es : 4 * nI o + nI (c o) = nI (4 * o + c o) := by rw [ac_4, nI_add]
            rw [co, es]
            by_cases h5 : c o < 4
            · have x4 : nI (c o) < 4 := nI_lt (b := 4) h5 (by decide)
              have y4 : ¬ nI (c o) = 4 := fun z => absurd ((nI_eq (a := c o) (b := 4) (by omega) (by decide)).mp z) (by omega)
              have vs : vp_in (nI (4 * o + c o)) 64 := vp_in_nI (by omega) (by decide)
              have cs : (nI (4 * o + c o)).toNatClampNeg = 4 * o + c o := nI_clamp (by omega)
              have uc : upd (fun zz => nI (c zz)) o (nI (c o) + 1) = fun zz => nI (ac_up c o (c o + 1) zz) := by rw [nI_1, ac_uN]
              have uw : upd (fun zz => nI (w zz)) (nI (4 * o + c o)).toNatClampNeg (nI a) = fun zz => nI (ac_up w (4 * o + c o) a zz) := by rw [cs, ac_uN]
              have ur : upd (fun zz => nI (r zz)) (nI (4 * o + c o)).toNatClampNeg (nI b) = fun zz => nI (ac_up r (4 * o + c o) b zz) := by rw [cs, ac_uN]
              have um : upd (fun zz => nI (m zz)) (nI (4 * o + c o)).toNatClampNeg (nI d) = fun zz => nI (ac_up m (4 * o + c o) d zz) := by rw [cs, ac_uN]
              have uf : upd (fun zz => nI (m zz % 8)) (nI (4 * o + c o)).toNatClampNeg (nI d &&& 7) = fun zz => nI (ac_up m (4 * o + c o) d zz % 8) := by rw [cs, ac_m7 d hd]; exact ac_uH (fun x => x % 8) m _ d
              have R : i_Rel (k + 5) (ST, CL, (fun zz => nI (f zz)), cv, (fun zz => nI ((ac_up c o (c o + 1)) zz)), (fun zz => nI ((ac_up w (4 * o + c o) a) zz)), (fun zz => nI ((ac_up r (4 * o + c o) b) zz)), (fun zz => nI ((ac_up m (4 * o + c o) d) zz))) ((fun zz => ac_b (s zz)), (fun zz => nI (f zz)), (fun zz => ac_b (l zz)), mm, (fun zz => nI ((ac_up c o (c o + 1)) zz)), (fun zz => nI ((ac_up m (4 * o + c o) d) zz / 8)), (fun zz => nI ((ac_up w (4 * o + c o) a) zz)), (fun zz => nI ((ac_up r (4 * o + c o) b) zz)), (fun zz => nI ((ac_up m (4 * o + c o) d) zz % 8)), be) :=
                ⟨s, l, f, ac_up c o (c o + 1), ac_up w (4 * o + c o) a, ac_up r (4 * o + c o) b, ac_up m (4 * o + c o) d, _, _, cv, mm, be, rfl, rfl, hs, hl, T, ac_ub hc (by omega), ac_ub hw ha, ac_ub hr hb, ac_ub hm hd, hcv⟩
              refine br_t x4 ⟨vo, nm_e ⟨vs, nm_r uw ⟨vs, nm_r ur ⟨vs, nm_r um ⟨vo, vo, nm_r uc ⟨vo, ?_⟩⟩⟩⟩⟩⟩
              refine ac_yo1 ho (br_f a0 (br_f a2 (br_f b0 (br_f b2 (br_f d0 (br_t d2 ⟨vo, ?_⟩))))))
              rw [so]
              refine br_f ac_10 ⟨vo, br_f y4 ⟨vo, nm_e ?_⟩⟩
              unfold wY_entry_97
              rw [co]
              by_cases h7 : d ≤ 7
              · have ua : upd (fun zz => nI (m zz / 8)) (nI (4 * o + c o)).toNatClampNeg (vp_nar .boolean 0) = fun zz => nI (ac_up m (4 * o + c o) d zz / 8) := by
                  rw [cs, ← nI_0, ac_b2 0 (by omega), show (0 : Nat) = d / 8 by omega]; exact ac_uH (fun x => x / 8) m _ d
                exact br_t (nI_le (b := 7) h7 (by decide)) ⟨vs, nm_r ua ⟨vs, nm_r uw ⟨vs, nm_r ur ⟨vs, nm_r uf ⟨vo, vo, nm_r uc ⟨vo, rfl, R⟩⟩⟩⟩⟩⟩
              · have ua : upd (fun zz => nI (m zz / 8)) (nI (4 * o + c o)).toNatClampNeg (vp_nar .boolean 1) = fun zz => nI (ac_up m (4 * o + c o) d zz / 8) := by
                  have e1 : vp_nar .boolean 1 = nI (d / 8) := by rw [show d / 8 = 1 by omega]; exact ac_b2 1 (by omega)
                  rw [cs, e1]; exact ac_uH (fun x => x / 8) m _ d
                exact br_f (nI_ge (a := 7) (by omega) (by omega)) ⟨vs, nm_r ua ⟨vs, nm_r uw ⟨vs, nm_r ur ⟨vs, nm_r uf ⟨vo, vo, nm_r uc ⟨vo, rfl, R⟩⟩⟩⟩⟩⟩
            · have x4 : ¬ nI (c o) < 4 := nI_nlt (b := 4) (by omega) (by omega)
              have y4 : nI (c o) = 4 := congrArg nI (show c o = 4 by omega)
              refine br_f x4 (ac_yo1 ho (br_f a0 (br_f a2 (br_f b0 (br_f b2 (br_f d0 (br_t d2 ⟨vo, ?_⟩)))))))
              rw [so]
              exact br_f ac_10 ⟨vo, br_t y4 ⟨rfl, J⟩⟩
theorem i_vc_drop {k : Nat} {u : SX} {v : SY} (I : i_Rel k u v) (hk : k + 5 ≤ 2560) (v1 : Int32) (v2 : Int32) : wpX_drop (fun r u' => wpY_drop (fun r' v' => r' = r ∧ i_Rel (k + 5) u' v') v v1 v2) u v1 v2 := by
  have J : i_Rel (k + 5) u v := I
  obtain ⟨s, l, f, c, w, r, m, ST, CL, cv, mm, be, rfl, rfl, hs, hl, T, hc, hw, hr, hm, hcv⟩ := I
  unfold wpX_drop wpY_drop
  dsimp only
  rcases ac_ix v1 (N := 16) (by decide) with h1 | ⟨o, ho, rfl⟩
  · exact ac_xo0 h1 (ac_yo0 h1 ⟨rfl, J⟩)
  · refine ac_xo1 ho ?_
    have vo : vp_in (nI o) 16 := vp_in_nI ho (by decide)
    have hco := hc o
    have co : (nI o).toNatClampNeg = o := nI_clamp (by omega)
    have es : 4 * nI o + nI (c o) = nI (4 * o + c o) := by rw [ac_4, nI_add]
    cases so : s o
    · exact ac_xh0 ((hs o ho).trans so) (by omega) (ac_yo1 ho ⟨vo, ac_bs0 (by omega) so ⟨rfl, J⟩⟩)
    · refine ac_xh1 ((hs o ho).trans so) (by omega) ?_
      by_cases z : v2 < 0
      · exact br_t z (ac_yo1 ho ⟨vo, ac_bs1 (by omega) so (br_t z ⟨rfl, J⟩)⟩)
      · obtain ⟨i, hi, rfl⟩ := nI_of z
        rw [co, es]
        by_cases h2 : i < c o
        · have x2 : nI i < nI (c o) := nI_lt h2 (by omega)
          have eE : nI (4 * o + c o) - 1 = nI (4 * o + c o - 1) := pk_sub (b := 1) (by omega)
          have ea : 4 * nI o + nI i = nI (4 * o + i) := by rw [ac_4, nI_add]
          have R : i_Rel (k + 5) (ST, CL, (fun zz => nI (f zz)), cv, (fun zz => nI ((ac_up c o (c o - 1)) zz)), (fun zz => nI ((ac_sh (4 * o + i) (4 * o + c o - 1 - (4 * o + i)) w) zz)), (fun zz => nI ((ac_sh (4 * o + i) (4 * o + c o - 1 - (4 * o + i)) r) zz)), (fun zz => nI ((ac_sh (4 * o + i) (4 * o + c o - 1 - (4 * o + i)) m) zz))) ((fun zz => ac_b (s zz)), (fun zz => nI (f zz)), (fun zz => ac_b (l zz)), mm, (fun zz => nI ((ac_up c o (c o - 1)) zz)), (fun zz => nI ((ac_sh (4 * o + i) (4 * o + c o - 1 - (4 * o + i)) m) zz / 8)), (fun zz => nI ((ac_sh (4 * o + i) (4 * o + c o - 1 - (4 * o + i)) w) zz)), (fun zz => nI ((ac_sh (4 * o + i) (4 * o + c o - 1 - (4 * o + i)) r) zz)), (fun zz => nI ((ac_sh (4 * o + i) (4 * o + c o - 1 - (4 * o + i)) m) zz % 8)), be) :=
            ⟨s, l, f, ac_up c o (c o - 1), ac_sh (4 * o + i) (4 * o + c o - 1 - (4 * o + i)) w, ac_sh (4 * o + i) (4 * o + c o - 1 - (4 * o + i)) r, ac_sh (4 * o + i) (4 * o + c o - 1 - (4 * o + i)) m, _, _, cv, mm, be, rfl, rfl, hs, hl, T, ac_ub hc (by omega), ac_sh_b hw, ac_sh_b hr, ac_sh_b hm, hcv⟩
          have KY := ac_y_dr_l (post := fun r' v' => r' = nI (c o - 1) ∧ i_Rel (k + 5) (ST, CL, (fun zz => nI (f zz)), cv, (fun zz => nI ((ac_up c o (c o - 1)) zz)), (fun zz => nI ((ac_sh (4 * o + i) (4 * o + c o - 1 - (4 * o + i)) w) zz)), (fun zz => nI ((ac_sh (4 * o + i) (4 * o + c o - 1 - (4 * o + i)) r) zz)), (fun zz => nI ((ac_sh (4 * o + i) (4 * o + c o - 1 - (4 * o + i)) m) zz))) v') (s := s) (l := l) (f := f) (w := w) (r := r) (mm := mm) (be := be) (a := 4 * o + i) (E := 4 * o + c o - 1) hm hc ho (by omega) (by omega) ⟨rfl, R⟩ (4 * o + c o - 1 - (4 * o + i)) 0 (4 * o + c o) (by omega) (by omega)
          simp only [ac_sh_0, Nat.add_zero] at KY
          refine br_f z ⟨vo, br_t x2 ⟨vo, nm_r eE (nm_r ea ?_)⟩⟩
          have KX := fun (post : Int32 → SX → Prop) kk => ac_x_dr_l (post := post) (ST := ST) (CL := CL) (f := f) (w := w) (r := r) (m := m) (cv := cv) (a := 4 * o + i) (E := 4 * o + c o - 1) hc ho (by omega) (by omega) kk (4 * o + c o - 1 - (4 * o + i)) 0 (4 * o + c o) (by omega) (by omega)
          simp only [ac_sh_0, Nat.add_zero] at KX
          refine ⟨4 * o + c o, KX _ ?_⟩
          refine ac_yo1 ho ⟨vo, ?_⟩
          rw [so]
          exact br_f ac_10 (br_f z ⟨vo, br_t x2 (nm_r ea ⟨4 * o + c o, KY⟩)⟩)
        · have x2 : ¬ nI i < nI (c o) := nI_nlt (by omega) (by omega)
          refine br_f z ⟨vo, br_f x2 (ac_yo1 ho ⟨vo, ?_⟩)⟩
          rw [so]
          exact br_f ac_10 (br_f z ⟨vo, br_f x2 ⟨rfl, J⟩⟩)
