/-! P: the walks that store -/
theorem ac_b2 : ∀ x, x < 2 → vp_nar .boolean (nI x) = nI x := by
  intro x hx
  rcases (show x = 0 ∨ x = 1 by omega) with e | e
  · subst e; decide
  · subst e; decide
theorem ac_dr (h : Nat → Nat) (M : Nat → Nat) {a t : Nat} (hb : a + t + 1 < 2 ^ 31) : upd (fun j => nI (h (ac_sh a t M j))) (nI (a + t)).toNatClampNeg (nI (h (ac_sh a t M (nI (a + t) + 1).toNatClampNeg))) = fun j => nI (h (ac_sh a (t + 1) M j)) := by
  rw [nI_1, nI_clamp (by omega), nI_clamp hb, ac_sh_n, ← ac_sh_s]
  funext j
  show (if j = a + t then nI (h (M (a + t + 1))) else nI (h (ac_sh a t M j))) = nI (h (if j = a + t then M (a + t + 1) else ac_sh a t M j))
  split <;> rfl
theorem ac_drB (M : Nat → Nat) (hM : ∀ j, M j < 16) {a t : Nat} (hb : a + t + 1 < 2 ^ 31) : upd (fun j => nI (ac_sh a t M j / 8)) (nI (a + t)).toNatClampNeg (vp_nar .boolean (nI (ac_sh a t M (nI (a + t) + 1).toNatClampNeg / 8))) = fun j => nI (ac_sh a (t + 1) M j / 8) := by
  have := ac_sh_b (a := a) (t := t) hM (nI (a + t) + 1).toNatClampNeg
  rw [ac_b2 _ (by omega)]
  exact ac_dr (fun x => x / 8) M hb
section
variable {post : Int32 → SY → Prop} {s l l' : Nat → Bool} {f c w r m : Nat → Nat} {cv mm be : Nat → Int32}
theorem ac_y_rm_l (fr : ∀ o, f o < 16) {o : Nat} (ho : o < 16) : ∀ d i n, i + d = 16 → d < n → (ac_an (fun x => s x && decide (f x = o)) i d = false → post 0 ((fun zz => ac_b ((ac_up s o false) zz)), (fun zz => nI (f zz)), (fun zz => ac_b (l zz)), mm, (fun zz => nI (c zz)), (fun zz => nI (m zz / 8)), (fun zz => nI (w zz)), (fun zz => nI (r zz)), (fun zz => nI (m zz % 8)), be)) → (ac_an (fun x => s x && decide (f x = o)) i d = true → post (-4) ((fun zz => ac_b (s zz)), (fun zz => nI (f zz)), (fun zz => ac_b (l zz)), mm, (fun zz => nI (c zz)), (fun zz => nI (m zz / 8)), (fun zz => nI (w zz)), (fun zz => nI (r zz)), (fun zz => nI (m zz % 8)), be)) → wY_remove_28 post (nI o) (fun zz => ac_b (s zz)) (fun zz => nI (f zz)) (fun zz => ac_b (l zz)) mm (fun zz => nI (c zz)) (fun zz => nI (m zz / 8)) (fun zz => nI (w zz)) (fun zz => nI (r zz)) (fun zz => nI (m zz % 8)) be n (nI i) := by
  intro d
  induction d with
  | zero =>
    intro i n hi hn k0 k1
    obtain ⟨n, rfl⟩ : ∃ n', n = n' + 1 := ⟨n - 1, by omega⟩
    exact br_t (nI_le (a := 16) (by omega) (by omega)) ⟨vp_in_nI ho (by decide), nm_r (ac_uB' s (by omega) false) (k0 rfl)⟩
  | succ d ih =>
    intro i n hi hn k0 k1
    obtain ⟨n, rfl⟩ : ∃ n', n = n' + 1 := ⟨n - 1, by omega⟩
    have next : (s i && decide (f i = o)) = false → wY_remove_28 post (nI o) (fun zz => ac_b (s zz)) (fun zz => nI (f zz)) (fun zz => ac_b (l zz)) mm (fun zz => nI (c zz)) (fun zz => nI (m zz / 8)) (fun zz => nI (w zz)) (fun zz => nI (r zz)) (fun zz => nI (m zz % 8)) be n (nI (i + 1)) := fun z => ih (i + 1) n (by omega) (by omega) (fun h => k0 (by rw [ac_an_s, h]; simp [z])) (fun h => k1 (by rw [ac_an_s, h]; simp))
    refine br_f (nI_ge (b := 16) (by omega) (by decide)) ⟨vp_in_nI (by omega) (by decide), ?_⟩
    cases e : s i
    · exact ac_bs0 (by omega) e (nm_r (nI_1 i) (next (by simp [e])))
    · exact ac_bs1 (by omega) e ⟨vp_in_nI (by omega) (by decide), ac_bn1 (f := f) (by omega) (Nat.lt_trans (fr i) (by decide)) (by omega) (fun z => k1 (by rw [ac_an_s]; simp [e, z])) (fun z => nm_r (nI_1 i) (next (by simp [z])))⟩
theorem ac_y_mv_l (fr : ∀ o, f o < 16) {o q : Nat} (ho : o < 16) (h0 : o ≠ 0) : ∀ d i n x, i + d = 16 → d < n → x < 16 → (ac_ab f o d x = false → wY_move_80 post (nI o) (nI q) (fun zz => ac_b (s zz)) (fun zz => nI (f zz)) (fun zz => ac_b (l zz)) mm (fun zz => nI (c zz)) (fun zz => nI (m zz / 8)) (fun zz => nI (w zz)) (fun zz => nI (r zz)) (fun zz => nI (m zz % 8)) be) → (ac_ab f o d x = true → post (-4) ((fun zz => ac_b (s zz)), (fun zz => nI (f zz)), (fun zz => ac_b (l zz)), mm, (fun zz => nI (c zz)), (fun zz => nI (m zz / 8)), (fun zz => nI (w zz)), (fun zz => nI (r zz)), (fun zz => nI (m zz % 8)), be)) → wY_move_48 post (nI o) (nI q) (fun zz => ac_b (s zz)) (fun zz => nI (f zz)) (fun zz => ac_b (l zz)) mm (fun zz => nI (c zz)) (fun zz => nI (m zz / 8)) (fun zz => nI (w zz)) (fun zz => nI (r zz)) (fun zz => nI (m zz % 8)) be n (nI x) (nI i) := by
  intro d
  induction d with
  | zero =>
    intro i n x hi hn hx k0 k1
    obtain ⟨n, rfl⟩ : ∃ n', n = n' + 1 := ⟨n - 1, by omega⟩
    exact br_t (nI_le (a := 16) (by omega) (by omega)) (k0 rfl)
  | succ d ih =>
    intro i n x hi hn hx k0 k1
    obtain ⟨n, rfl⟩ : ∃ n', n = n' + 1 := ⟨n - 1, by omega⟩
    rw [ac_ab_s] at k0 k1
    refine br_f (nI_ge (b := 16) (by omega) (by decide)) ?_
    by_cases z : x = 0
    · subst z
      rw [if_neg (Ne.symm h0), if_pos rfl] at k0
      exact br_t nI_0 (k0 rfl)
    · refine br_f (nI_ne0 (by omega) (by omega)) ?_
      by_cases e : x = o
      · subst e
        rw [if_pos rfl] at k1
        exact br_t rfl (k1 rfl)
      · rw [if_neg e, if_neg z] at k0 k1
        exact br_f (fun h => e ((nI_eq (by omega) (by omega)).mp h)) ⟨vp_in_nI hx (by decide), nm_r (ac_at f (by omega)) (nm_r (nI_1 i) (ih (i + 1) n (f x) (by omega) (by omega) (fr x) k0 k1))⟩
theorem ac_y_dr_l (hm : ∀ j, m j < 16) (hc : ∀ o, c o < 5) {o a E : Nat} (ho : o < 16) (h1 : 1 ≤ c o) (hE : E + 1 = 4 * o + c o) (k : post (nI (c o - 1)) ((fun zz => ac_b (s zz)), (fun zz => nI (f zz)), (fun zz => ac_b (l zz)), mm, (fun zz => nI ((ac_up c o (c o - 1)) zz)), (fun zz => nI ((ac_sh a (E - a) m) zz / 8)), (fun zz => nI ((ac_sh a (E - a) w) zz)), (fun zz => nI ((ac_sh a (E - a) r) zz)), (fun zz => nI ((ac_sh a (E - a) m) zz % 8)), be)) : ∀ d t n, a + t + d = E → d < n → wY_drop_42 post (nI o) n (nI (a + t)) (fun zz => ac_b (s zz)) (fun zz => nI (f zz)) (fun zz => ac_b (l zz)) mm (fun zz => nI (c zz)) (fun zz => nI ((ac_sh a t m) zz / 8)) (fun zz => nI ((ac_sh a t w) zz)) (fun zz => nI ((ac_sh a t r) zz)) (fun zz => nI ((ac_sh a t m) zz % 8)) be := by
  have hco := hc o
  have e : 4 * nI o + nI (c o) - 1 = nI E := by rw [ac_4, nI_add, ← hE]; exact nI_pred E
  intro d
  induction d with
  | zero =>
    intro t n hi hn
    obtain ⟨n, rfl⟩ : ∃ n', n = n' + 1 := ⟨n - 1, by omega⟩
    have et : E - a = t := by omega
    rw [et] at k
    refine ⟨vp_in_nI ho (by decide), ?_⟩
    simp only [nI_clamp (show o < 2 ^ 31 by omega), e]
    have e3 : upd (fun o => nI (c o)) o (nI (c o) - 1) = fun x => nI (ac_up c o (c o - 1) x) := by rw [show nI (c o) - 1 = nI (c o - 1) from pk_sub (b := 1) h1, ac_uN]
    refine br_t (nI_le (by omega) (by omega)) ⟨vp_in_nI ho (by decide), vp_in_nI ho (by decide), nm_r e3 ⟨vp_in_nI ho (by decide), ?_⟩⟩
    show post (nI (ac_up c o (c o - 1) o)) _
    rw [ac_us]
    exact k
  | succ d ih =>
    intro t n hi hn
    obtain ⟨n, rfl⟩ : ∃ n', n = n' + 1 := ⟨n - 1, by omega⟩
    have K := ih (t + 1) n (by omega) (by omega)
    refine ⟨vp_in_nI ho (by decide), ?_⟩
    have ge : ¬ 4 * nI o + nI (c (nI o).toNatClampNeg) - 1 ≤ nI (a + t) := by
      rw [nI_clamp (by omega), e]; exact nI_ge (by omega) (by omega)
    have i0 : vp_in (nI (a + t)) 64 := vp_in_nI (by omega) (by decide)
    have i1 : vp_in (nI (a + t) + 1) 64 := by rw [nI_1]; exact vp_in_nI (by omega) (by decide)
    exact br_f ge ⟨i1, i0, nm_r (ac_drB m hm (by omega)) ⟨i1, i0, nm_r (ac_dr (fun x => x) w (by omega)) ⟨i1, i0, nm_r (ac_dr (fun x => x) r (by omega)) ⟨i1, i0, nm_r (ac_dr (fun x => x % 8) m (by omega)) (nm_r (nI_1 (a + t)) K)⟩⟩⟩⟩
end
section
variable {post : Int32 → SX → Prop} {f c w r m : Nat → Nat} {ST CL : Int32} {cv : Nat → Int32}
theorem ac_x_dr_l (hc : ∀ o, c o < 5) {o a E : Nat} (ho : o < 16) (h1 : 1 ≤ c o) (hE : E + 1 = 4 * o + c o) (k : post (nI (c o - 1)) (ST, CL, (fun zz => nI (f zz)), cv, (fun zz => nI ((ac_up c o (c o - 1)) zz)), (fun zz => nI ((ac_sh a (E - a) w) zz)), (fun zz => nI ((ac_sh a (E - a) r) zz)), (fun zz => nI ((ac_sh a (E - a) m) zz)))) : ∀ d t n, a + t + d = E → d < n → wX_drop_57 post (nI o) (nI E) ST CL n (nI (a + t)) (fun o => nI (f o)) cv (fun o => nI (c o)) (fun j => nI (ac_sh a t w j)) (fun j => nI (ac_sh a t r j)) (fun j => nI (ac_sh a t m j)) := by
  have hco := hc o
  intro d
  induction d with
  | zero =>
    intro t n hi hn
    obtain ⟨n, rfl⟩ : ∃ n', n = n' + 1 := ⟨n - 1, by omega⟩
    have et : E - a = t := by omega
    rw [et] at k
    refine br_t (nI_le (by omega) (by omega)) ?_
    simp only [nI_clamp (show o < 2 ^ 31 by omega)]
    have e3 : upd (fun o => nI (c o)) o (nI (c o) - 1) = fun x => nI (ac_up c o (c o - 1) x) := by rw [show nI (c o) - 1 = nI (c o - 1) from pk_sub (b := 1) h1, ac_uN]
    refine ⟨vp_in_nI ho (by decide), vp_in_nI ho (by decide), nm_r e3 ⟨vp_in_nI ho (by decide), ?_⟩⟩
    show post (nI (ac_up c o (c o - 1) o)) _
    rw [ac_us]
    exact k
  | succ d ih =>
    intro t n hi hn
    obtain ⟨n, rfl⟩ : ∃ n', n = n' + 1 := ⟨n - 1, by omega⟩
    have K := ih (t + 1) n (by omega) (by omega)
    have i0 : vp_in (nI (a + t)) 64 := vp_in_nI (by omega) (by decide)
    have i1 : vp_in (nI (a + t) + 1) 64 := by rw [nI_1]; exact vp_in_nI (by omega) (by decide)
    exact br_f (nI_ge (by omega) (by omega)) ⟨i1, i0, nm_r (ac_dr (fun x => x) w (by omega)) ⟨i1, i0, nm_r (ac_dr (fun x => x) r (by omega)) ⟨i1, i0, nm_r (ac_dr (fun x => x) m (by omega)) (nm_r (nI_1 (a + t)) K)⟩⟩⟩
end
/-! stir, Y: the rights before, the flag turned, the rights compared, the flag turned back -/
section
variable {post : Int32 → SY → Prop} {s l : Nat → Bool} {f c w r m : Nat → Nat} {cv mm be : Nat → Int32}
def ac_rv (s : Nat → Bool) (f c w r m : Nat → Nat) (cv : Nat → Int32) (l : Nat → Bool) (p x : Nat) : Int32 := if s x then ac_set (fun b => ac_al f c w r m cv l p b 17 x) 4 else -3
theorem ac_60 : ¬ (6 : Int32) = 0 := by decide
theorem ac_y_s2_l (hm : ∀ j, m j < 16) (hw : ∀ j, w j < 8) (hc : ∀ o, c o < 5) (fr : ∀ o, f o < 16) (hcv : ac_C cv mm) {o : Nat} (ho : o < 16) (k : post (nI (ac_cn (fun j => !decide (be j = ac_rv s f c w r m cv l (j % 6) (j / 6))) 96)) ((fun zz => ac_b (s zz)), (fun zz => nI (f zz)), (fun zz => ac_b ((ac_up l o (!l o)) zz)), mm, (fun zz => nI (c zz)), (fun zz => nI (m zz / 8)), (fun zz => nI (w zz)), (fun zz => nI (r zz)), (fun zz => nI (m zz % 8)), be)) : ∀ d i n, i + d = 96 → d < n → wY_stir_78 post (nI o) (fun zz => ac_b (s zz)) (fun zz => nI (f zz)) (fun zz => ac_b (l zz)) mm (fun zz => nI (c zz)) (fun zz => nI (m zz / 8)) (fun zz => nI (w zz)) (fun zz => nI (r zz)) (fun zz => nI (m zz % 8)) be n (nI (ac_cn (fun j => !decide (be j = ac_rv s f c w r m cv l (j % 6) (j / 6))) i)) (nI i) := by
  intro d
  induction d with
  | zero =>
    intro i n hi hn
    obtain ⟨n, rfl⟩ : ∃ n', n = n' + 1 := ⟨n - 1, by omega⟩
    have e : i = 96 := by omega
    subst e
    refine br_t (nI_le (a := 96) (by omega) (by omega)) ⟨vp_in_nI ho (by decide), ?_⟩
    cases e : l o
    · rw [e] at k
      exact ac_bs0 (by omega) e ⟨vp_in_nI ho (by decide), nm_r (ac_uB' l (by omega) true) k⟩
    · rw [e] at k
      exact ac_bs1 (by omega) e ⟨vp_in_nI ho (by decide), nm_r (ac_uB' l (by omega) false) k⟩
  | succ d ih =>
    intro i n hi hn
    obtain ⟨n, rfl⟩ : ∃ n', n = n' + 1 := ⟨n - 1, by omega⟩
    have K := ih (i + 1) n (by omega) (by omega)
    have e1 : nI i - nI i / 6 * 6 = nI (i % 6) := pk_rem (d := 6) (by omega) (by omega) (by decide)
    have e2 : nI i / 6 = nI (i / 6) := pk_div (d := 6) (by omega) (by omega) (by decide)
    refine br_f (nI_ge (b := 96) (by omega) (by decide)) ⟨vp_in_nI (by omega) (by decide), ac_60, ac_60, ?_⟩
    rw [e1, e2, nI_clamp (show i < 2 ^ 31 by omega)]
    refine ac_y_rs hm hw hc fr hcv (by omega) (by omega) ?_
    by_cases z : be i = ac_rv s f c w r m cv l (i % 6) (i / 6)
    · rw [ac_cn_f (by simp [z])] at K
      exact br_t z (nm_r (nI_1 i) K)
    · rw [ac_cn_t (by simp [z])] at K
      exact br_f z (nm_r (nI_1 _) (nm_r (nI_1 i) K))
theorem ac_y_s1_l (hm : ∀ j, m j < 16) (hw : ∀ j, w j < 8) (hc : ∀ o, c o < 5) (fr : ∀ o, f o < 16) (hcv : ac_C cv mm) {o : Nat} (ho : o < 16) (k : ∀ be : Nat → Int32, (∀ j, j < 96 → be j = ac_rv s f c w r m cv l (j % 6) (j / 6)) → ∃ n, wY_stir_78 post (nI o) (fun zz => ac_b (s zz)) (fun zz => nI (f zz)) (fun zz => ac_b ((ac_up l o (!l o)) zz)) mm (fun zz => nI (c zz)) (fun zz => nI (m zz / 8)) (fun zz => nI (w zz)) (fun zz => nI (r zz)) (fun zz => nI (m zz % 8)) be n 0 0) : ∀ d i n (be : Nat → Int32), i + d = 96 → d < n → (∀ j, j < i → be j = ac_rv s f c w r m cv l (j % 6) (j / 6)) → wY_stir_24 post (nI o) n (nI i) (fun zz => ac_b (s zz)) (fun zz => nI (f zz)) (fun zz => ac_b (l zz)) mm (fun zz => nI (c zz)) (fun zz => nI (m zz / 8)) (fun zz => nI (w zz)) (fun zz => nI (r zz)) (fun zz => nI (m zz % 8)) be := by
  intro d
  induction d with
  | zero =>
    intro i n be hi hn hb
    obtain ⟨n, rfl⟩ : ∃ n', n = n' + 1 := ⟨n - 1, by omega⟩
    have K := k be (fun j hj => hb j (by omega))
    refine br_t (nI_le (a := 96) (by omega) (by omega)) ⟨vp_in_nI ho (by decide), ?_⟩
    cases e : l o
    · rw [e] at K
      exact ac_bs0 (by omega) e ⟨vp_in_nI ho (by decide), nm_r (ac_uB' l (by omega) true) K⟩
    · rw [e] at K
      exact ac_bs1 (by omega) e ⟨vp_in_nI ho (by decide), nm_r (ac_uB' l (by omega) false) K⟩
  | succ d ih =>
    intro i n be hi hn hb
    obtain ⟨n, rfl⟩ : ∃ n', n = n' + 1 := ⟨n - 1, by omega⟩
    have e1 : nI i - nI i / 6 * 6 = nI (i % 6) := pk_rem (d := 6) (by omega) (by omega) (by decide)
    have e2 : nI i / 6 = nI (i / 6) := pk_div (d := 6) (by omega) (by omega) (by decide)
    refine br_f (nI_ge (b := 96) (by omega) (by decide)) ⟨ac_60, ac_60, ?_⟩
    rw [e1, e2, nI_clamp (show i < 2 ^ 31 by omega)]
    refine ac_y_rs hm hw hc fr hcv (by omega) (by omega) ⟨vp_in_nI (by omega) (by decide), nm_e (nm_r (nI_1 i) (ih (i + 1) n _ (by omega) (by omega) ?_))⟩
    intro j hj
    by_cases z : j = i
    · subst z; exact pk_us
    · rw [pk_un z]; exact hb j (by omega)
end
