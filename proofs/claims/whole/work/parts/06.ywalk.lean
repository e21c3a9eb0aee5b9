/-! O: Y's walks -/
def ac_li (m t : Nat) : Bool := if t = 0 then m / 2 % 2 == 0 else (m % 2 == 1 && (t == 1 || m / 4 % 2 == 0))
theorem ac_kd : ∀ k : Bool, ∀ m, m < 16 → (m / 8 == (if k then 1 else 0)) = decide (nI (m / 8) = ac_b k) := by decide +kernel
theorem ac_ls_e {m : Nat} (hm : m < 16) (t : Nat) (k : Bool) : ac_ls m t k = (decide (nI (m / 8) = ac_b k) && ac_li m t) := by
  rw [← ac_kd k m hm]; rfl
theorem ac_f2 : ∀ m, m < 16 → (nI (m % 8) &&& 2 = 0 ↔ (m / 2 % 2 == 0) = true) := by decide +kernel
theorem ac_f1 : ∀ m, m < 16 → (nI (m % 8) &&& 1 = 1 ↔ (m % 2 == 1) = true) := by decide +kernel
theorem ac_f4 : ∀ m, m < 16 → (nI (m % 8) &&& 4 = 0 ↔ (m / 4 % 2 == 0) = true) := by decide +kernel
def ac_C (cv mm : Nat → Int32) : Prop := cv 6 = mm 0 ∧ cv 7 = mm 1 ∧ ∀ w, w < 6 → ∀ p, p < 6 → bt (cv w) p = decide (w = p)
theorem ac_01 : ¬ (0 : Int32) = 1 := by decide
theorem ac_uB' (s : Nat → Bool) {o : Nat} (h : o < 2 ^ 31) (b : Bool) : upd (fun o => ac_b (s o)) (nI o).toNatClampNeg (vp_nar .boolean (ac_b b)) = fun x => ac_b (ac_up s o b x) := by
  rw [nI_clamp h, ac_bv, ac_uB]
theorem ac_uN' (f : Nat → Nat) {o : Nat} (h : o < 2 ^ 31) (v : Nat) : upd (fun o => nI (f o)) (nI o).toNatClampNeg (nI v) = fun x => nI (ac_up f o v x) := by
  rw [nI_clamp h, ac_uN]
section
variable {post : Int32 → Prop} {s l l' : Nat → Bool} {f c w r m : Nat → Nat} {cv mm be : Nat → Int32}
theorem ac_y_co (hcv : ac_C cv mm) {q p : Nat} (hq : q < 8) (hp : p < 6) (k : post (ac_b (bt (cv q) p))) : wpY_covers post ((fun zz => ac_b (s zz)), (fun zz => nI (f zz)), (fun zz => ac_b (l zz)), mm, (fun zz => nI (c zz)), (fun zz => nI (m zz / 8)), (fun zz => nI (w zz)), (fun zz => nI (r zz)), (fun zz => nI (m zz % 8)), be) (nI q) (nI p) := by
  unfold wpY_covers
  dsimp only
  by_cases h : 6 ≤ q
  · have e : nI q - 6 = nI (q - 6) := pk_sub (b := 6) h
    have key : mm (q - 6) = cv q := by
      rcases (show q = 6 ∨ q = 7 by omega) with z | z
      · subst z; exact hcv.1.symm
      · subst z; exact hcv.2.1.symm
    rw [e, nI_clamp (by omega), key, ac_bit _ (by omega)]
    refine br_t (nI_le (a := 6) h (by omega)) ⟨vp_in_nI (by omega) (by decide), ?_⟩
    cases z : bt (cv q) p
    · rw [z] at k; exact br_f ac_01 k
    · rw [z] at k; exact br_t rfl k
  · refine br_f (nI_ge (b := 6) (by omega) (by decide)) ?_
    rw [hcv.2.2 q (by omega) p hp] at k
    rw [nI_eq (by omega) (by omega)]
    by_cases z : q = p
    · rw [decide_eq_true z] at k; exact br_t z k
    · rw [decide_eq_false z] at k; exact br_f z k
theorem ac_y_li (hm : ∀ j, m j < 16) {i t : Nat} (hi : i < 64) (ht : t < 2 ^ 31) (k : post (ac_b (ac_li (m i) t))) : wpY_isListed post ((fun zz => ac_b (s zz)), (fun zz => nI (f zz)), (fun zz => ac_b (l zz)), mm, (fun zz => nI (c zz)), (fun zz => nI (m zz / 8)), (fun zz => nI (w zz)), (fun zz => nI (r zz)), (fun zz => nI (m zz % 8)), be) (nI i) (nI t) := by
  unfold wpY_isListed
  dsimp only
  rw [nI_clamp (by omega), ac_f2 _ (hm i), ac_f1 _ (hm i), ac_f4 _ (hm i)]
  unfold ac_li at k
  by_cases t0 : t = 0
  · subst t0
    rw [if_pos rfl] at k
    refine br_t nI_0 ⟨vp_in_nI hi (by decide), ?_⟩
    cases z : (m i / 2 % 2 == 0)
    · rw [z] at k; exact br_f (by decide) k
    · rw [z] at k; exact br_t rfl k
  · rw [if_neg t0] at k
    refine br_f (nI_ne0 (by omega) ht) ⟨vp_in_nI hi (by decide), ?_⟩
    cases z : (m i % 2 == 1)
    · rw [z] at k; exact br_f (by decide) k
    · rw [z, Bool.true_and] at k
      refine br_t rfl ?_
      by_cases t1 : t = 1
      · subst t1; exact br_t rfl k
      · have e1 : (t == 1) = false := by simp [t1]
        rw [e1, Bool.false_or] at k
        refine br_f (fun h => t1 ((nI_eq ht (by omega)).mp h)) ⟨vp_in_nI hi (by decide), ?_⟩
        cases z2 : (m i / 4 % 2 == 0)
        · rw [z2] at k; exact br_f (by decide) k
        · rw [z2] at k; exact br_t rfl k
theorem ac_y_se_l (hm : ∀ j, m j < 16) (hw : ∀ j, w j < 8) (hc : ∀ o, c o < 5) (hcv : ac_C cv mm) {x t p b : Nat} (hx : x < 16) (ht : t < 2 ^ 31) (hp : p < 6) (hb : b < 32) (k : Bool) : ∀ d i n, i + d = 4 * x + c x → d < n → post (ac_b (ac_an (fun j => (ac_ls (m j) t k && ac_co w cv p j) && bt (nI (r j)) b) i d)) → wY_someEntry_5 post (nI x) (nI t) (nI p) (nI b) (ac_b k) (fun zz => ac_b (s zz)) (fun zz => nI (f zz)) (fun zz => ac_b (l zz)) mm (fun zz => nI (c zz)) (fun zz => nI (m zz / 8)) (fun zz => nI (w zz)) (fun zz => nI (r zz)) (fun zz => nI (m zz % 8)) be n (nI i) := by
  have hcx := hc x
  have e : 4 * nI x + nI (c x) = nI (4 * x + c x) := by rw [ac_4, nI_add]
  intro d
  induction d with
  | zero =>
    intro i n hi hn kk
    obtain ⟨n, rfl⟩ : ∃ n', n = n' + 1 := ⟨n - 1, by omega⟩
    refine ⟨vp_in_nI hx (by decide), ?_⟩
    simp only [nI_clamp (show x < 2 ^ 31 by omega), e]
    exact br_t (nI_le (by omega) (by omega)) kk
  | succ d ih =>
    intro i n hi hn kk
    obtain ⟨n, rfl⟩ : ∃ n', n = n' + 1 := ⟨n - 1, by omega⟩
    have hwi := hw i
    have next : ((ac_ls (m i) t k && ac_co w cv p i) && bt (nI (r i)) b) = false → wY_someEntry_5 post (nI x) (nI t) (nI p) (nI b) (ac_b k) (fun zz => ac_b (s zz)) (fun zz => nI (f zz)) (fun zz => ac_b (l zz)) mm (fun zz => nI (c zz)) (fun zz => nI (m zz / 8)) (fun zz => nI (w zz)) (fun zz => nI (r zz)) (fun zz => nI (m zz % 8)) be n (nI (i + 1)) := fun z => ih (i + 1) n (by omega) (by omega) (ac_an_k0 kk z)
    have stop : ((ac_ls (m i) t k && ac_co w cv p i) && bt (nI (r i)) b) = true → post 1 := fun z => ac_an_k1 kk z
    rw [ac_ls_e (hm i)] at next stop
    refine ⟨vp_in_nI hx (by decide), ?_⟩
    simp only [nI_clamp (show x < 2 ^ 31 by omega), nI_clamp (show i < 2 ^ 31 by omega), e]
    refine br_f (nI_ge (by omega) (by omega)) ⟨vp_in_nI (by omega) (by decide), ?_⟩
    by_cases e1 : nI (m i / 8) = ac_b k
    · refine br_t e1 (ac_y_li hm (by omega) ht ?_)
      cases e2 : ac_li (m i) t
      · exact br_t rfl (nm_r (nI_1 i) (next (by simp [e2])))
      · refine br_f ac_10 ⟨vp_in_nI (by omega) (by decide), ac_y_co hcv hwi hp ?_⟩
        cases e3 : bt (cv (w i)) p
        · exact br_t rfl (nm_r (nI_1 i) (next (by simp [ac_co, e3])))
        · refine br_f ac_10 ⟨vp_in_nI (by omega) (by decide), ?_⟩
          rw [ac_bit _ hb]
          cases e4 : bt (nI (r i)) b
          · exact br_f ac_01 (nm_r (nI_1 i) (next (by simp [e4])))
          · exact br_t rfl (stop (by simp [e1, e2, e3, e4, ac_co]))
    · exact br_f e1 (nm_r (nI_1 i) (next (by simp [e1])))
theorem ac_y_se (hm : ∀ j, m j < 16) (hw : ∀ j, w j < 8) (hc : ∀ o, c o < 5) (hcv : ac_C cv mm) {x t p b : Nat} (hx : x < 16) (ht : t < 2 ^ 31) (hp : p < 6) (hb : b < 32) (k : Bool) (kk : post (ac_b (ac_se c w r m cv p b t k x))) : wpY_someEntry post ((fun zz => ac_b (s zz)), (fun zz => nI (f zz)), (fun zz => ac_b (l zz)), mm, (fun zz => nI (c zz)), (fun zz => nI (m zz / 8)), (fun zz => nI (w zz)), (fun zz => nI (r zz)), (fun zz => nI (m zz % 8)), be) (nI x) (nI t) (nI p) (nI b) (ac_b k) :=
  nm_r (ac_4 x) ⟨c x + 1, ac_y_se_l hm hw hc hcv hx ht hp hb k (c x) (4 * x) (c x + 1) rfl (by omega) kk⟩
theorem ac_y_al_l (hm : ∀ j, m j < 16) (hw : ∀ j, w j < 8) (hc : ∀ o, c o < 5) (fr : ∀ o, f o < 16) (hcv : ac_C cv mm) {p b : Nat} (hp : p < 6) (hb : b < 32) : ∀ d t n x, t + d = 17 → d < n → x < 16 → post (ac_b (ac_yw (fun s x => ac_se c w r m cv p b s false x) (fun s x => ac_se c w r m cv p b s true x) (ac_sp l) f d t x)) → wY_allowed_6 post (nI p) (nI b) (fun zz => ac_b (s zz)) (fun zz => nI (f zz)) (fun zz => ac_b (l zz)) mm (fun zz => nI (c zz)) (fun zz => nI (m zz / 8)) (fun zz => nI (w zz)) (fun zz => nI (r zz)) (fun zz => nI (m zz % 8)) be n (nI x) (nI t) := by
  intro d
  induction d with
  | zero =>
    intro t n x hi hn hx k
    obtain ⟨n, rfl⟩ : ∃ n', n = n' + 1 := ⟨n - 1, by omega⟩
    exact br_t (nI_le (a := 17) (by omega) (by omega)) k
  | succ d ih =>
    intro t n x hi hn hx k
    obtain ⟨n, rfl⟩ : ∃ n', n = n' + 1 := ⟨n - 1, by omega⟩
    rw [ac_yw_s] at k
    refine br_f (nI_ge (b := 17) (by omega) (by decide)) (ac_y_se hm hw hc hcv hx (by omega) hp hb false ?_)
    cases e1 : ac_se c w r m cv p b t false x
    · rw [if_neg (by rw [e1]; decide)] at k
      refine br_t rfl (ac_y_se hm hw hc hcv hx (by omega) hp hb true ?_)
      cases e2 : ac_se c w r m cv p b t true x
      · rw [if_neg (by rw [e2]; decide)] at k
        refine br_t rfl ?_
        by_cases z : x = 0
        · subst z
          rw [if_pos (show ac_sp l 0 = true from rfl)] at k
          exact br_t nI_0 k
        · refine br_f (nI_ne0 (by omega) (by omega)) ⟨vp_in_nI hx (by decide), ?_⟩
          cases e3 : l x
          · rw [if_neg (by simp [ac_sp, z, e3])] at k
            exact ac_bs0 (by omega) e3 ⟨vp_in_nI hx (by decide), nm_r (ac_at f (by omega)) (nm_r (nI_1 t) (ih (t + 1) n (f x) (by omega) (by omega) (fr x) k))⟩
          · rw [if_pos (by simp [ac_sp, e3])] at k
            exact ac_bs1 (by omega) e3 k
      · rw [if_pos e2] at k
        exact br_f ac_10 k
    · rw [if_pos e1] at k
      exact br_f ac_10 k
theorem ac_y_al (hm : ∀ j, m j < 16) (hw : ∀ j, w j < 8) (hc : ∀ o, c o < 5) (fr : ∀ o, f o < 16) (hcv : ac_C cv mm) {x p b : Nat} (hx : x < 16) (hp : p < 6) (hb : b < 32) (k : post (ac_b (ac_al f c w r m cv l p b 17 x))) : wpY_allowed post ((fun zz => ac_b (s zz)), (fun zz => nI (f zz)), (fun zz => ac_b (l zz)), mm, (fun zz => nI (c zz)), (fun zz => nI (m zz / 8)), (fun zz => nI (w zz)), (fun zz => nI (r zz)), (fun zz => nI (m zz % 8)), be) (nI x) (nI p) (nI b) :=
  ⟨18, ac_y_al_l hm hw hc fr hcv hp hb 17 0 18 x rfl (by omega) hx k⟩
theorem ac_y_rs_l (hm : ∀ j, m j < 16) (hw : ∀ j, w j < 8) (hc : ∀ o, c o < 5) (fr : ∀ o, f o < 16) (hcv : ac_C cv mm) {x p : Nat} (hx : x < 16) (hp : p < 6) (k : post (ac_set (fun b => ac_al f c w r m cv l p b 17 x) 4)) : ∀ d i n, i + d = 4 → d < n → wY_rights_35 post (nI x) (nI p) (fun zz => ac_b (s zz)) (fun zz => nI (f zz)) (fun zz => ac_b (l zz)) mm (fun zz => nI (c zz)) (fun zz => nI (m zz / 8)) (fun zz => nI (w zz)) (fun zz => nI (r zz)) (fun zz => nI (m zz % 8)) be n (ac_set (fun b => ac_al f c w r m cv l p b 17 x) i) (nI i) := by
  intro d
  induction d with
  | zero =>
    intro i n hi hn
    obtain ⟨n, rfl⟩ : ∃ n', n = n' + 1 := ⟨n - 1, by omega⟩
    have e : i = 4 := by omega
    subst e
    exact br_t (nI_le (a := 4) (by omega) (by omega)) k
  | succ d ih =>
    intro i n hi hn
    obtain ⟨n, rfl⟩ : ∃ n', n = n' + 1 := ⟨n - 1, by omega⟩
    have K := ih (i + 1) n (by omega) (by omega)
    rw [ac_set_s] at K
    refine br_f (nI_ge (b := 4) (by omega) (by decide)) (ac_y_al hm hw hc fr hcv hx hp (by omega) ?_)
    cases e : ac_al f c w r m cv l p i 17 x
    · rw [if_neg (by rw [e]; decide)] at K
      exact br_t rfl (nm_r (nI_1 i) K)
    · rw [if_pos e] at K
      exact br_f ac_10 (nm_e (nm_r (nI_1 i) K))
theorem ac_y_rs (hm : ∀ j, m j < 16) (hw : ∀ j, w j < 8) (hc : ∀ o, c o < 5) (fr : ∀ o, f o < 16) (hcv : ac_C cv mm) {x p : Nat} (hx : x < 16) (hp : p < 6) (k : post (if s x then ac_set (fun b => ac_al f c w r m cv l p b 17 x) 4 else -3)) : wpY_rights post ((fun zz => ac_b (s zz)), (fun zz => nI (f zz)), (fun zz => ac_b (l zz)), mm, (fun zz => nI (c zz)), (fun zz => nI (m zz / 8)), (fun zz => nI (w zz)), (fun zz => nI (r zz)), (fun zz => nI (m zz % 8)), be) (nI x) (nI p) := by
  unfold wpY_rights
  dsimp only
  refine ac_yo1 hx (ac_yp1 hp ⟨vp_in_nI hx (by decide), ?_⟩)
  cases e : s x
  · rw [if_neg (by rw [e]; decide)] at k
    exact ac_bs0 (by omega) e k
  · rw [if_pos e] at k
    exact ac_bs1 (by omega) e ⟨5, ac_y_rs_l hm hw hc fr hcv hx hp k 4 0 5 rfl (by omega)⟩
theorem ac_y_who_l (hm : ∀ j, m j < 16) (hw : ∀ j, w j < 8) (hc : ∀ o, c o < 5) (fr : ∀ o, f o < 16) (hcv : ac_C cv mm) {x b : Nat} (hx : x < 16) (hb : b < 32) (k : post (ac_set (fun p => ac_al f c w r m cv l p b 17 x) 6)) : ∀ d i n, i + d = 6 → d < n → wY_who_35 post (nI x) (nI b) (fun zz => ac_b (s zz)) (fun zz => nI (f zz)) (fun zz => ac_b (l zz)) mm (fun zz => nI (c zz)) (fun zz => nI (m zz / 8)) (fun zz => nI (w zz)) (fun zz => nI (r zz)) (fun zz => nI (m zz % 8)) be n (ac_set (fun p => ac_al f c w r m cv l p b 17 x) i) (nI i) := by
  intro d
  induction d with
  | zero =>
    intro i n hi hn
    obtain ⟨n, rfl⟩ : ∃ n', n = n' + 1 := ⟨n - 1, by omega⟩
    have e : i = 6 := by omega
    subst e
    exact br_t (nI_le (a := 6) (by omega) (by omega)) k
  | succ d ih =>
    intro i n hi hn
    obtain ⟨n, rfl⟩ : ∃ n', n = n' + 1 := ⟨n - 1, by omega⟩
    have K := ih (i + 1) n (by omega) (by omega)
    rw [ac_set_s] at K
    refine br_f (nI_ge (b := 6) (by omega) (by decide)) (ac_y_al hm hw hc fr hcv hx (by omega) hb ?_)
    cases e : ac_al f c w r m cv l i b 17 x
    · rw [if_neg (by rw [e]; decide)] at K
      exact br_t rfl (nm_r (nI_1 i) K)
    · rw [if_pos e] at K
      exact br_f ac_10 (nm_e (nm_r (nI_1 i) K))
theorem ac_y_cnt_l (hm : ∀ j, m j < 16) (hw : ∀ j, w j < 8) (hc : ∀ o, c o < 5) (fr : ∀ o, f o < 16) (hcv : ac_C cv mm) {p b : Nat} (hp : p < 6) (hb : b < 32) (k : post (nI (ac_cn (fun o => s o && ac_al f c w r m cv l p b 17 o) 16))) : ∀ d i n, i + d = 16 → d < n → wY_count_23 post (nI p) (nI b) (fun zz => ac_b (s zz)) (fun zz => nI (f zz)) (fun zz => ac_b (l zz)) mm (fun zz => nI (c zz)) (fun zz => nI (m zz / 8)) (fun zz => nI (w zz)) (fun zz => nI (r zz)) (fun zz => nI (m zz % 8)) be n (nI (ac_cn (fun o => s o && ac_al f c w r m cv l p b 17 o) i)) (nI i) := by
  intro d
  induction d with
  | zero =>
    intro i n hi hn
    obtain ⟨n, rfl⟩ : ∃ n', n = n' + 1 := ⟨n - 1, by omega⟩
    have e : i = 16 := by omega
    subst e
    exact br_t (nI_le (a := 16) (by omega) (by omega)) k
  | succ d ih =>
    intro i n hi hn
    obtain ⟨n, rfl⟩ : ∃ n', n = n' + 1 := ⟨n - 1, by omega⟩
    have K := ih (i + 1) n (by omega) (by omega)
    refine br_f (nI_ge (b := 16) (by omega) (by decide)) ⟨vp_in_nI (by omega) (by decide), ?_⟩
    cases e : s i
    · rw [ac_cn_f (by simp [e])] at K
      exact ac_bs0 (by omega) e (nm_r (nI_1 i) K)
    · refine ac_bs1 (by omega) e (ac_y_al hm hw hc fr hcv (by omega) hp hb ?_)
      cases e2 : ac_al f c w r m cv l p b 17 i
      · rw [ac_cn_f (by simp [e2])] at K
        exact br_t rfl (nm_r (nI_1 i) K)
      · rw [ac_cn_t (by simp [e, e2])] at K
        exact br_f ac_10 (nm_r (nI_1 _) (nm_r (nI_1 i) K))
theorem ac_y_go0 (hm : ∀ j, m j < 16) (hw : ∀ j, w j < 8) (hc : ∀ o, c o < 5) (fr : ∀ o, f o < 16) (hcv : ac_C cv mm) {p : Nat} (hp : p < 6) (k : post (ac_b (ac_al f c w r m cv l p 0 17 0))) : wY_canGo_41 post (nI p) (fun zz => ac_b (s zz)) (fun zz => nI (f zz)) (fun zz => ac_b (l zz)) mm (fun zz => nI (c zz)) (fun zz => nI (m zz / 8)) (fun zz => nI (w zz)) (fun zz => nI (r zz)) (fun zz => nI (m zz % 8)) be := by
  unfold wY_canGo_41
  exact ac_y_al (x := 0) (b := 0) hm hw hc fr hcv (by omega) hp (by omega) ⟨ac_bn _, k⟩
theorem ac_y_go_l (hm : ∀ j, m j < 16) (hw : ∀ j, w j < 8) (hc : ∀ o, c o < 5) (fr : ∀ o, f o < 16) (hcv : ac_C cv mm) {p : Nat} (hp : p < 6) : ∀ d i n x, i + d = 16 → d < n → x < 16 → post (ac_b (ac_gy (fun x => ac_al f c w r m cv l p 0 17 x) f d x)) → wY_canGo_5 post (nI p) (fun zz => ac_b (s zz)) (fun zz => nI (f zz)) (fun zz => ac_b (l zz)) mm (fun zz => nI (c zz)) (fun zz => nI (m zz / 8)) (fun zz => nI (w zz)) (fun zz => nI (r zz)) (fun zz => nI (m zz % 8)) be n (nI x) (nI i) := by
  intro d
  induction d with
  | zero =>
    intro i n x hi hn hx k
    obtain ⟨n, rfl⟩ : ∃ n', n = n' + 1 := ⟨n - 1, by omega⟩
    exact br_t (nI_le (a := 16) (by omega) (by omega)) (ac_y_go0 hm hw hc fr hcv hp k)
  | succ d ih =>
    intro i n x hi hn hx k
    obtain ⟨n, rfl⟩ : ∃ n', n = n' + 1 := ⟨n - 1, by omega⟩
    rw [ac_gy_s] at k
    refine br_f (nI_ge (b := 16) (by omega) (by decide)) ?_
    by_cases z : x = 0
    · subst z
      rw [if_pos rfl] at k
      exact br_t nI_0 (ac_y_go0 hm hw hc fr hcv hp k)
    · rw [if_neg z] at k
      refine br_f (nI_ne0 (by omega) (by omega)) (ac_y_al (b := 0) hm hw hc fr hcv hx hp (by omega) ?_)
      cases e : ac_al f c w r m cv l p 0 17 x
      · rw [if_neg (by rw [e]; decide)] at k
        exact br_t rfl k
      · rw [if_pos e] at k
        exact br_f ac_10 ⟨vp_in_nI hx (by decide), nm_r (ac_at f (by omega)) (nm_r (nI_1 i) (ih (i + 1) n (f x) (by omega) (by omega) (fr x) k))⟩
theorem ac_y_go (hm : ∀ j, m j < 16) (hw : ∀ j, w j < 8) (hc : ∀ o, c o < 5) (fr : ∀ o, f o < 16) (hcv : ac_C cv mm) {x p : Nat} (hx : x < 16) (hp : p < 6) (k : post (ac_b (ac_gy (fun x => ac_al f c w r m cv l p 0 17 x) f 16 x))) : wpY_canGo post ((fun zz => ac_b (s zz)), (fun zz => nI (f zz)), (fun zz => ac_b (l zz)), mm, (fun zz => nI (c zz)), (fun zz => nI (m zz / 8)), (fun zz => nI (w zz)), (fun zz => nI (r zz)), (fun zz => nI (m zz % 8)), be) (nI x) (nI p) :=
  ⟨17, ac_y_go_l hm hw hc fr hcv hp 16 0 17 x rfl (by omega) hx k⟩
theorem ac_y_rea_l (hm : ∀ j, m j < 16) (hw : ∀ j, w j < 8) (hc : ∀ o, c o < 5) (fr : ∀ o, f o < 16) (hcv : ac_C cv mm) {p : Nat} (hp : p < 6) (k : post (nI (ac_cn (fun o => s o && ac_gy (fun x => ac_al f c w r m cv l p 0 17 x) f 16 o) 16))) : ∀ d i n, i + d = 16 → d < n → wY_reach_14 post (nI p) (fun zz => ac_b (s zz)) (fun zz => nI (f zz)) (fun zz => ac_b (l zz)) mm (fun zz => nI (c zz)) (fun zz => nI (m zz / 8)) (fun zz => nI (w zz)) (fun zz => nI (r zz)) (fun zz => nI (m zz % 8)) be n (nI (ac_cn (fun o => s o && ac_gy (fun x => ac_al f c w r m cv l p 0 17 x) f 16 o) i)) (nI i) := by
  intro d
  induction d with
  | zero =>
    intro i n hi hn
    obtain ⟨n, rfl⟩ : ∃ n', n = n' + 1 := ⟨n - 1, by omega⟩
    have e : i = 16 := by omega
    subst e
    exact br_t (nI_le (a := 16) (by omega) (by omega)) k
  | succ d ih =>
    intro i n hi hn
    obtain ⟨n, rfl⟩ : ∃ n', n = n' + 1 := ⟨n - 1, by omega⟩
    have K := ih (i + 1) n (by omega) (by omega)
    refine br_f (nI_ge (b := 16) (by omega) (by decide)) ⟨vp_in_nI (by omega) (by decide), ?_⟩
    cases e : s i
    · rw [ac_cn_f (by simp [e])] at K
      exact ac_bs0 (by omega) e (nm_r (nI_1 i) K)
    · refine ac_bs1 (by omega) e (ac_y_go hm hw hc fr hcv (by omega) hp ?_)
      cases e2 : ac_gy (fun x => ac_al f c w r m cv l p 0 17 x) f 16 i
      · rw [ac_cn_f (by simp [e2])] at K
        exact br_t rfl (nm_r (nI_1 i) K)
      · rw [ac_cn_t (by simp [e, e2])] at K
        exact br_f ac_10 (nm_r (nI_1 _) (nm_r (nI_1 i) K))
end
