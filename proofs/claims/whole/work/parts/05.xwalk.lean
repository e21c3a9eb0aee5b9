/-! N: X's walks -/
theorem ac_an_k0 {post : Int32 → Prop} {q : Nat → Bool} {i d : Nat} (k : post (ac_b (ac_an q i (d + 1)))) (z : q i = false) : post (ac_b (ac_an q (i + 1) d)) := by
  rw [ac_an_s, z, Bool.false_or] at k; exact k
theorem ac_an_k1 {post : Int32 → Prop} {q : Nat → Bool} {i d : Nat} (k : post (ac_b (ac_an q i (d + 1)))) (z : q i = true) : post 1 := by
  rw [ac_an_s, z, Bool.true_or] at k; exact k
theorem ac_fo_k0 {post : Int32 → Prop} {q : Nat → Bool} {r : Nat → Nat} {i d : Nat} {v : Int32} (k : post (ac_fo q r i (d + 1) v)) (z : q i = false) : post (ac_fo q r (i + 1) d v) := by
  have e : ac_fo q r i (d + 1) v = ac_fo q r (i + 1) d (if q i then v ||| nI (r i) else v) := rfl
  rw [e, z] at k; exact k
theorem ac_fo_k1 {post : Int32 → Prop} {q : Nat → Bool} {r : Nat → Nat} {i d : Nat} {v : Int32} (k : post (ac_fo q r i (d + 1) v)) (z : q i = true) : post (ac_fo q r (i + 1) d (v ||| nI (r i))) := by
  have e : ac_fo q r i (d + 1) v = ac_fo q r (i + 1) d (if q i then v ||| nI (r i) else v) := rfl
  rw [e, z] at k; exact k
theorem ac_at (f : Nat → Nat) {n : Nat} (h : n < 2 ^ 31) : nI (f (nI n).toNatClampNeg) = nI (f n) := by rw [nI_clamp h]
theorem ac_it_z {f : Nat → Nat} (f0 : f 0 = 0) : ∀ n, ac_it f n 0 = 0 := by
  intro n
  induction n with
  | zero => rfl
  | succ n ih => show ac_it f n (f 0) = 0; rw [f0]; exact ih
def ac_ab (f : Nat → Nat) (t : Nat) : Nat → Nat → Bool
  | 0, _ => false
  | n + 1, x => if x = t then true else if x = 0 then false else ac_ab f t n (f x)
theorem ac_ab_s {f : Nat → Nat} {t n x : Nat} : ac_ab f t (n + 1) x = if x = t then true else if x = 0 then false else ac_ab f t n (f x) := rfl
theorem ac_ab_f {f : Nat → Nat} {t : Nat} (h0 : t ≠ 0) (f0 : f 0 = 0) : ∀ n x, ac_ab f t n x = false → ∀ i, i < n → ac_it f i x ≠ t := by
  intro n
  induction n with
  | zero => intro x _ i hi; omega
  | succ n ih =>
    intro x h i hi
    rw [ac_ab_s] at h
    by_cases e : x = t
    · rw [if_pos e] at h; cases h
    · rw [if_neg e] at h
      cases i with
      | zero => exact e
      | succ i =>
        show ac_it f i (f x) ≠ t
        by_cases z : x = 0
        · subst z; rw [f0, ac_it_z f0]; exact Ne.symm h0
        · rw [if_neg z] at h
          exact ih (f x) h i (by omega)
section
variable {post : Int32 → Prop} {s l l' : Nat → Bool} {f c w r m : Nat → Nat} {ST CL CS : Int32} {cv : Nat → Int32}
theorem ac_x_pa_l (hs : ∀ o, o < 16 → bt ST o = s o) (fr : ∀ o, f o < 16) {o : Nat} (ho : o < 16) : ∀ d i n, i + d = 16 → d < n → post (ac_b (ac_an (fun x => s x && decide (f x = o)) i d)) → wX_isParent_2 post (nI o) ST CL (fun zz => nI (f zz)) cv (fun zz => nI (c zz)) (fun zz => nI (w zz)) (fun zz => nI (r zz)) (fun zz => nI (m zz)) n (nI i) := by
  intro d
  induction d with
  | zero =>
    intro i n hi hn k
    obtain ⟨n, rfl⟩ : ∃ n', n = n' + 1 := ⟨n - 1, by omega⟩
    exact br_t (nI_le (a := 16) (by omega) (by omega)) k
  | succ d ih =>
    intro i n hi hn k
    obtain ⟨n, rfl⟩ : ∃ n', n = n' + 1 := ⟨n - 1, by omega⟩
    refine br_f (nI_ge (b := 16) (by omega) (by decide)) (ac_xh (by omega) ?_)
    rw [hs i (by omega)]
    cases e : s i
    · exact br_t rfl (nm_r (nI_1 i) (ih (i + 1) n (by omega) (by omega) (ac_an_k0 k (by simp [e]))))
    · exact br_f ac_10 ⟨vp_in_nI (by omega) (by decide), ac_bn1 (f := f) (by omega) (Nat.lt_trans (fr i) (by decide)) (by omega) (fun z => ac_an_k1 k (by simp [e, z])) (fun z => nm_r (nI_1 i) (ih (i + 1) n (by omega) (by omega) (ac_an_k0 k (by simp [z]))))⟩
theorem ac_x_pa (hs : ∀ o, o < 16 → bt ST o = s o) (fr : ∀ o, f o < 16) {o : Nat} (ho : o < 16) (k : post (ac_b (ac_an (fun x => s x && decide (f x = o)) 1 15))) : wpX_isParent post (ST, CL, (fun zz => nI (f zz)), cv, (fun zz => nI (c zz)), (fun zz => nI (w zz)), (fun zz => nI (r zz)), (fun zz => nI (m zz))) (nI o) :=
  ⟨16, ac_x_pa_l hs fr ho 15 1 16 rfl (by omega) k⟩
theorem ac_x_ab_l (fr : ∀ o, f o < 16) {t : Nat} (ht : t < 16) : ∀ d i n x, i + d = 16 → d < n → x < 16 → post (ac_b (ac_ab f t d x)) → wX_isAtOrBelow_5 post (nI t) ST CL (fun zz => nI (f zz)) cv (fun zz => nI (c zz)) (fun zz => nI (w zz)) (fun zz => nI (r zz)) (fun zz => nI (m zz)) n (nI x) (nI i) := by
  intro d
  induction d with
  | zero =>
    intro i n x hi hn hx k
    obtain ⟨n, rfl⟩ : ∃ n', n = n' + 1 := ⟨n - 1, by omega⟩
    exact br_t (nI_le (a := 16) (by omega) (by omega)) k
  | succ d ih =>
    intro i n x hi hn hx k
    obtain ⟨n, rfl⟩ : ∃ n', n = n' + 1 := ⟨n - 1, by omega⟩
    refine br_f (nI_ge (b := 16) (by omega) (by decide)) ?_
    rw [ac_ab_s] at k
    by_cases e : x = t
    · subst e
      rw [if_pos rfl] at k
      exact br_t rfl k
    · rw [if_neg e] at k
      refine br_f (fun h => e ((nI_eq (by omega) (by omega)).mp h)) ?_
      by_cases z : x = 0
      · subst z
        rw [if_pos rfl] at k
        exact br_t nI_0 k
      · rw [if_neg z] at k
        exact br_f (nI_ne0 (by omega) (by omega)) ⟨vp_in_nI hx (by decide), nm_r (ac_at f (by omega)) (nm_r (nI_1 i) (ih (i + 1) n (f x) (by omega) (by omega) (fr x) k))⟩
theorem ac_x_ab (fr : ∀ o, f o < 16) {t x : Nat} (ht : t < 16) (hx : x < 16) (k : post (ac_b (ac_ab f t 16 x))) : wpX_isAtOrBelow post (ST, CL, (fun zz => nI (f zz)), cv, (fun zz => nI (c zz)), (fun zz => nI (w zz)), (fun zz => nI (r zz)), (fun zz => nI (m zz))) (nI x) (nI t) :=
  ⟨17, ac_x_ab_l fr ht 16 0 17 x rfl (by omega) hx k⟩
theorem ac_x_rn_l (hw : ∀ j, w j < 8) {p E : Nat} (hp : p < 32) (hE : E ≤ 64) {mask wanted : Int32} : ∀ d i n v, i + d = E → d < n → post (ac_fo (fun j => decide (nI (m j) &&& mask = wanted) && ac_co w cv p j) r i d v) → wX_rightsNamed_20 post (nI p) mask wanted (nI E) ST CL (fun zz => nI (f zz)) cv (fun zz => nI (c zz)) (fun zz => nI (w zz)) (fun zz => nI (r zz)) (fun zz => nI (m zz)) n v (nI i) := by
  intro d
  induction d with
  | zero =>
    intro i n v hi hn k
    obtain ⟨n, rfl⟩ : ∃ n', n = n' + 1 := ⟨n - 1, by omega⟩
    exact br_t (nI_le (by omega) (by omega)) k
  | succ d ih =>
    intro i n v hi hn k
    obtain ⟨n, rfl⟩ : ∃ n', n = n' + 1 := ⟨n - 1, by omega⟩
    have hwi := hw i
    refine br_f (nI_ge (by omega) (by omega)) ⟨vp_in_nI (by omega) (by decide), ?_⟩
    simp only [nI_clamp (show i < 2 ^ 31 by omega), nI_clamp (show w i < 2 ^ 31 by omega)]
    by_cases e : nI (m i) &&& mask = wanted
    · refine br_t e ⟨vp_in_nI (by omega) (by decide), vp_in_nI hwi (by decide), ac_xh hp ?_⟩
      cases h : bt (cv (w i)) p
      · exact br_t rfl (nm_r (nI_1 i) (ih (i + 1) n v (by omega) (by omega) (ac_fo_k0 k (by simp [ac_co, h]))))
      · exact br_f ac_10 ⟨vp_in_nI (by omega) (by decide), nm_e (nm_r (nI_1 i) (ih (i + 1) n (v ||| nI (r i)) (by omega) (by omega) (ac_fo_k1 k (by simp [ac_co, h, e]))))⟩
    · exact br_f e (nm_r (nI_1 i) (ih (i + 1) n v (by omega) (by omega) (ac_fo_k0 k (by simp [e]))))
theorem ac_x_rn (hc : ∀ o, c o < 5) (hw : ∀ j, w j < 8) {o p : Nat} (ho : o < 16) (hp : p < 32) {mask wanted : Int32} (k : post (ac_rn c w r m cv p mask wanted o)) : wpX_rightsNamed post (ST, CL, (fun zz => nI (f zz)), cv, (fun zz => nI (c zz)), (fun zz => nI (w zz)), (fun zz => nI (r zz)), (fun zz => nI (m zz))) (nI o) (nI p) mask wanted := by
  have hco := hc o
  have e : 4 * nI o + nI (c (nI o).toNatClampNeg) = nI (4 * o + c o) := by rw [nI_clamp (by omega), ac_4, nI_add]
  exact ⟨vp_in_nI ho (by decide), nm_r e (nm_r (ac_4 o) ⟨c o + 1, ac_x_rn_l hw hp (by omega) (c o) (4 * o) (c o + 1) 0 rfl (by omega) k⟩)⟩
theorem ac_x_rc_l (hc : ∀ o, c o < 5) (hw : ∀ j, w j < 8) (fr : ∀ o, f o < 16) {p : Nat} (hp : p < 32) (hl : ∀ o, o < 16 → bt CS o = l o) : ∀ d t n x al de, t + d = 16 → d < n → x < 16 → post (ac_xw (fun s x => ac_rn c w r m cv p (ac_mk s ||| 8) (ac_wn s) x) (fun s x => ac_rn c w r m cv p (ac_mk s ||| 8) (ac_wn s ||| 8) x) (ac_sp l) f d t x al de) → wX_rightsIfClosed_18 post (nI p) CS ST CL (fun zz => nI (f zz)) cv (fun zz => nI (c zz)) (fun zz => nI (w zz)) (fun zz => nI (r zz)) (fun zz => nI (m zz)) n al de (nI x) (ac_mk t) (ac_wn t) (nI t) := by
  intro d
  induction d with
  | zero =>
    intro t n x al de hi hn hx k
    obtain ⟨n, rfl⟩ : ∃ n', n = n' + 1 := ⟨n - 1, by omega⟩
    exact br_t (nI_le (a := 16) (by omega) (by omega)) k
  | succ d ih =>
    intro t n x al de hi hn hx k
    obtain ⟨n, rfl⟩ : ∃ n', n = n' + 1 := ⟨n - 1, by omega⟩
    rw [ac_xw_s] at k
    refine br_f (nI_ge (b := 16) (by omega) (by decide)) (ac_x_rn hc hw hx hp (ac_x_rn hc hw hx hp (nm_e (nm_e ?_))))
    by_cases z : x = 0
    · subst z
      rw [if_pos (show ac_sp l 0 = true from rfl)] at k
      exact br_t nI_0 k
    · refine br_f (nI_ne0 (by omega) (by omega)) (ac_xh (by omega) ?_)
      rw [hl x hx]
      cases e : l x
      · rw [if_neg (by simp [ac_sp, z, e])] at k
        have K := ih (t + 1) n (f x) _ _ (by omega) (by omega) (fr x) k
        refine br_t rfl ⟨vp_in_nI hx (by decide), nm_r (ac_at f (by omega)) ?_⟩
        by_cases t0 : t = 0
        · subst t0
          exact br_t nI_0 (nm_r (nI_1 0) K)
        · have e1 : ac_mk (t + 1) = 5 := by unfold ac_mk; rw [if_neg (by omega), if_neg (by omega)]
          have e2 : ac_wn (t + 1) = 1 := by unfold ac_wn; rw [if_neg (by omega)]
          rw [e1, e2] at K
          exact br_f (nI_ne0 (by omega) (by omega)) (nm_r (nI_1 t) K)
      · rw [if_pos (by simp [ac_sp, e])] at k
        exact br_f ac_10 k
theorem ac_x_rc (hc : ∀ o, c o < 5) (hw : ∀ j, w j < 8) (fr : ∀ o, f o < 16) (hl : ∀ o, o < 16 → bt CS o = l o) {o p : Nat} (ho : o < 16) (hp : p < 32) (k : post (ac_rs f c w r m cv l p o)) : wpX_rightsIfClosed post (ST, CL, (fun zz => nI (f zz)), cv, (fun zz => nI (c zz)), (fun zz => nI (w zz)), (fun zz => nI (r zz)), (fun zz => nI (m zz))) (nI o) (nI p) CS :=
  ⟨17, ac_x_rc_l hc hw fr hp hl 16 0 17 o 0 0 rfl (by omega) ho k⟩
theorem ac_x_al (hm : ∀ j, m j < 16) (hc : ∀ o, c o < 5) (hw : ∀ j, w j < 8) (fr : ∀ o, f o < 16) (hl : ∀ o, o < 16 → bt CL o = l o) {o p b : Nat} (ho : o < 16) (hp : p < 32) (hb : b < 32) (k : post (ac_b (ac_al f c w r m cv l p b 16 o))) : wpX_isAllowed post (ST, CL, (fun zz => nI (f zz)), cv, (fun zz => nI (c zz)), (fun zz => nI (w zz)), (fun zz => nI (r zz)), (fun zz => nI (m zz))) (nI o) (nI p) (nI b) := by
  unfold wpX_isAllowed
  refine ac_x_rc hc hw fr hl ho hp (ac_xh hb ?_)
  rw [ac_rs_b hm l p o hb]
  exact ⟨ac_bn _, k⟩
theorem ac_x_who_l (hm : ∀ j, m j < 16) (hc : ∀ o, c o < 5) (hw : ∀ j, w j < 8) (fr : ∀ o, f o < 16) (hl : ∀ o, o < 16 → bt CL o = l o) {o b : Nat} (ho : o < 16) (hb : b < 32) (k : post (ac_set (fun p => ac_al f c w r m cv l p b 16 o) 6)) : ∀ d i n, i + d = 6 → d < n → wX_who_35 post (nI o) (nI b) ST CL (fun zz => nI (f zz)) cv (fun zz => nI (c zz)) (fun zz => nI (w zz)) (fun zz => nI (r zz)) (fun zz => nI (m zz)) n (ac_set (fun p => ac_al f c w r m cv l p b 16 o) i) (nI i) := by
  intro d
  induction d with
  | zero =>
    intro i n hi hn
    obtain ⟨n, rfl⟩ : ∃ n', n = n' + 1 := ⟨n - 1, by omega⟩
    have e : i = 6 := by omega
    subst e
    exact br_t (nI_le (a := 6) (by omega) (by omega)) k
  | succ d ih =>
    intro i n hi hn
    obtain ⟨n, rfl⟩ : ∃ n', n = n' + 1 := ⟨n - 1, by omega⟩
    have K := ih (i + 1) n (by omega) (by omega)
    rw [ac_set_s] at K
    refine br_f (nI_ge (b := 6) (by omega) (by decide)) (ac_x_al hm hc hw fr hl ho (by omega) hb ?_)
    cases e : ac_al f c w r m cv l i b 16 o
    · rw [if_neg (by rw [e]; decide)] at K
      exact br_t rfl (nm_r (nI_1 i) K)
    · rw [if_pos e] at K
      exact br_f ac_10 (ac_xw1 (nm_r (nI_1 i) K))
theorem ac_x_cnt_l (hs : ∀ o, o < 16 → bt ST o = s o) (hm : ∀ j, m j < 16) (hc : ∀ o, c o < 5) (hw : ∀ j, w j < 8) (fr : ∀ o, f o < 16) (hl : ∀ o, o < 16 → bt CL o = l o) {p b : Nat} (hp : p < 32) (hb : b < 32) (k : post (nI (ac_cn (fun o => s o && ac_al f c w r m cv l p b 16 o) 16))) : ∀ d i n, i + d = 16 → d < n → wX_count_21 post (nI p) (nI b) ST CL (fun zz => nI (f zz)) cv (fun zz => nI (c zz)) (fun zz => nI (w zz)) (fun zz => nI (r zz)) (fun zz => nI (m zz)) n (nI (ac_cn (fun o => s o && ac_al f c w r m cv l p b 16 o) i)) (nI i) := by
  intro d
  induction d with
  | zero =>
    intro i n hi hn
    obtain ⟨n, rfl⟩ : ∃ n', n = n' + 1 := ⟨n - 1, by omega⟩
    have e : i = 16 := by omega
    subst e
    exact br_t (nI_le (a := 16) (by omega) (by omega)) k
  | succ d ih =>
    intro i n hi hn
    obtain ⟨n, rfl⟩ : ∃ n', n = n' + 1 := ⟨n - 1, by omega⟩
    have K := ih (i + 1) n (by omega) (by omega)
    refine br_f (nI_ge (b := 16) (by omega) (by decide)) (ac_xh (by omega) ?_)
    rw [hs i (by omega)]
    cases e : s i
    · rw [ac_cn_f (by simp [e])] at K
      exact br_t rfl (nm_r (nI_1 i) K)
    · refine br_f ac_10 (ac_x_al hm hc hw fr hl (by omega) hp hb ?_)
      cases e2 : ac_al f c w r m cv l p b 16 i
      · rw [ac_cn_f (by simp [e2])] at K
        exact br_t rfl (nm_r (nI_1 i) K)
      · rw [ac_cn_t (by simp [e, e2])] at K
        exact br_f ac_10 (nm_r (nI_1 _) (nm_r (nI_1 i) K))
theorem ac_x_go_l (hm : ∀ j, m j < 16) (hc : ∀ o, c o < 5) (hw : ∀ j, w j < 8) (fr : ∀ o, f o < 16) (hl : ∀ o, o < 16 → bt CL o = l o) {p : Nat} (hp : p < 32) : ∀ d i n x, i + d = 16 → d < n → x < 16 → post (ac_b (ac_gx (fun x => ac_al f c w r m cv l p 0 16 x) f d x)) → wX_canGoTo_5 post (nI p) ST CL (fun zz => nI (f zz)) cv (fun zz => nI (c zz)) (fun zz => nI (w zz)) (fun zz => nI (r zz)) (fun zz => nI (m zz)) n (nI x) (nI i) := by
  intro d
  induction d with
  | zero =>
    intro i n x hi hn hx k
    obtain ⟨n, rfl⟩ : ∃ n', n = n' + 1 := ⟨n - 1, by omega⟩
    exact br_t (nI_le (a := 16) (by omega) (by omega)) k
  | succ d ih =>
    intro i n x hi hn hx k
    obtain ⟨n, rfl⟩ : ∃ n', n = n' + 1 := ⟨n - 1, by omega⟩
    rw [ac_gx_s] at k
    refine br_f (nI_ge (b := 16) (by omega) (by decide)) (ac_x_al (b := 0) hm hc hw fr hl hx hp (by omega) ?_)
    cases e : ac_al f c w r m cv l p 0 16 x
    · rw [if_neg (by rw [e]; decide)] at k
      exact br_t rfl k
    · rw [if_pos e] at k
      refine br_f ac_10 ?_
      by_cases z : x = 0
      · subst z
        rw [if_pos rfl] at k
        exact br_t nI_0 k
      · rw [if_neg z] at k
        exact br_f (nI_ne0 (by omega) (by omega)) ⟨vp_in_nI hx (by decide), nm_r (ac_at f (by omega)) (nm_r (nI_1 i) (ih (i + 1) n (f x) (by omega) (by omega) (fr x) k))⟩
theorem ac_x_go (hm : ∀ j, m j < 16) (hc : ∀ o, c o < 5) (hw : ∀ j, w j < 8) (fr : ∀ o, f o < 16) (hl : ∀ o, o < 16 → bt CL o = l o) {x p : Nat} (hx : x < 16) (hp : p < 32) (k : post (ac_b (ac_gx (fun x => ac_al f c w r m cv l p 0 16 x) f 16 x))) : wpX_canGoTo post (ST, CL, (fun zz => nI (f zz)), cv, (fun zz => nI (c zz)), (fun zz => nI (w zz)), (fun zz => nI (r zz)), (fun zz => nI (m zz))) (nI x) (nI p) :=
  ⟨17, ac_x_go_l hm hc hw fr hl hp 16 0 17 x rfl (by omega) hx k⟩
theorem ac_x_rea_l (hs : ∀ o, o < 16 → bt ST o = s o) (hm : ∀ j, m j < 16) (hc : ∀ o, c o < 5) (hw : ∀ j, w j < 8) (fr : ∀ o, f o < 16) (hl : ∀ o, o < 16 → bt CL o = l o) {p : Nat} (hp : p < 32) (k : post (nI (ac_cn (fun o => s o && ac_gx (fun x => ac_al f c w r m cv l p 0 16 x) f 16 o) 16))) : ∀ d i n, i + d = 16 → d < n → wX_reach_13 post (nI p) ST CL (fun zz => nI (f zz)) cv (fun zz => nI (c zz)) (fun zz => nI (w zz)) (fun zz => nI (r zz)) (fun zz => nI (m zz)) n (nI (ac_cn (fun o => s o && ac_gx (fun x => ac_al f c w r m cv l p 0 16 x) f 16 o) i)) (nI i) := by
  intro d
  induction d with
  | zero =>
    intro i n hi hn
    obtain ⟨n, rfl⟩ : ∃ n', n = n' + 1 := ⟨n - 1, by omega⟩
    have e : i = 16 := by omega
    subst e
    exact br_t (nI_le (a := 16) (by omega) (by omega)) k
  | succ d ih =>
    intro i n hi hn
    obtain ⟨n, rfl⟩ : ∃ n', n = n' + 1 := ⟨n - 1, by omega⟩
    have K := ih (i + 1) n (by omega) (by omega)
    refine br_f (nI_ge (b := 16) (by omega) (by decide)) (ac_xh (by omega) ?_)
    rw [hs i (by omega)]
    cases e : s i
    · rw [ac_cn_f (by simp [e])] at K
      exact br_t rfl (nm_r (nI_1 i) K)
    · refine br_f ac_10 (ac_x_go hm hc hw fr hl (by omega) hp ?_)
      cases e2 : ac_gx (fun x => ac_al f c w r m cv l p 0 16 x) f 16 i
      · rw [ac_cn_f (by simp [e2])] at K
        exact br_t rfl (nm_r (nI_1 i) K)
      · rw [ac_cn_t (by simp [e, e2])] at K
        exact br_f ac_10 (nm_r (nI_1 _) (nm_r (nI_1 i) K))
theorem ac_x_ps_l (hc : ∀ o, c o < 5) (hw : ∀ j, w j < 8) (fr : ∀ o, f o < 16) (hl : ∀ o, o < 16 → bt CL o = l o) (hl' : ∀ o, o < 16 → bt CS o = l' o) {o : Nat} (ho : o < 16) (k : post (nI (ac_cn (fun p => !decide (ac_rs f c w r m cv l p o = ac_rs f c w r m cv l' p o)) 6))) : ∀ d i n, i + d = 6 → d < n → wX_personsStirred_5 post (nI o) CS ST CL (fun zz => nI (f zz)) cv (fun zz => nI (c zz)) (fun zz => nI (w zz)) (fun zz => nI (r zz)) (fun zz => nI (m zz)) n (nI (ac_cn (fun p => !decide (ac_rs f c w r m cv l p o = ac_rs f c w r m cv l' p o)) i)) (nI i) := by
  intro d
  induction d with
  | zero =>
    intro i n hi hn
    obtain ⟨n, rfl⟩ : ∃ n', n = n' + 1 := ⟨n - 1, by omega⟩
    have e : i = 6 := by omega
    subst e
    exact br_t (nI_le (a := 6) (by omega) (by omega)) k
  | succ d ih =>
    intro i n hi hn
    obtain ⟨n, rfl⟩ : ∃ n', n = n' + 1 := ⟨n - 1, by omega⟩
    have K := ih (i + 1) n (by omega) (by omega)
    refine br_f (nI_ge (b := 6) (by omega) (by decide)) (ac_x_rc hc hw fr hl ho (by omega) (ac_x_rc hc hw fr hl' ho (by omega) ?_))
    by_cases e : ac_rs f c w r m cv l i o = ac_rs f c w r m cv l' i o
    · rw [ac_cn_f (by simp [e])] at K
      exact br_t e (nm_r (nI_1 i) K)
    · rw [ac_cn_t (by simp [e])] at K
      exact br_f e (nm_r (nI_1 _) (nm_r (nI_1 i) K))
theorem ac_x_ps (hc : ∀ o, c o < 5) (hw : ∀ j, w j < 8) (fr : ∀ o, f o < 16) (hl : ∀ o, o < 16 → bt CL o = l o) (hl' : ∀ o, o < 16 → bt CS o = l' o) {o : Nat} (ho : o < 16) (k : post (nI (ac_cn (fun p => !decide (ac_rs f c w r m cv l p o = ac_rs f c w r m cv l' p o)) 6))) : wpX_personsStirred post (ST, CL, (fun zz => nI (f zz)), cv, (fun zz => nI (c zz)), (fun zz => nI (w zz)), (fun zz => nI (r zz)), (fun zz => nI (m zz))) (nI o) CS :=
  ⟨7, ac_x_ps_l hc hw fr hl hl' ho k 6 0 7 rfl (by omega)⟩
theorem ac_x_st_l (hs : ∀ o, o < 16 → bt ST o = s o) (hc : ∀ o, c o < 5) (hw : ∀ j, w j < 8) (fr : ∀ o, f o < 16) (hl : ∀ o, o < 16 → bt CL o = l o) (hl' : ∀ o, o < 16 → bt CS o = l' o) (k : post (nI (ac_sm (fun o => if s o then ac_cn (fun p => !decide (ac_rs f c w r m cv l p o = ac_rs f c w r m cv l' p o)) 6 else 0) 16))) : ∀ d i n, i + d = 16 → d < n → wX_stir_37 post CS ST CL (fun zz => nI (f zz)) cv (fun zz => nI (c zz)) (fun zz => nI (w zz)) (fun zz => nI (r zz)) (fun zz => nI (m zz)) n (nI (ac_sm (fun o => if s o then ac_cn (fun p => !decide (ac_rs f c w r m cv l p o = ac_rs f c w r m cv l' p o)) 6 else 0) i)) (nI i) := by
  intro d
  induction d with
  | zero =>
    intro i n hi hn
    obtain ⟨n, rfl⟩ : ∃ n', n = n' + 1 := ⟨n - 1, by omega⟩
    have e : i = 16 := by omega
    subst e
    exact br_t (nI_le (a := 16) (by omega) (by omega)) k
  | succ d ih =>
    intro i n hi hn
    obtain ⟨n, rfl⟩ : ∃ n', n = n' + 1 := ⟨n - 1, by omega⟩
    have K := ih (i + 1) n (by omega) (by omega)
    have E : ∀ g : Nat → Nat, ac_sm g (i + 1) = ac_sm g i + g i := fun _ => rfl
    rw [E] at K
    refine br_f (nI_ge (b := 16) (by omega) (by decide)) (ac_xh (by omega) ?_)
    rw [hs i (by omega)]
    cases e : s i
    · simp only [e, Bool.false_eq_true, if_false, Nat.add_zero] at K
      exact br_t rfl (nm_r (nI_1 i) K)
    · simp only [e, if_true] at K
      exact br_f ac_10 (ac_x_ps hc hw fr hl hl' (by omega) (nm_r (nI_add _ _) (nm_r (nI_1 i) K)))
end
