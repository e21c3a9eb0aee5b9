/-! A: bits as answers -/
def ac_b (b : Bool) : Int32 := if b then 1 else 0
theorem ac_bt : ac_b true = 1 := rfl
theorem ac_bf : ac_b false = 0 := rfl
theorem ac_b0 (b : Bool) : ac_b b = 0 ↔ b = false := by cases b <;> decide
theorem ac_b1 (b : Bool) : ac_b b = 1 ↔ b = true := by cases b <;> decide
theorem ac_bn (b : Bool) : narrow .boolean (.int (ac_b b)) = .int (ac_b b) := by cases b <;> rfl
theorem ac_bv (b : Bool) : vp_nar .boolean (ac_b b) = ac_b b := by cases b <;> decide
theorem ac_1bt (i : Nat) : bt 1 i = decide (i = 0) := by
  rcases Nat.lt_or_ge i 32 with h | h
  · exact (by decide +kernel : ∀ i, i < 32 → bt 1 i = decide (i = 0)) i h
  · rw [b_big h, decide_eq_false (by omega)]
theorem ac_bit (x : Int32) {n : Nat} (hn : n < 32) : (x >>> (nI n &&& 31)) &&& 1 = ac_b (bt x n) := by
  apply b_ext
  intro i hi
  rw [b_and, b_sshr n hn x hi, ac_1bt]
  by_cases h : i = 0
  · subst h
    rw [Nat.add_zero, if_pos hn]
    cases bt x n <;> decide
  · rw [decide_eq_false h, Bool.and_false]
    cases bt x n
    · exact (b_0 i).symm
    · rw [ac_bt, ac_1bt, decide_eq_false h]
theorem ac_one {n i : Nat} (hn : n < 32) (hi : i < 32) : bt ((1 : Int32) <<< (nI n &&& 31)) i = decide (i = n) := by
  rw [b_shl n hn 1 hi, ac_1bt]
  by_cases h : i = n
  · subst h
    rw [Nat.sub_self, decide_eq_true (Nat.le_refl i), decide_eq_true rfl, decide_eq_true rfl]; rfl
  · rw [decide_eq_false h]
    by_cases h2 : n ≤ i
    · rw [decide_eq_false (show ¬ i - n = 0 by omega), Bool.and_false]
    · rw [decide_eq_false h2, Bool.false_and]
theorem ac_on (x : Int32) {n i : Nat} (hn : n < 32) (hi : i < 32) : bt (x ||| ((1 : Int32) <<< (nI n &&& 31))) i = (bt x i || decide (i = n)) := by
  rw [b_or, ac_one hn hi]
theorem ac_off (x : Int32) {n i : Nat} (hn : n < 32) (hi : i < 32) : bt (x &&& (((1 : Int32) <<< (nI n &&& 31)) ^^^ (-1))) i = (bt x i && !decide (i = n)) := by
  rw [b_and, b_xor, ac_one hn hi, b_m1 i hi, Bool.xor_true]
theorem ac_not (x y : Int32) {i : Nat} (hi : i < 32) : bt (x &&& (y ^^^ (-1))) i = (bt x i && !bt y i) := by
  rw [b_and, b_xor, b_m1 i hi, Bool.xor_true]
theorem ac_16 : ∀ a, a < 16 → ∀ i, i < 32 → 4 ≤ i → bt (nI a) i = false := by decide +kernel

/-! B: stores of naturals -/
def ac_up {α : Type} (f : Nat → α) (k : Nat) (v : α) : Nat → α := fun o => if o = k then v else f o
theorem ac_us {α : Type} {f : Nat → α} {k : Nat} {v : α} : ac_up f k v k = v := if_pos rfl
theorem ac_un {α : Type} {f : Nat → α} {k j : Nat} {v : α} (h : j ≠ k) : ac_up f k v j = f j := if_neg h
theorem ac_uN (f : Nat → Nat) (k v : Nat) : upd (fun o => nI (f o)) k (nI v) = fun o => nI (ac_up f k v o) := by
  funext j
  show (if j = k then nI v else nI (f j)) = nI (if j = k then v else f j)
  split <;> rfl
theorem ac_uB (f : Nat → Bool) (k : Nat) (v : Bool) : upd (fun o => ac_b (f o)) k (ac_b v) = fun o => ac_b (ac_up f k v o) := by
  funext j
  show (if j = k then ac_b v else ac_b (f j)) = ac_b (if j = k then v else f j)
  split <;> rfl
theorem ac_ub {f : Nat → Nat} {k v N : Nat} (h : ∀ o, f o < N) (hv : v < N) : ∀ o, ac_up f k v o < N := by
  intro o
  by_cases e : o = k
  · subst e; rw [ac_us]; exact hv
  · rw [ac_un e]; exact h o
theorem ac_uu {α : Type} (f : Nat → α) (k : Nat) (v : α) : ac_up (ac_up f k v) k (f k) = f := by
  funext j
  by_cases e : j = k
  · subst e; rw [ac_us]
  · rw [ac_un e, ac_un e]

/-! C: n steps up, and how many can be needed -/
def ac_it (f : Nat → Nat) : Nat → Nat → Nat
  | 0, x => x
  | n + 1, x => ac_it f n (f x)
theorem ac_it_n (f : Nat → Nat) (n x : Nat) : ac_it f (n + 1) x = ac_it f n (f x) := rfl
theorem ac_it_s (f : Nat → Nat) : ∀ n x, ac_it f (n + 1) x = f (ac_it f n x) := by
  intro n
  induction n with
  | zero => intro x; rfl
  | succ n ih => intro x; exact ih (f x)
def ac_cn (q : Nat → Bool) : Nat → Nat
  | 0 => 0
  | n + 1 => ac_cn q n + (if q n then 1 else 0)
theorem ac_cn_s (q : Nat → Bool) (n : Nat) : ac_cn q (n + 1) = ac_cn q n + (if q n then 1 else 0) := rfl
theorem ac_cn_t {q : Nat → Bool} {n : Nat} (h : q n = true) : ac_cn q (n + 1) = ac_cn q n + 1 := by rw [ac_cn_s, h]; rfl
theorem ac_cn_f {q : Nat → Bool} {n : Nat} (h : q n = false) : ac_cn q (n + 1) = ac_cn q n := by rw [ac_cn_s, h]; rfl
theorem ac_cn_le (q : Nat → Bool) : ∀ n, ac_cn q n ≤ n := by
  intro n
  induction n with
  | zero => exact Nat.le_refl 0
  | succ n ih =>
    cases h : q n
    · rw [ac_cn_f h]; omega
    · rw [ac_cn_t h]; omega
theorem ac_cn_full (q : Nat → Bool) : ∀ n, n ≤ ac_cn q n → ∀ i, i < n → q i = true := by
  intro n
  induction n with
  | zero => intro _ i hi; omega
  | succ n ih =>
    intro h i hi
    have := ac_cn_le q n
    cases e : q n
    · rw [ac_cn_f e] at h; omega
    · rw [ac_cn_t e] at h
      rcases Nat.lt_or_ge i n with g | g
      · exact ih (by omega) i g
      · rw [show i = n by omega]; exact e
theorem ac_cn_mono {q q' : Nat → Bool} : ∀ n, (∀ i, i < n → q i = true → q' i = true) → ac_cn q n ≤ ac_cn q' n := by
  intro n
  induction n with
  | zero => intro _; exact Nat.le_refl 0
  | succ n ih =>
    intro h
    have := ih (fun i hi => h i (by omega))
    cases e : q n
    · rw [ac_cn_f e]
      cases e' : q' n
      · rw [ac_cn_f e']; exact this
      · rw [ac_cn_t e']; omega
    · rw [ac_cn_t e, ac_cn_t (h n (by omega) e)]; omega
theorem ac_cn_lt {q q' : Nat → Bool} {x : Nat} (hq : q x = false) (hq' : q' x = true) : ∀ n, x < n → (∀ i, i < n → q i = true → q' i = true) → ac_cn q n < ac_cn q' n := by
  intro n
  induction n with
  | zero => intro hx; omega
  | succ n ih =>
    intro hx h
    rcases Nat.lt_or_ge x n with g | g
    · have := ih g (fun i hi => h i (by omega))
      cases e : q n
      · rw [ac_cn_f e]
        cases e' : q' n
        · rw [ac_cn_f e']; exact this
        · rw [ac_cn_t e']; omega
      · rw [ac_cn_t e, ac_cn_t (h n (by omega) e)]; omega
    · have ex : x = n := by omega
      subst ex
      have := ac_cn_mono (q := q) (q' := q') x (fun i hi => h i (by omega))
      rw [ac_cn_f hq, ac_cn_t hq']; omega
theorem ac_cn_e {q q' : Nat → Bool} : ∀ n, (∀ i, i < n → q i = q' i) → ac_cn q n = ac_cn q' n := by
  intro n
  induction n with
  | zero => intro _; rfl
  | succ n ih => intro h; rw [ac_cn_s, ac_cn_s, ih (fun i hi => h i (by omega)), h n (by omega)]
section
variable {f : Nat → Nat}
theorem ac_it_0 (f0 : f 0 = 0) {x n : Nat} (h : ac_it f n x = 0) : ac_it f (n + 1) x = 0 := by rw [ac_it_s, h, f0]
theorem ac_it_m (f0 : f 0 = 0) {x n : Nat} (h : ac_it f n x = 0) : ∀ m, ac_it f (n + m) x = 0 := by
  intro m
  induction m with
  | zero => exact h
  | succ m ih => exact ac_it_0 f0 ih
theorem ac_st_up (fr : ∀ x, f x < 16) {n : Nat} (S : ∀ x, x < 16 → ac_it f (n + 1) x = 0 → ac_it f n x = 0) : ∀ m x, x < 16 → ac_it f (n + m) x = 0 → ac_it f n x = 0 := by
  intro m
  induction m with
  | zero => intro x _ h; exact h
  | succ m ih =>
    intro x hx h
    exact S x hx (ih (f x) (fr x) h)
theorem ac_grow (f0 : f 0 = 0) (fr : ∀ x, f x < 16) : ∀ n, n + 1 ≤ ac_cn (fun x => decide (ac_it f n x = 0)) 16 ∨ ∀ x, x < 16 → ac_it f (n + 1) x = 0 → ac_it f n x = 0 := by
  intro n
  induction n with
  | zero =>
    left
    have : ac_cn (fun _ => false) 16 < ac_cn (fun x => decide (ac_it f 0 x = 0)) 16 :=
      ac_cn_lt (x := 0) rfl (decide_eq_true rfl) 16 (by omega) (fun i _ h => by cases h)
    omega
  | succ n ih =>
    rcases Classical.em (∀ x, x < 16 → ac_it f (n + 1) x = 0 → ac_it f n x = 0) with S | S
    · right
      intro x hx h
      exact S (f x) (fr x) h
    · rcases ih with h | h
      · left
        have ⟨x, hx⟩ : ∃ x, ¬ (x < 16 → ac_it f (n + 1) x = 0 → ac_it f n x = 0) := Classical.not_forall.mp S
        have hx1 : x < 16 := Classical.byContradiction fun z => hx fun a => absurd a z
        have hx2 : ac_it f (n + 1) x = 0 := Classical.byContradiction fun z => hx fun _ a => absurd a z
        have hx3 : ¬ ac_it f n x = 0 := fun z => hx fun _ _ => z
        have := ac_cn_lt (q := fun x => decide (ac_it f n x = 0)) (q' := fun x => decide (ac_it f (n + 1) x = 0)) (x := x) (decide_eq_false hx3) (decide_eq_true hx2) 16 hx1 (fun i _ hi => decide_eq_true (ac_it_0 f0 (of_decide_eq_true hi)))
        omega
      · exact absurd h S
theorem ac_root (f0 : f 0 = 0) (fr : ∀ x, f x < 16) {x n : Nat} (hx : x < 16) (h : ac_it f n x = 0) : ac_it f 15 x = 0 := by
  rcases ac_grow f0 fr 15 with g | g
  · exact of_decide_eq_true (ac_cn_full (fun x => decide (ac_it f 15 x = 0)) 16 g x hx)
  · refine ac_st_up fr g n x hx ?_
    rw [Nat.add_comm]
    exact ac_it_m f0 h 15
end

/-! D: the tree: the root stands, a parent stands, every standing object is rooted -/
def ac_T (s : Nat → Bool) (f : Nat → Nat) : Prop := f 0 = 0 ∧ (∀ x, f x < 16) ∧ s 0 = true ∧ (∀ x, x < 16 → s x = true → s (f x) = true) ∧ ∀ x, x < 16 → s x = true → ∃ n, ac_it f n x = 0
theorem ac_T15 {s : Nat → Bool} {f : Nat → Nat} (T : ac_T s f) {x : Nat} (hx : x < 16) (h : s x = true) : ac_it f 15 x = 0 := by
  obtain ⟨n, hn⟩ := T.2.2.2.2 x hx h
  exact ac_root T.1 T.2.1 hx hn
theorem ac_T_create {s : Nat → Bool} {f : Nat → Nat} (T : ac_T s f) {o q : Nat} (ho : o < 16) (h0 : o ≠ 0) (hq : q < 16) (so : s o = false) (sq : s q = true) : ac_T (ac_up s o true) (ac_up f o q) := by
  obtain ⟨f0, fr, s0, sp, sr⟩ := T
  have key : ∀ n x, x < 16 → s x = true → ac_it f n x = 0 → ac_it (ac_up f o q) n x = 0 := by
    intro n
    induction n with
    | zero => intro x _ _ h; exact h
    | succ n ih =>
      intro x hx sx h
      have e : x ≠ o := by intro e; rw [e, so] at sx; cases sx
      show ac_it (ac_up f o q) n (ac_up f o q x) = 0
      rw [ac_un e]
      exact ih (f x) (fr x) (sp x hx sx) h
  have qo : q ≠ o := by intro e; rw [e, so] at sq; cases sq
  refine ⟨by rw [ac_un (Ne.symm h0)]; exact f0, ac_ub fr hq, by rw [ac_un (Ne.symm h0)]; exact s0, ?_, ?_⟩
  · intro x hx sx
    by_cases e : x = o
    · subst e; rw [ac_us, ac_un qo]; exact sq
    · rw [ac_un e] at sx ⊢
      have := sp x hx sx
      have e2 : f x ≠ o := by intro e2; rw [e2, so] at this; cases this
      rw [ac_un e2]; exact this
  · intro x hx sx
    by_cases e : x = o
    · subst e
      obtain ⟨n, hn⟩ := sr q hq sq
      refine ⟨n + 1, ?_⟩
      show ac_it (ac_up f x q) n (ac_up f x q x) = 0
      rw [ac_us]
      exact key n q hq sq hn
    · rw [ac_un e] at sx
      obtain ⟨n, hn⟩ := sr x hx sx
      exact ⟨n, key n x hx sx hn⟩
theorem ac_T_remove {s : Nat → Bool} {f : Nat → Nat} (T : ac_T s f) {o : Nat} (h0 : o ≠ 0) (hn : ∀ x, 0 < x → x < 16 → s x = true → f x ≠ o) : ac_T (ac_up s o false) f := by
  obtain ⟨f0, fr, s0, sp, sr⟩ := T
  have back : ∀ x, ac_up s o false x = true → s x = true := by
    intro x h
    by_cases e : x = o
    · subst e; rw [ac_us] at h; cases h
    · rw [ac_un e] at h; exact h
  refine ⟨f0, fr, by rw [ac_un (Ne.symm h0)]; exact s0, ?_, fun x hx sx => sr x hx (back x sx)⟩
  intro x hx sx
  have sx' := back x sx
  have e : f x ≠ o := by
    rcases Nat.eq_zero_or_pos x with z | z
    · subst z; rw [f0]; exact Ne.symm h0
    · exact hn x z hx sx'
  rw [ac_un e]; exact sp x hx sx'
theorem ac_T_move {s : Nat → Bool} {f : Nat → Nat} (T : ac_T s f) {o q : Nat} (ho : o < 16) (h0 : o ≠ 0) (hq : q < 16) (sq : s q = true) (hw : ∀ i, i < 16 → ac_it f i q ≠ o) : ac_T s (ac_up f o q) := by
  have q15 := ac_T15 T hq sq
  obtain ⟨f0, fr, s0, sp, sr⟩ := T
  have same : ∀ i x, (∀ j, j < i → ac_it f j x ≠ o) → ac_it (ac_up f o q) i x = ac_it f i x := by
    intro i
    induction i with
    | zero => intro x _; rfl
    | succ i ih =>
      intro x h
      have e : x ≠ o := h 0 (by omega)
      show ac_it (ac_up f o q) i (ac_up f o q x) = ac_it f i (f x)
      rw [ac_un e]
      exact ih (f x) (fun j hj => h (j + 1) (by omega))
  have rq : ac_it (ac_up f o q) 15 q = 0 := by rw [same 15 q (fun j hj => hw j (by omega))]; exact q15
  have key : ∀ n x, ac_it f n x = 0 → ∃ m, ac_it (ac_up f o q) m x = 0 := by
    intro n
    induction n with
    | zero => intro x h; exact ⟨0, h⟩
    | succ n ih =>
      intro x h
      by_cases e : x = o
      · subst e
        refine ⟨15 + 1, ?_⟩
        rw [ac_it_n, ac_us]; exact rq
      · obtain ⟨m, hm⟩ := ih (f x) h
        refine ⟨m + 1, ?_⟩
        show ac_it (ac_up f o q) m (ac_up f o q x) = 0
        rw [ac_un e]; exact hm
  refine ⟨by rw [ac_un (Ne.symm h0)]; exact f0, ac_ub fr hq, s0, ?_, ?_⟩
  · intro x hx sx
    by_cases e : x = o
    · subst e; rw [ac_us]; exact sq
    · rw [ac_un e]; exact sp x hx sx
  · intro x hx sx
    obtain ⟨n, hn⟩ := sr x hx sx
    exact key n x hn
