section
/-! rows pasted from kit/rows: bits of an Int32, stores, numbers, branches by naturals -/
def bt (x : Int32) (i : Nat) : Bool := x.toBitVec.getLsbD i
theorem b_ext {x y : Int32} (h : ∀ i, i < 32 → bt x i = bt y i) : x = y := Int32.toBitVec_inj.mp (BitVec.eq_of_getLsbD_eq (fun i hi => h i hi))
theorem b_or (x y : Int32) (i : Nat) : bt (x ||| y) i = (bt x i || bt y i) := by unfold bt; rw [Int32.toBitVec_or, BitVec.getLsbD_or]
theorem b_and (x y : Int32) (i : Nat) : bt (x &&& y) i = (bt x i && bt y i) := by unfold bt; rw [Int32.toBitVec_and, BitVec.getLsbD_and]
theorem b_xor (x y : Int32) (i : Nat) : bt (x ^^^ y) i = (bt x i ^^ bt y i) := by unfold bt; rw [Int32.toBitVec_xor, BitVec.getLsbD_xor]
theorem b_big {x : Int32} {i : Nat} (h : 32 ≤ i) : bt x i = false := BitVec.getLsbD_of_ge _ _ h
theorem b_m1 : ∀ i, i < 32 → bt (-1) i = true := by decide +kernel
theorem b_0 (i : Nat) : bt 0 i = false := BitVec.getLsbD_zero
theorem s_l : ∀ n, n < 32 → ((nI n &&& 31).toBitVec.smod 32).toNat = n := by decide +kernel
theorem b_shl (n : Nat) (hn : n < 32) (x : Int32) {i : Nat} (hi : i < 32) : bt (x <<< (nI n &&& 31)) i = (decide (n ≤ i) && bt x (i - n)) := by
  unfold bt
  rw [Int32.toBitVec_shiftLeft]
  show (x.toBitVec <<< ((nI n &&& 31).toBitVec.smod 32).toNat).getLsbD i = _
  rw [s_l n hn, BitVec.getLsbD_shiftLeft]
  rcases Nat.lt_or_ge i n with h | h
  · simp [h, Nat.not_le.mpr h]
  · simp [hi, h, Nat.not_lt.mpr h]
theorem b_sshr (n : Nat) (hn : n < 32) (x : Int32) {i : Nat} (hi : i < 32) : bt (x >>> (nI n &&& 31)) i = if n + i < 32 then bt x (n + i) else bt x 31 := by
  unfold bt
  rw [Int32.toBitVec_shiftRight]
  show (x.toBitVec.sshiftRight ((nI n &&& 31).toBitVec.smod 32).toNat).getLsbD i = _
  rw [s_l n hn, BitVec.getLsbD_sshiftRight, BitVec.msb_eq_getLsbD_last]
  simp [hi]
theorem nx_and (a b : Nat) : nI a &&& nI b = nI (a &&& b) := by
  apply Int32.toBitVec_inj.1
  show BitVec.ofNat 32 a &&& BitVec.ofNat 32 b = BitVec.ofNat 32 (a &&& b)
  apply BitVec.eq_of_getLsbD_eq
  intro i hi
  simp [hi]
theorem pk_us {f : Nat → Int32} {k : Nat} {x : Int32} : upd f k x k = x := if_pos rfl
theorem pk_un {f : Nat → Int32} {k j : Nat} {x : Int32} (h : j ≠ k) : upd f k x j = f j := if_neg h
theorem pk_sub {a b : Nat} (h : b ≤ a) : nI a - nI b = nI (a - b) := by
  obtain ⟨c, rfl⟩ : ∃ c, a = c + b := ⟨a - b, by omega⟩
  rw [← nI_add, Int32.add_sub_cancel, Nat.add_sub_cancel]
theorem pk_m1 (n : Nat) : nI (n + 1) + (-1) = nI n := by
  rw [← nI_1, Int32.add_assoc, show (1 : Int32) + (-1) = 0 from rfl, Int32.add_zero]
theorem pk_mul (a b : Nat) : nI a * nI b = nI (a * b) := (Int32.ofNat_mul a b).symm
theorem pk_div {a d : Nat} (ha : a < 2 ^ 31) (h0 : 0 < d) (hd : d < 2 ^ 31) : nI a / nI d = nI (a / d) := by
  apply Int32.toInt_inj.mp
  rw [lg_idiv_nonneg (by rw [nI_toInt ha]; omega) (by rw [nI_toInt hd]; omega), nI_toInt ha, nI_toInt hd, nI_toInt (Nat.lt_of_le_of_lt (Nat.div_le_self a d) ha)]
  first | rfl | exact (Int.natCast_ediv _ _).symm
theorem pk_rem {a d : Nat} (ha : a < 2 ^ 31) (h0 : 0 < d) (hd : d < 2 ^ 31) : nI a - nI a / nI d * nI d = nI (a % d) := by
  rw [pk_div ha h0 hd, pk_mul, pk_sub (Nat.div_mul_le_self a d)]
  exact congrArg nI (by have := Nat.div_add_mod' a d; omega)
theorem pk_ix (x : Int32) {n : Nat} (hn : n < 2 ^ 31) : x < 0 ∨ nI n ≤ x ∨ ∃ j : Nat, j < n ∧ x = nI j := by
  by_cases h : x < 0
  · exact Or.inl h
  · obtain ⟨j, hj, rfl⟩ := nI_of h
    by_cases h2 : j < n
    · exact Or.inr (Or.inr ⟨j, h2, rfl⟩)
    · exact Or.inr (Or.inl (nI_le (by omega) hj))
theorem pk_le {x y : Int32} {A B : Prop} (a b : Nat) (f : a ≤ b → A) (g : b < a → B) (hx : x = nI a := by rfl) (hy : y = nI b := by rfl) (ha : a < 2 ^ 31 := by omega) (hb : b < 2 ^ 31 := by omega) : (x ≤ y → A) ∧ (¬ x ≤ y → B) := by
  subst hx hy
  rw [nI_leI ha hb]
  exact ⟨f, fun z => g (by omega)⟩
theorem pk_lt {x y : Int32} {A B : Prop} (a b : Nat) (f : a < b → A) (g : b ≤ a → B) (hx : x = nI a := by rfl) (hy : y = nI b := by rfl) (ha : a < 2 ^ 31 := by omega) (hb : b < 2 ^ 31 := by omega) : (x < y → A) ∧ (¬ x < y → B) := by
  subst hx hy
  rw [nI_ltI ha hb]
  exact ⟨f, fun z => g (by omega)⟩
theorem pk_eq {x y : Int32} {A B : Prop} (a b : Nat) (f : a = b → A) (g : a ≠ b → B) (hx : x = nI a := by rfl) (hy : y = nI b := by rfl) (ha : a < 2 ^ 31 := by omega) (hb : b < 2 ^ 31 := by omega) : (x = y → A) ∧ (¬ x = y → B) := by
  subst hx hy
  rw [nI_eq ha hb]
  exact ⟨f, g⟩
theorem pk_in {x : Int32} (n N : Nat) (h : n < N) (hx : x = nI n := by rfl) (hN : N < 2 ^ 31 := by omega) : vp_in x N := by
  subst hx
  exact vp_in_nI h hN
theorem pk_cl {x : Int32} (n : Nat) (hx : x = nI n := by rfl) (h : n < 2 ^ 31 := by omega) : x.toNatClampNeg = n := by
  subst hx
  exact nI_clamp h
end
section
/-! A: bits as answers -/
def ac_b (b : Bool) : Int32 := if b then 1 else 0
theorem ac_bt : ac_b true = 1 := rfl
theorem ac_bf : ac_b false = 0 := rfl
theorem ac_b0 (b : Bool) : ac_b b = 0 ↔ b = false := by cases b <;> decide
theorem ac_b1 (b : Bool) : ac_b b = 1 ↔ b = true := by cases b <;> decide
theorem ac_bn (b : Bool) : narrow .boolean (.int (ac_b b)) = .int (ac_b b) := by cases b <;> rfl
theorem ac_bv (b : Bool) : vp_nar .boolean (ac_b b) = ac_b b := by cases b <;> decide
theorem ac_1bt (i : Nat) : bt 1 i = decide (i = 0) := by
  rcases Nat.lt_or_ge i 32 with h | h
  · exact (by decide +kernel : ∀ i, i < 32 → bt 1 i = decide (i = 0)) i h
  · rw [b_big h, decide_eq_false (by omega)]
theorem ac_bit (x : Int32) {n : Nat} (hn : n < 32) : (x >>> (nI n &&& 31)) &&& 1 = ac_b (bt x n) := by
  apply b_ext
  intro i hi
  rw [b_and, b_sshr n hn x hi, ac_1bt]
  by_cases h : i = 0
  · subst h
    rw [Nat.add_zero, if_pos hn]
    cases bt x n <;> decide
  · rw [decide_eq_false h, Bool.and_false]
    cases bt x n
    · exact (b_0 i).symm
    · rw [ac_bt, ac_1bt, decide_eq_false h]
theorem ac_one {n i : Nat} (hn : n < 32) (hi : i < 32) : bt ((1 : Int32) <<< (nI n &&& 31)) i = decide (i = n) := by
  rw [b_shl n hn 1 hi, ac_1bt]
  by_cases h : i = n
  · subst h
    rw [Nat.sub_self, decide_eq_true (Nat.le_refl i), decide_eq_true rfl, decide_eq_true rfl]; rfl
  · rw [decide_eq_false h]
    by_cases h2 : n ≤ i
    · rw [decide_eq_false (show ¬ i - n = 0 by omega), Bool.and_false]
    · rw [decide_eq_false h2, Bool.false_and]
theorem ac_on (x : Int32) {n i : Nat} (hn : n < 32) (hi : i < 32) : bt (x ||| ((1 : Int32) <<< (nI n &&& 31))) i = (bt x i || decide (i = n)) := by
  rw [b_or, ac_one hn hi]
theorem ac_off (x : Int32) {n i : Nat} (hn : n < 32) (hi : i < 32) : bt (x &&& (((1 : Int32) <<< (nI n &&& 31)) ^^^ (-1))) i = (bt x i && !decide (i = n)) := by
  rw [b_and, b_xor, ac_one hn hi, b_m1 i hi, Bool.xor_true]
theorem ac_not (x y : Int32) {i : Nat} (hi : i < 32) : bt (x &&& (y ^^^ (-1))) i = (bt x i && !bt y i) := by
  rw [b_and, b_xor, b_m1 i hi, Bool.xor_true]
theorem ac_16 : ∀ a, a < 16 → ∀ i, i < 32 → 4 ≤ i → bt (nI a) i = false := by decide +kernel

/-! B: stores of naturals -/
def ac_up {α : Type} (f : Nat → α) (k : Nat) (v : α) : Nat → α := fun o => if o = k then v else f o
theorem ac_us {α : Type} {f : Nat → α} {k : Nat} {v : α} : ac_up f k v k = v := if_pos rfl
theorem ac_un {α : Type} {f : Nat → α} {k j : Nat} {v : α} (h : j ≠ k) : ac_up f k v j = f j := if_neg h
theorem ac_uN (f : Nat → Nat) (k v : Nat) : upd (fun o => nI (f o)) k (nI v) = fun o => nI (ac_up f k v o) := by
  funext j
  show (if j = k then nI v else nI (f j)) = nI (if j = k then v else f j)
  split <;> rfl
theorem ac_uB (f : Nat → Bool) (k : Nat) (v : Bool) : upd (fun o => ac_b (f o)) k (ac_b v) = fun o => ac_b (ac_up f k v o) := by
  funext j
  show (if j = k then ac_b v else ac_b (f j)) = ac_b (if j = k then v else f j)
  split <;> rfl
theorem ac_ub {f : Nat → Nat} {k v N : Nat} (h : ∀ o, f o < N) (hv : v < N) : ∀ o, ac_up f k v o < N := by
  intro o
  by_cases e : o = k
  · subst e; rw [ac_us]; exact hv
  · rw [ac_un e]; exact h o
theorem ac_uu {α : Type} (f : Nat → α) (k : Nat) (v : α) : ac_up (ac_up f k v) k (f k) = f := by
  funext j
  by_cases e : j = k
  · subst e; rw [ac_us]
  · rw [ac_un e, ac_un e]

/-! C: n steps up, and how many can be needed -/
def ac_it (f : Nat → Nat) : Nat → Nat → Nat
  | 0, x => x
  | n + 1, x => ac_it f n (f x)
theorem ac_it_n (f : Nat → Nat) (n x : Nat) : ac_it f (n + 1) x = ac_it f n (f x) := rfl
theorem ac_it_s (f : Nat → Nat) : ∀ n x, ac_it f (n + 1) x = f (ac_it f n x) := by
  intro n
  induction n with
  | zero => intro x; rfl
  | succ n ih => intro x; exact ih (f x)
def ac_cn (q : Nat → Bool) : Nat → Nat
  | 0 => 0
  | n + 1 => ac_cn q n + (if q n then 1 else 0)
theorem ac_cn_s (q : Nat → Bool) (n : Nat) : ac_cn q (n + 1) = ac_cn q n + (if q n then 1 else 0) := rfl
theorem ac_cn_t {q : Nat → Bool} {n : Nat} (h : q n = true) : ac_cn q (n + 1) = ac_cn q n + 1 := by rw [ac_cn_s, h]; rfl
theorem ac_cn_f {q : Nat → Bool} {n : Nat} (h : q n = false) : ac_cn q (n + 1) = ac_cn q n := by rw [ac_cn_s, h]; rfl
theorem ac_cn_le (q : Nat → Bool) : ∀ n, ac_cn q n ≤ n := by
  intro n
  induction n with
  | zero => exact Nat.le_refl 0
  | succ n ih =>
    cases h : q n
    · rw [ac_cn_f h]; omega
    · rw [ac_cn_t h]; omega
theorem ac_cn_full (q : Nat → Bool) : ∀ n, n ≤ ac_cn q n → ∀ i, i < n → q i = true := by
  intro n
  induction n with
  | zero => intro _ i hi; omega
  | succ n ih =>
    intro h i hi
    have := ac_cn_le q n
    cases e : q n
    · rw [ac_cn_f e] at h; omega
    · rw [ac_cn_t e] at h
      rcases Nat.lt_or_ge i n with g | g
      · exact ih (by omega) i g
      · rw [show i = n by omega]; exact e
theorem ac_cn_mono {q q' : Nat → Bool} : ∀ n, (∀ i, i < n → q i = true → q' i = true) → ac_cn q n ≤ ac_cn q' n := by
  intro n
  induction n with
  | zero => intro _; exact Nat.le_refl 0
  | succ n ih =>
    intro h
    have := ih (fun i hi => h i (by omega))
    cases e : q n
    · rw [ac_cn_f e]
      cases e' : q' n
      · rw [ac_cn_f e']; exact this
      · rw [ac_cn_t e']; omega
    · rw [ac_cn_t e, ac_cn_t (h n (by omega) e)]; omega
theorem ac_cn_lt {q q' : Nat → Bool} {x : Nat} (hq : q x = false) (hq' : q' x = true) : ∀ n, x < n → (∀ i, i < n → q i = true → q' i = true) → ac_cn q n < ac_cn q' n := by
  intro n
  induction n with
  | zero => intro hx; omega
  | succ n ih =>
    intro hx h
    rcases Nat.lt_or_ge x n with g | g
    · have := ih g (fun i hi => h i (by omega))
      cases e : q n
      · rw [ac_cn_f e]
        cases e' : q' n
        · rw [ac_cn_f e']; exact this
        · rw [ac_cn_t e']; omega
      · rw [ac_cn_t e, ac_cn_t (h n (by omega) e)]; omega
    · have ex : x = n := by omega
      subst ex
      have := ac_cn_mono (q := q) (q' := q') x (fun i hi => h i (by omega))
      rw [ac_cn_f hq, ac_cn_t hq']; omega
theorem ac_cn_e {q q' : Nat → Bool} : ∀ n, (∀ i, i < n → q i = q' i) → ac_cn q n = ac_cn q' n := by
  intro n
  induction n with
  | zero => intro _; rfl
  | succ n ih => intro h; rw [ac_cn_s, ac_cn_s, ih (fun i hi => h i (by omega)), h n (by omega)]
section
variable {f : Nat → Nat}
theorem ac_it_0 (f0 : f 0 = 0) {x n : Nat} (h : ac_it f n x = 0) : ac_it f (n + 1) x = 0 := by rw [ac_it_s, h, f0]
theorem ac_it_m (f0 : f 0 = 0) {x n : Nat} (h : ac_it f n x = 0) : ∀ m, ac_it f (n + m) x = 0 := by
  intro m
  induction m with
  | zero => exact h
  | succ m ih => exact ac_it_0 f0 ih
theorem ac_st_up (fr : ∀ x, f x < 16) {n : Nat} (S : ∀ x, x < 16 → ac_it f (n + 1) x = 0 → ac_it f n x = 0) : ∀ m x, x < 16 → ac_it f (n + m) x = 0 → ac_it f n x = 0 := by
  intro m
  induction m with
  | zero => intro x _ h; exact h
  | succ m ih =>
    intro x hx h
    exact S x hx (ih (f x) (fr x) h)
theorem ac_grow (f0 : f 0 = 0) (fr : ∀ x, f x < 16) : ∀ n, n + 1 ≤ ac_cn (fun x => decide (ac_it f n x = 0)) 16 ∨ ∀ x, x < 16 → ac_it f (n + 1) x = 0 → ac_it f n x = 0 := by
  intro n
  induction n with
  | zero =>
    left
    have : ac_cn (fun _ => false) 16 < ac_cn (fun x => decide (ac_it f 0 x = 0)) 16 :=
      ac_cn_lt (x := 0) rfl (decide_eq_true rfl) 16 (by omega) (fun i _ h => by cases h)
    omega
  | succ n ih =>
    rcases Classical.em (∀ x, x < 16 → ac_it f (n + 1) x = 0 → ac_it f n x = 0) with S | S
    · right
      intro x hx h
      exact S (f x) (fr x) h
    · rcases ih with h | h
      · left
        have ⟨x, hx⟩ : ∃ x, ¬ (x < 16 → ac_it f (n + 1) x = 0 → ac_it f n x = 0) := Classical.not_forall.mp S
        have hx1 : x < 16 := Classical.byContradiction fun z => hx fun a => absurd a z
        have hx2 : ac_it f (n + 1) x = 0 := Classical.byContradiction fun z => hx fun _ a => absurd a z
        have hx3 : ¬ ac_it f n x = 0 := fun z => hx fun _ _ => z
        have := ac_cn_lt (q := fun x => decide (ac_it f n x = 0)) (q' := fun x => decide (ac_it f (n + 1) x = 0)) (x := x) (decide_eq_false hx3) (decide_eq_true hx2) 16 hx1 (fun i _ hi => decide_eq_true (ac_it_0 f0 (of_decide_eq_true hi)))
        omega
      · exact absurd h S
theorem ac_root (f0 : f 0 = 0) (fr : ∀ x, f x < 16) {x n : Nat} (hx : x < 16) (h : ac_it f n x = 0) : ac_it f 15 x = 0 := by
  rcases ac_grow f0 fr 15 with g | g
  · exact of_decide_eq_true (ac_cn_full (fun x => decide (ac_it f 15 x = 0)) 16 g x hx)
  · refine ac_st_up fr g n x hx ?_
    rw [Nat.add_comm]
    exact ac_it_m f0 h 15
end

/-! D: the tree: the root stands, a parent stands, every standing object is rooted -/
def ac_T (s : Nat → Bool) (f : Nat → Nat) : Prop := f 0 = 0 ∧ (∀ x, f x < 16) ∧ s 0 = true ∧ (∀ x, x < 16 → s x = true → s (f x) = true) ∧ ∀ x, x < 16 → s x = true → ∃ n, ac_it f n x = 0
theorem ac_T15 {s : Nat → Bool} {f : Nat → Nat} (T : ac_T s f) {x : Nat} (hx : x < 16) (h : s x = true) : ac_it f 15 x = 0 := by
  obtain ⟨n, hn⟩ := T.2.2.2.2 x hx h
  exact ac_root T.1 T.2.1 hx hn
theorem ac_T_create {s : Nat → Bool} {f : Nat → Nat} (T : ac_T s f) {o q : Nat} (ho : o < 16) (h0 : o ≠ 0) (hq : q < 16) (so : s o = false) (sq : s q = true) : ac_T (ac_up s o true) (ac_up f o q) := by
  obtain ⟨f0, fr, s0, sp, sr⟩ := T
  have key : ∀ n x, x < 16 → s x = true → ac_it f n x = 0 → ac_it (ac_up f o q) n x = 0 := by
    intro n
    induction n with
    | zero => intro x _ _ h; exact h
    | succ n ih =>
      intro x hx sx h
      have e : x ≠ o := by intro e; rw [e, so] at sx; cases sx
      show ac_it (ac_up f o q) n (ac_up f o q x) = 0
      rw [ac_un e]
      exact ih (f x) (fr x) (sp x hx sx) h
  have qo : q ≠ o := by intro e; rw [e, so] at sq; cases sq
  refine ⟨by rw [ac_un (Ne.symm h0)]; exact f0, ac_ub fr hq, by rw [ac_un (Ne.symm h0)]; exact s0, ?_, ?_⟩
  · intro x hx sx
    by_cases e : x = o
    · subst e; rw [ac_us, ac_un qo]; exact sq
    · rw [ac_un e] at sx ⊢
      have := sp x hx sx
      have e2 : f x ≠ o := by intro e2; rw [e2, so] at this; cases this
      rw [ac_un e2]; exact this
  · intro x hx sx
    by_cases e : x = o
    · subst e
      obtain ⟨n, hn⟩ := sr q hq sq
      refine ⟨n + 1, ?_⟩
      show ac_it (ac_up f x q) n (ac_up f x q x) = 0
      rw [ac_us]
      exact key n q hq sq hn
    · rw [ac_un e] at sx
      obtain ⟨n, hn⟩ := sr x hx sx
      exact ⟨n, key n x hx sx hn⟩
theorem ac_T_remove {s : Nat → Bool} {f : Nat → Nat} (T : ac_T s f) {o : Nat} (h0 : o ≠ 0) (hn : ∀ x, 0 < x → x < 16 → s x = true → f x ≠ o) : ac_T (ac_up s o false) f := by
  obtain ⟨f0, fr, s0, sp, sr⟩ := T
  have back : ∀ x, ac_up s o false x = true → s x = true := by
    intro x h
    by_cases e : x = o
    · subst e; rw [ac_us] at h; cases h
    · rw [ac_un e] at h; exact h
  refine ⟨f0, fr, by rw [ac_un (Ne.symm h0)]; exact s0, ?_, fun x hx sx => sr x hx (back x sx)⟩
  intro x hx sx
  have sx' := back x sx
  have e : f x ≠ o := by
    rcases Nat.eq_zero_or_pos x with z | z
    · subst z; rw [f0]; exact Ne.symm h0
    · exact hn x z hx sx'
  rw [ac_un e]; exact sp x hx sx'
theorem ac_T_move {s : Nat → Bool} {f : Nat → Nat} (T : ac_T s f) {o q : Nat} (ho : o < 16) (h0 : o ≠ 0) (hq : q < 16) (sq : s q = true) (hw : ∀ i, i < 16 → ac_it f i q ≠ o) : ac_T s (ac_up f o q) := by
  have q15 := ac_T15 T hq sq
  obtain ⟨f0, fr, s0, sp, sr⟩ := T
  have same : ∀ i x, (∀ j, j < i → ac_it f j x ≠ o) → ac_it (ac_up f o q) i x = ac_it f i x := by
    intro i
    induction i with
    | zero => intro x _; rfl
    | succ i ih =>
      intro x h
      have e : x ≠ o := h 0 (by omega)
      show ac_it (ac_up f o q) i (ac_up f o q x) = ac_it f i (f x)
      rw [ac_un e]
      exact ih (f x) (fun j hj => h (j + 1) (by omega))
  have rq : ac_it (ac_up f o q) 15 q = 0 := by rw [same 15 q (fun j hj => hw j (by omega))]; exact q15
  have key : ∀ n x, ac_it f n x = 0 → ∃ m, ac_it (ac_up f o q) m x = 0 := by
    intro n
    induction n with
    | zero => intro x h; exact ⟨0, h⟩
    | succ n ih =>
      intro x h
      by_cases e : x = o
      · subst e
        refine ⟨15 + 1, ?_⟩
        rw [ac_it_n, ac_us]; exact rq
      · obtain ⟨m, hm⟩ := ih (f x) h
        refine ⟨m + 1, ?_⟩
        show ac_it (ac_up f o q) m (ac_up f o q x) = 0
        rw [ac_un e]; exact hm
  refine ⟨by rw [ac_un (Ne.symm h0)]; exact f0, ac_ub fr hq, s0, ?_, ?_⟩
  · intro x hx sx
    by_cases e : x = o
    · subst e; rw [ac_us]; exact sq
    · rw [ac_un e]; exact sp x hx sx
  · intro x hx sx
    obtain ⟨n, hn⟩ := sr x hx sx
    exact key n x hn
end
section
/-! E: some slot of a run of slots; the sets joined over a run of slots -/
def ac_an (q : Nat → Bool) : Nat → Nat → Bool
  | _, 0 => false
  | i, n + 1 => q i || ac_an q (i + 1) n
theorem ac_an_s (q : Nat → Bool) (i n : Nat) : ac_an q i (n + 1) = (q i || ac_an q (i + 1) n) := rfl
theorem ac_an_e {q q' : Nat → Bool} (h : ∀ j, q j = q' j) : ∀ n i, ac_an q i n = ac_an q' i n := by
  intro n
  induction n with
  | zero => intro i; rfl
  | succ n ih => intro i; rw [ac_an_s, ac_an_s, ih, h]
theorem ac_an_f {q : Nat → Bool} (h : ∀ j, q j = false) : ∀ n i, ac_an q i n = false := by
  intro n
  induction n with
  | zero => intro i; rfl
  | succ n ih => intro i; rw [ac_an_s, ih, h]; rfl
def ac_fo (c : Nat → Bool) (r : Nat → Nat) : Nat → Nat → Int32 → Int32
  | _, 0, v => v
  | i, n + 1, v => ac_fo c r (i + 1) n (if c i then v ||| nI (r i) else v)
theorem ac_fo_b (c : Nat → Bool) (r : Nat → Nat) (b : Nat) : ∀ n i v, bt (ac_fo c r i n v) b = (bt v b || ac_an (fun j => c j && bt (nI (r j)) b) i n) := by
  intro n
  induction n with
  | zero => intro i v; exact (Bool.or_false _).symm
  | succ n ih =>
    intro i v
    show bt (ac_fo c r (i + 1) n (if c i then v ||| nI (r i) else v)) b = _
    rw [ih, ac_an_s]
    cases h : c i
    · rw [if_neg (by decide)]
      simp only [h, Bool.false_and, Bool.false_or]
    · rw [if_pos rfl, b_or]
      simp only [h, Bool.true_and, Bool.or_assoc]

/-! F: is an entry of mode m, of kind k, in the list at step s -/
def ac_ls (m s : Nat) (k : Bool) : Bool := (m / 8 == (if k then 1 else 0)) && (if s = 0 then m / 2 % 2 == 0 else (m % 2 == 1 && (s == 1 || m / 4 % 2 == 0)))
def ac_mk (s : Nat) : Int32 := if s = 0 then 2 else if s = 1 then 1 else 5
def ac_wn (s : Nat) : Int32 := if s = 0 then 0 else 1
theorem ac_ls_d (m s : Nat) (hm : m < 16) : decide (nI m &&& (ac_mk s ||| 8) = ac_wn s) = ac_ls m s false := by
  rcases s with _ | _ | s
  · exact (by decide +kernel : ∀ m, m < 16 → decide (nI m &&& (ac_mk 0 ||| 8) = ac_wn 0) = ac_ls m 0 false) m hm
  · exact (by decide +kernel : ∀ m, m < 16 → decide (nI m &&& (ac_mk 1 ||| 8) = ac_wn 1) = ac_ls m 1 false) m hm
  · have e1 : ac_mk (s + 1 + 1) = ac_mk 2 := rfl
    have e2 : ac_wn (s + 1 + 1) = ac_wn 2 := rfl
    have e3 : ac_ls m (s + 1 + 1) false = ac_ls m 2 false := rfl
    rw [e1, e2, e3]
    exact (by decide +kernel : ∀ m, m < 16 → decide (nI m &&& (ac_mk 2 ||| 8) = ac_wn 2) = ac_ls m 2 false) m hm
theorem ac_ls_a (m s : Nat) (hm : m < 16) : decide (nI m &&& (ac_mk s ||| 8) = (ac_wn s ||| 8)) = ac_ls m s true := by
  rcases s with _ | _ | s
  · exact (by decide +kernel : ∀ m, m < 16 → decide (nI m &&& (ac_mk 0 ||| 8) = (ac_wn 0 ||| 8)) = ac_ls m 0 true) m hm
  · exact (by decide +kernel : ∀ m, m < 16 → decide (nI m &&& (ac_mk 1 ||| 8) = (ac_wn 1 ||| 8)) = ac_ls m 1 true) m hm
  · have e1 : ac_mk (s + 1 + 1) = ac_mk 2 := rfl
    have e2 : ac_wn (s + 1 + 1) = ac_wn 2 := rfl
    have e3 : ac_ls m (s + 1 + 1) true = ac_ls m 2 true := rfl
    rw [e1, e2, e3]
    exact (by decide +kernel : ∀ m, m < 16 → decide (nI m &&& (ac_mk 2 ||| 8) = (ac_wn 2 ||| 8)) = ac_ls m 2 true) m hm

/-! G: the walk by sets (X), the walk for one right (Y) -/
def ac_xw (DN AL : Nat → Nat → Int32) (sp : Nat → Bool) (f : Nat → Nat) : Nat → Nat → Nat → Int32 → Int32 → Int32
  | 0, _, _, al, _ => al
  | n + 1, s, x, al, de => if sp x then al ||| (AL s x &&& ((de ||| DN s x) ^^^ (-1))) else ac_xw DN AL sp f n (s + 1) (f x) (al ||| (AL s x &&& ((de ||| DN s x) ^^^ (-1)))) (de ||| DN s x)
def ac_yw (D A : Nat → Nat → Bool) (sp : Nat → Bool) (f : Nat → Nat) : Nat → Nat → Nat → Bool
  | 0, _, _ => false
  | n + 1, s, x => if D s x then false else if A s x then true else if sp x then false else ac_yw D A sp f n (s + 1) (f x)
theorem ac_xw_s {DN AL : Nat → Nat → Int32} {sp : Nat → Bool} {f : Nat → Nat} {n s x : Nat} {al de : Int32} : ac_xw DN AL sp f (n + 1) s x al de = if sp x then al ||| (AL s x &&& ((de ||| DN s x) ^^^ (-1))) else ac_xw DN AL sp f n (s + 1) (f x) (al ||| (AL s x &&& ((de ||| DN s x) ^^^ (-1)))) (de ||| DN s x) := rfl
theorem ac_yw_s {D A : Nat → Nat → Bool} {sp : Nat → Bool} {f : Nat → Nat} {n s x : Nat} : ac_yw D A sp f (n + 1) s x = if D s x then false else if A s x then true else if sp x then false else ac_yw D A sp f n (s + 1) (f x) := rfl
theorem ac_xy {DN AL : Nat → Nat → Int32} {D A : Nat → Nat → Bool} {sp : Nat → Bool} {f : Nat → Nat} {r : Nat} (hr : r < 32) (hD : ∀ s x, bt (DN s x) r = D s x) (hA : ∀ s x, bt (AL s x) r = A s x) :
    ∀ n s x al de, bt (ac_xw DN AL sp f n s x al de) r = (bt al r || (!bt de r && ac_yw D A sp f n s x)) := by
  intro n
  induction n with
  | zero => intro s x al de; show bt al r = (bt al r || (!bt de r && false)); rw [Bool.and_false, Bool.or_false]
  | succ n ih =>
    intro s x al de
    rw [ac_xw_s, ac_yw_s]
    cases hs : sp x
    · rw [if_neg (by decide), ih, b_or, ac_not _ _ hr, b_or, hD, hA, if_neg (by decide : ¬ false = true)]
      cases bt al r <;> cases bt de r <;> cases D s x <;> cases A s x <;> simp
    · rw [if_pos rfl, b_or, ac_not _ _ hr, b_or, hD, hA, if_pos rfl]
      cases bt al r <;> cases bt de r <;> cases D s x <;> cases A s x <;> simp
theorem ac_yw_f {D A : Nat → Nat → Bool} {sp : Nat → Bool} {f : Nat → Nat} (hA : ∀ s x, A s x = false) : ∀ n s x, ac_yw D A sp f n s x = false := by
  intro n
  induction n with
  | zero => intro s x; rfl
  | succ n ih => intro s x; rw [ac_yw_s, hA, ih]; cases D s x <;> cases sp x <;> rfl
/-- a rooted object needs no more steps than its root is away -/
theorem ac_yw_r {D A : Nat → Nat → Bool} {sp : Nat → Bool} {f : Nat → Nat} (h0 : sp 0 = true) : ∀ n s x, ac_it f n x = 0 → ac_yw D A sp f (n + 2) s x = ac_yw D A sp f (n + 1) s x := by
  intro n
  induction n with
  | zero =>
    intro s x h
    have e : x = 0 := h
    subst e
    rw [ac_yw_s (n := 1), ac_yw_s (n := 0) (s := s) (x := 0), h0, if_pos rfl, if_pos rfl]
  | succ n ih =>
    intro s x h
    rw [ac_yw_s (n := n + 2), ac_yw_s (n := n + 1) (s := s) (x := x), ih (s + 1) (f x) h]

/-! H: what the state says of one right -/
section
variable (f c w r m : Nat → Nat) (cv : Nat → Int32)
def ac_co (p j : Nat) : Bool := bt (cv (w j)) p
def ac_se (p b s : Nat) (k : Bool) (x : Nat) : Bool := ac_an (fun j => (ac_ls (m j) s k && ac_co w cv p j) && bt (nI (r j)) b) (4 * x) (c x)
def ac_rn (p : Nat) (mask wanted : Int32) (x : Nat) : Int32 := ac_fo (fun j => decide (nI (m j) &&& mask = wanted) && ac_co w cv p j) r (4 * x) (c x) 0
def ac_sp (l : Nat → Bool) (x : Nat) : Bool := x == 0 || l x
/-- Y's answer: may p do b on x (n steps at most) -/
def ac_al (l : Nat → Bool) (p b n x : Nat) : Bool := ac_yw (fun s x => ac_se c w r m cv p b s false x) (fun s x => ac_se c w r m cv p b s true x) (ac_sp l) f n 0 x
/-- X's set -/
def ac_rs (l : Nat → Bool) (p x : Nat) : Int32 := ac_xw (fun s x => ac_rn c w r m cv p (ac_mk s ||| 8) (ac_wn s) x) (fun s x => ac_rn c w r m cv p (ac_mk s ||| 8) (ac_wn s ||| 8) x) (ac_sp l) f 16 0 x 0 0
end
section
variable {f c w r m : Nat → Nat} {cv : Nat → Int32}
theorem ac_rn_d (hm : ∀ j, m j < 16) (p b s x : Nat) : bt (ac_rn c w r m cv p (ac_mk s ||| 8) (ac_wn s) x) b = ac_se c w r m cv p b s false x := by
  unfold ac_rn ac_se
  rw [ac_fo_b, b_0, Bool.false_or]
  exact ac_an_e (fun j => by rw [ac_ls_d (m j) s (hm j)]) _ _
theorem ac_rn_a (hm : ∀ j, m j < 16) (p b s x : Nat) : bt (ac_rn c w r m cv p (ac_mk s ||| 8) (ac_wn s ||| 8) x) b = ac_se c w r m cv p b s true x := by
  unfold ac_rn ac_se
  rw [ac_fo_b, b_0, Bool.false_or]
  exact ac_an_e (fun j => by rw [ac_ls_a (m j) s (hm j)]) _ _
theorem ac_rs_b (hm : ∀ j, m j < 16) (l : Nat → Bool) (p x : Nat) {b : Nat} (hb : b < 32) : bt (ac_rs f c w r m cv l p x) b = ac_al f c w r m cv l p b 16 x := by
  unfold ac_rs ac_al
  rw [ac_xy hb (fun s x => ac_rn_d hm p b s x) (fun s x => ac_rn_a hm p b s x), b_0]
  rfl
theorem ac_al_17 (l : Nat → Bool) (p b : Nat) {x : Nat} (h : ac_it f 15 x = 0) : ac_al f c w r m cv l p b 17 x = ac_al f c w r m cv l p b 16 x :=
  ac_yw_r (sp := ac_sp l) rfl 15 0 x h
theorem ac_se_h (hr : ∀ j, r j < 16) (p s x : Nat) (k : Bool) {b : Nat} (hb : b < 32) (h4 : 4 ≤ b) : ac_se c w r m cv p b s k x = false :=
  ac_an_f (fun j => by rw [ac_16 (r j) (hr j) b hb h4, Bool.and_false]) _ _
theorem ac_al_h (hr : ∀ j, r j < 16) (l : Nat → Bool) (p n x : Nat) {b : Nat} (hb : b < 32) (h4 : 4 ≤ b) : ac_al f c w r m cv l p b n x = false :=
  ac_yw_f (fun s x => ac_se_h hr p s x true hb h4) n 0 x
end

/-! I: a set built bit by bit -/
def ac_set (q : Nat → Bool) : Nat → Int32
  | 0 => 0
  | n + 1 => if q n then ac_set q n ||| ((1 : Int32) <<< (nI n &&& 31)) else ac_set q n
theorem ac_set_s (q : Nat → Bool) (n : Nat) : ac_set q (n + 1) = if q n then ac_set q n ||| ((1 : Int32) <<< (nI n &&& 31)) else ac_set q n := rfl
theorem ac_set_b (q : Nat → Bool) {i : Nat} (hi : i < 32) : ∀ n, n ≤ 32 → bt (ac_set q n) i = (decide (i < n) && q i) := by
  intro n
  induction n with
  | zero => intro _; show bt 0 i = _; rw [b_0, decide_eq_false (by omega)]; rfl
  | succ n ih =>
    intro hn
    rw [ac_set_s]
    by_cases e : i = n
    · subst e
      rw [decide_eq_true (by omega), Bool.true_and]
      cases h : q i
      · rw [if_neg (by decide), ih (by omega), decide_eq_false (by omega)]; rfl
      · rw [if_pos rfl, ac_on _ (by omega) hi, decide_eq_true rfl, Bool.or_true]
    · have d : decide (i < n + 1) = decide (i < n) := by
        by_cases z : i < n
        · rw [decide_eq_true z, decide_eq_true (by omega)]
        · rw [decide_eq_false z, decide_eq_false (by omega)]
      rw [d]
      cases h : q n
      · rw [if_neg (by decide), ih (by omega)]
      · rw [if_pos rfl, ac_on _ (by omega) hi, decide_eq_false e, Bool.or_false, ih (by omega)]
theorem ac_set_e {q q' : Nat → Bool} : ∀ n, (∀ i, i < n → q i = q' i) → ac_set q n = ac_set q' n := by
  intro n
  induction n with
  | zero => intro _; rfl
  | succ n ih => intro h; rw [ac_set_s, ac_set_s, ih (fun i hi => h i (by omega)), h n (by omega)]
section
variable {f c w r m : Nat → Nat} {cv : Nat → Int32}
/-- the two sets are one -/
theorem ac_rs_set (hm : ∀ j, m j < 16) (hr : ∀ j, r j < 16) (l : Nat → Bool) (p : Nat) {x : Nat} (h : ac_it f 15 x = 0) : ac_set (fun b => ac_al f c w r m cv l p b 17 x) 4 = ac_rs f c w r m cv l p x := by
  apply b_ext
  intro i hi
  rw [ac_set_b _ hi 4 (by omega), ac_rs_b hm l p x hi, ac_al_17 l p i h]
  by_cases z : i < 4
  · rw [decide_eq_true z, Bool.true_and]
  · rw [decide_eq_false z, Bool.false_and, ac_al_h hr l p 16 x hi (by omega)]
end

/-! J: going up to the root -/
def ac_gx (a : Nat → Bool) (f : Nat → Nat) : Nat → Nat → Bool
  | 0, _ => false
  | n + 1, x => if a x then (if x = 0 then true else ac_gx a f n (f x)) else false
def ac_gy (a : Nat → Bool) (f : Nat → Nat) : Nat → Nat → Bool
  | 0, _ => a 0
  | n + 1, x => if x = 0 then a 0 else if a x then ac_gy a f n (f x) else false
theorem ac_gx_s {a : Nat → Bool} {f : Nat → Nat} {n x : Nat} : ac_gx a f (n + 1) x = if a x then (if x = 0 then true else ac_gx a f n (f x)) else false := rfl
theorem ac_gy_s {a : Nat → Bool} {f : Nat → Nat} {n x : Nat} : ac_gy a f (n + 1) x = if x = 0 then a 0 else if a x then ac_gy a f n (f x) else false := rfl
theorem ac_gxy {a a' : Nat → Bool} {f : Nat → Nat} (f0 : f 0 = 0) (fr : ∀ x, f x < 16) (h : ∀ x, x < 16 → ac_it f 15 x = 0 → a x = a' x) : ∀ n x, x < 16 → ac_it f 15 x = 0 → ac_it f n x = 0 → ac_gx a f (n + 1) x = ac_gy a' f (n + 1) x := by
  intro n
  induction n with
  | zero =>
    intro x hx h15 e
    have e : x = 0 := e
    subst e
    rw [ac_gx_s, ac_gy_s, if_pos rfl, if_pos rfl, h 0 hx h15]
    cases a' 0 <;> rfl
  | succ n ih =>
    intro x hx h15 e
    rw [ac_gx_s, ac_gy_s, h x hx h15]
    by_cases z : x = 0
    · subst z
      rw [if_pos rfl, if_pos rfl]
      cases a' 0 <;> rfl
    · rw [if_neg z, if_neg z, ih (f x) (fr x) (ac_it_0 f0 h15) e]

/-! K: pairs counted row by row, and one by one -/
def ac_sm (g : Nat → Nat) : Nat → Nat
  | 0 => 0
  | n + 1 => ac_sm g n + g n
theorem ac_pairs (q : Nat → Nat → Bool) : ∀ n, ac_cn (fun i => q (i / 6) (i % 6)) (6 * n) = ac_sm (fun a => ac_cn (q a) 6) n := by
  intro n
  induction n with
  | zero => rfl
  | succ n ih =>
    show ac_cn (fun i => q (i / 6) (i % 6)) (6 * n + 6) = ac_sm (fun a => ac_cn (q a) 6) n + ac_cn (q n) 6
    rw [← ih]
    have d : ∀ k, k < 6 → (fun i => q (i / 6) (i % 6)) (6 * n + k) = q n k := by
      intro k hk
      show q ((6 * n + k) / 6) ((6 * n + k) % 6) = q n k
      rw [show (6 * n + k) / 6 = n by omega, show (6 * n + k) % 6 = k by omega]
    have st : ∀ k, k ≤ 6 → ac_cn (fun i => q (i / 6) (i % 6)) (6 * n + k) = ac_cn (fun i => q (i / 6) (i % 6)) (6 * n) + ac_cn (q n) k := by
      intro k
      induction k with
      | zero => intro _; rfl
      | succ k ihk =>
        intro hk
        show ac_cn (fun i => q (i / 6) (i % 6)) (6 * n + k + 1) = _
        have dk : q ((6 * n + k) / 6) ((6 * n + k) % 6) = q n k := d k (by omega)
        rw [ac_cn_s, ac_cn_s, ihk (by omega), dk, Nat.add_assoc]
    exact st 6 (by omega)
theorem ac_sm_e {g g' : Nat → Nat} : ∀ n, (∀ i, i < n → g i = g' i) → ac_sm g n = ac_sm g' n := by
  intro n
  induction n with
  | zero => intro _; rfl
  | succ n ih =>
    intro h
    show ac_sm g n + g n = ac_sm g' n + g' n
    rw [ih (fun i hi => h i (by omega)), h n (by omega)]
theorem ac_cn_0 : ∀ n, ac_cn (fun _ => false) n = 0 := by
  intro n
  induction n with
  | zero => rfl
  | succ n ih => rw [ac_cn_f rfl, ih]

/-! L: entries moved up by one -/
def ac_sh {α : Type} (a t : Nat) (w : Nat → α) : Nat → α := fun j => if a ≤ j ∧ j < a + t then w (j + 1) else w j
theorem ac_sh_0 {α : Type} (a : Nat) (w : Nat → α) : ac_sh a 0 w = w := by
  funext j
  exact if_neg (by omega)
theorem ac_sh_s {α : Type} (a t : Nat) (w : Nat → α) : ac_up (ac_sh a t w) (a + t) (w (a + t + 1)) = ac_sh a (t + 1) w := by
  funext j
  by_cases e : j = a + t
  · subst e
    rw [ac_us]
    exact (if_pos (by omega)).symm
  · rw [ac_un e]
    by_cases z : a ≤ j ∧ j < a + t
    · exact (if_pos z).trans (if_pos (by omega)).symm
    · exact (if_neg z).trans (if_neg (by omega)).symm
theorem ac_sh_n {α : Type} (a t : Nat) (w : Nat → α) : ac_sh a t w (a + t + 1) = w (a + t + 1) := if_neg (by omega)
theorem ac_sh_b {N a t : Nat} {w : Nat → Nat} (h : ∀ j, w j < N) : ∀ j, ac_sh a t w j < N := by
  intro j
  unfold ac_sh
  split
  · exact h (j + 1)
  · exact h j
end
section
/-! M: methods that only test -/
theorem ac_10 : ¬ (1 : Int32) = 0 := by decide
def ac_out (N : Nat) (x : Int32) : Prop := x < 0 ∨ nI N ≤ x
theorem ac_ix (x : Int32) {N : Nat} (hN : N < 2 ^ 31) : ac_out N x ∨ ∃ j, j < N ∧ x = nI j := by
  rcases pk_ix x hN with h | h | h
  · exact Or.inl (Or.inl h)
  · exact Or.inl (Or.inr h)
  · exact Or.inr h
theorem ac_lel {N : Nat} {x : Int32} (hN : N + 1 < 2 ^ 31) (h : nI (N + 1) ≤ x) : nI N < x := by
  rw [Int32.le_iff_toInt_le, nI_toInt hN] at h
  rw [Int32.lt_iff_toInt_lt, nI_toInt (by omega)]
  omega
theorem ac_ltle {x : Int32} (h : x < 0) : x ≤ 0 := by
  rw [Int32.lt_iff_toInt_lt] at h
  rw [Int32.le_iff_toInt_le]
  omega
theorem ac_lt0n {N : Nat} {x : Int32} (hN : N < 2 ^ 31) (h : x < 0) : x < nI N := by
  rw [Int32.lt_iff_toInt_lt, show (0 : Int32).toInt = 0 from by decide] at h
  rw [Int32.lt_iff_toInt_lt, nI_toInt hN]
  omega
section
variable {A B : Prop} {post : Int32 → Prop} {x y : Int32} {n : Nat} {u : SY}
theorem ac_xo1 (h : n < 16) (k : B) : wpX_isObject (fun r => (r = 0 → A) ∧ (¬ r = 0 → B)) (nI n) := br_f (nI_pos (by omega)) (br_f (nI_ge (b := 16) h (by decide)) (br_f ac_10 k))
theorem ac_xo0 (h : ac_out 16 x) (k : A) : wpX_isObject (fun r => (r = 0 → A) ∧ (¬ r = 0 → B)) x := by
  by_cases z : x < 0
  · exact br_t z (br_t rfl k)
  · exact br_f z (br_t (h.resolve_left z) (br_t rfl k))
theorem ac_xp1 (h : n < 6) (k : B) : wpX_isPerson (fun r => (r = 0 → A) ∧ (¬ r = 0 → B)) (nI n) := br_f (nI_pos (by omega)) (br_f (nI_ge (b := 6) h (by decide)) (br_f ac_10 k))
theorem ac_xp0 (h : ac_out 6 x) (k : A) : wpX_isPerson (fun r => (r = 0 → A) ∧ (¬ r = 0 → B)) x := by
  by_cases z : x < 0
  · exact br_t z (br_t rfl k)
  · exact br_f z (br_t (h.resolve_left z) (br_t rfl k))
theorem ac_xr1 (h : n < 4) (k : B) : wpX_isRight (fun r => (r = 0 → A) ∧ (¬ r = 0 → B)) (nI n) := br_f (nI_pos (by omega)) (br_f (nI_ge (b := 4) h (by decide)) (br_f ac_10 k))
theorem ac_xr0 (h : ac_out 4 x) (k : A) : wpX_isRight (fun r => (r = 0 → A) ∧ (¬ r = 0 → B)) x := by
  by_cases z : x < 0
  · exact br_t z (br_t rfl k)
  · exact br_f z (br_t (h.resolve_left z) (br_t rfl k))
theorem ac_xm1 (h0 : 0 < n) (h : n < 16) (k : B) : wpX_isMovable (fun r => (r = 0 → A) ∧ (¬ r = 0 → B)) (nI n) := br_f (nI_nle h0 (by omega)) (br_f (nI_ge (b := 16) h (by decide)) (br_f ac_10 k))
theorem ac_xm0 (h : ac_out 16 x ∨ x = 0) (k : A) : wpX_isMovable (fun r => (r = 0 → A) ∧ (¬ r = 0 → B)) x := by
  by_cases z : x ≤ 0
  · exact br_t z (br_t rfl k)
  · refine br_f z (br_t ?_ (br_t rfl k))
    rcases h with (h | h) | h
    · exact absurd (ac_ltle h) z
    · exact h
    · exact absurd (by rw [h]; exact Int32.le_refl 0) z
theorem ac_xg1 (h6 : 6 ≤ n) (h : n < 8) (k : B) : wpX_isGroup (fun r => (r = 0 → A) ∧ (¬ r = 0 → B)) (nI n) := br_f (nI_nlt (b := 6) h6 (by omega)) (br_f (nI_ge (b := 8) h (by decide)) (br_f ac_10 k))
theorem ac_xg0 (h : x < 6 ∨ nI 8 ≤ x) (k : A) : wpX_isGroup (fun r => (r = 0 → A) ∧ (¬ r = 0 → B)) x := by
  by_cases z : x < 6
  · exact br_t z (br_t rfl k)
  · exact br_f z (br_t (h.resolve_left z) (br_t rfl k))
theorem ac_xh (hn : n < 32) (k : post (ac_b (bt x n))) : wpX_has post x (nI n) := by
  unfold wpX_has
  rw [ac_bit x hn]
  cases e : bt x n
  · rw [e] at k; exact br_t rfl k
  · rw [e] at k; exact br_f ac_10 k
theorem ac_xh1 (hb : bt x n = true) (hn : n < 32) (k : B) : wpX_has (fun r => (r = 0 → A) ∧ (¬ r = 0 → B)) x (nI n) := ac_xh hn (by rw [hb]; exact br_f ac_10 k)
theorem ac_xh0 (hb : bt x n = false) (hn : n < 32) (k : A) : wpX_has (fun r => (r = 0 → A) ∧ (¬ r = 0 → B)) x (nI n) := ac_xh hn (by rw [hb]; exact br_t rfl k)
theorem ac_xw1 (k : post (x ||| ((1 : Int32) <<< (y &&& 31)))) : wpX_with post x y 1 := nm_e (br_f ac_10 k)
theorem ac_xw0 (k : post (x &&& (((1 : Int32) <<< (y &&& 31)) ^^^ (-1)))) : wpX_with post x y 0 := nm_e (br_t rfl k)
theorem ac_yo1 (h : n < 16) (k : B) : wpY_isObject (fun r => (r = 0 → A) ∧ (¬ r = 0 → B)) u (nI n) := br_f (nI_pos (by omega)) (br_f (nI_nlt (a := 15) (by omega) (by decide)) (br_f ac_10 k))
theorem ac_yo0 (h : ac_out 16 x) (k : A) : wpY_isObject (fun r => (r = 0 → A) ∧ (¬ r = 0 → B)) u x := by
  by_cases z : x < 0
  · exact br_t z (br_t rfl k)
  · exact br_f z (br_t (ac_lel (N := 15) (by decide) (h.resolve_left z)) (br_t rfl k))
theorem ac_yp1 (h : n < 6) (k : B) : wpY_isPerson (fun r => (r = 0 → A) ∧ (¬ r = 0 → B)) u (nI n) := br_f (nI_pos (by omega)) (br_f (nI_nlt (a := 5) (by omega) (by decide)) (br_f ac_10 k))
theorem ac_yp0 (h : ac_out 6 x) (k : A) : wpY_isPerson (fun r => (r = 0 → A) ∧ (¬ r = 0 → B)) u x := by
  by_cases z : x < 0
  · exact br_t z (br_t rfl k)
  · exact br_f z (br_t (ac_lel (N := 5) (by decide) (h.resolve_left z)) (br_t rfl k))
theorem ac_yr1 (h : n < 4) (k : B) : wpY_isRight (fun r => (r = 0 → A) ∧ (¬ r = 0 → B)) u (nI n) := br_f (nI_pos (by omega)) (br_f (nI_nlt (a := 3) (by omega) (by decide)) (br_f ac_10 k))
theorem ac_yr0 (h : ac_out 4 x) (k : A) : wpY_isRight (fun r => (r = 0 → A) ∧ (¬ r = 0 → B)) u x := by
  by_cases z : x < 0
  · exact br_t z (br_t rfl k)
  · exact br_f z (br_t (ac_lel (N := 3) (by decide) (h.resolve_left z)) (br_t rfl k))
end
section
variable {A B : Prop} {s : Nat → Bool} {f : Nat → Nat} {n a N : Nat}
/-- a branch on a boolean of an array, on a natural of one -/
theorem ac_bs1 (hn : n < 2 ^ 31) (h : s n = true) (k : B) : (ac_b (s (nI n).toNatClampNeg) = 0 → A) ∧ (¬ ac_b (s (nI n).toNatClampNeg) = 0 → B) := by
  rw [nI_clamp hn, h]; exact br_f ac_10 k
theorem ac_bs0 (hn : n < 2 ^ 31) (h : s n = false) (k : A) : (ac_b (s (nI n).toNatClampNeg) = 0 → A) ∧ (¬ ac_b (s (nI n).toNatClampNeg) = 0 → B) := by
  rw [nI_clamp hn, h]; exact br_t rfl k
theorem ac_bn1 (hn : n < 2 ^ 31) (hf : f n < 2 ^ 31) (ha : a < 2 ^ 31) (k1 : f n = a → A) (k0 : f n ≠ a → B) : (nI (f (nI n).toNatClampNeg) = nI a → A) ∧ (¬ nI (f (nI n).toNatClampNeg) = nI a → B) := by
  rw [nI_clamp hn, nI_eq hf ha]; exact ⟨k1, k0⟩
end
theorem ac_4 (o : Nat) : 4 * nI o = nI (4 * o) := pk_mul 4 o
end
section
/-! N: X's walks -/
theorem ac_an_k0 {post : Int32 → Prop} {q : Nat → Bool} {i d : Nat} (k : post (ac_b (ac_an q i (d + 1)))) (z : q i = false) : post (ac_b (ac_an q (i + 1) d)) := by
  rw [ac_an_s, z, Bool.false_or] at k; exact k
theorem ac_an_k1 {post : Int32 → Prop} {q : Nat → Bool} {i d : Nat} (k : post (ac_b (ac_an q i (d + 1)))) (z : q i = true) : post 1 := by
  rw [ac_an_s, z, Bool.true_or] at k; exact k
theorem ac_fo_k0 {post : Int32 → Prop} {q : Nat → Bool} {r : Nat → Nat} {i d : Nat} {v : Int32} (k : post (ac_fo q r i (d + 1) v)) (z : q i = false) : post (ac_fo q r (i + 1) d v) := by
  have e : ac_fo q r i (d + 1) v = ac_fo q r (i + 1) d (if q i then v ||| nI (r i) else v) := rfl
  rw [e, z] at k; exact k
theorem ac_fo_k1 {post : Int32 → Prop} {q : Nat → Bool} {r : Nat → Nat} {i d : Nat} {v : Int32} (k : post (ac_fo q r i (d + 1) v)) (z : q i = true) : post (ac_fo q r (i + 1) d (v ||| nI (r i))) := by
  have e : ac_fo q r i (d + 1) v = ac_fo q r (i + 1) d (if q i then v ||| nI (r i) else v) := rfl
  rw [e, z] at k; exact k
theorem ac_at (f : Nat → Nat) {n : Nat} (h : n < 2 ^ 31) : nI (f (nI n).toNatClampNeg) = nI (f n) := by rw [nI_clamp h]
theorem ac_it_z {f : Nat → Nat} (f0 : f 0 = 0) : ∀ n, ac_it f n 0 = 0 := by
  intro n
  induction n with
  | zero => rfl
  | succ n ih => show ac_it f n (f 0) = 0; rw [f0]; exact ih
def ac_ab (f : Nat → Nat) (t : Nat) : Nat → Nat → Bool
  | 0, _ => false
  | n + 1, x => if x = t then true else if x = 0 then false else ac_ab f t n (f x)
theorem ac_ab_s {f : Nat → Nat} {t n x : Nat} : ac_ab f t (n + 1) x = if x = t then true else if x = 0 then false else ac_ab f t n (f x) := rfl
theorem ac_ab_f {f : Nat → Nat} {t : Nat} (h0 : t ≠ 0) (f0 : f 0 = 0) : ∀ n x, ac_ab f t n x = false → ∀ i, i < n → ac_it f i x ≠ t := by
  intro n
  induction n with
  | zero => intro x _ i hi; omega
  | succ n ih =>
    intro x h i hi
    rw [ac_ab_s] at h
    by_cases e : x = t
    · rw [if_pos e] at h; cases h
    · rw [if_neg e] at h
      cases i with
      | zero => exact e
      | succ i =>
        show ac_it f i (f x) ≠ t
        by_cases z : x = 0
        · subst z; rw [f0, ac_it_z f0]; exact Ne.symm h0
        · rw [if_neg z] at h
          exact ih (f x) h i (by omega)
section
variable {post : Int32 → Prop} {s l l' : Nat → Bool} {f c w r m : Nat → Nat} {ST CL CS : Int32} {cv : Nat → Int32}
theorem ac_x_pa_l (hs : ∀ o, o < 16 → bt ST o = s o) (fr : ∀ o, f o < 16) {o : Nat} (ho : o < 16) : ∀ d i n, i + d = 16 → d < n → post (ac_b (ac_an (fun x => s x && decide (f x = o)) i d)) → wX_isParent_2 post (nI o) ST CL (fun zz => nI (f zz)) cv (fun zz => nI (c zz)) (fun zz => nI (w zz)) (fun zz => nI (r zz)) (fun zz => nI (m zz)) n (nI i) := by
  intro d
  induction d with
  | zero =>
    intro i n hi hn k
    obtain ⟨n, rfl⟩ : ∃ n', n = n' + 1 := ⟨n - 1, by omega⟩
    exact br_t (nI_le (a := 16) (by omega) (by omega)) k
  | succ d ih =>
    intro i n hi hn k
    obtain ⟨n, rfl⟩ : ∃ n', n = n' + 1 := ⟨n - 1, by omega⟩
    refine br_f (nI_ge (b := 16) (by omega) (by decide)) (ac_xh (by omega) ?_)
    rw [hs i (by omega)]
    cases e : s i
    · exact br_t rfl (nm_r (nI_1 i) (ih (i + 1) n (by omega) (by omega) (ac_an_k0 k (by simp [e]))))
    · exact br_f ac_10 ⟨vp_in_nI (by omega) (by decide), ac_bn1 (f := f) (by omega) (Nat.lt_trans (fr i) (by decide)) (by omega) (fun z => ac_an_k1 k (by simp [e, z])) (fun z => nm_r (nI_1 i) (ih (i + 1) n (by omega) (by omega) (ac_an_k0 k (by simp [z]))))⟩
theorem ac_x_pa (hs : ∀ o, o < 16 → bt ST o = s o) (fr : ∀ o, f o < 16) {o : Nat} (ho : o < 16) (k : post (ac_b (ac_an (fun x => s x && decide (f x = o)) 1 15))) : wpX_isParent post (ST, CL, (fun zz => nI (f zz)), cv, (fun zz => nI (c zz)), (fun zz => nI (w zz)), (fun zz => nI (r zz)), (fun zz => nI (m zz))) (nI o) :=
  ⟨16, ac_x_pa_l hs fr ho 15 1 16 rfl (by omega) k⟩
theorem ac_x_ab_l (fr : ∀ o, f o < 16) {t : Nat} (ht : t < 16) : ∀ d i n x, i + d = 16 → d < n → x < 16 → post (ac_b (ac_ab f t d x)) → wX_isAtOrBelow_5 post (nI t) ST CL (fun zz => nI (f zz)) cv (fun zz => nI (c zz)) (fun zz => nI (w zz)) (fun zz => nI (r zz)) (fun zz => nI (m zz)) n (nI x) (nI i) := by
  intro d
  induction d with
  | zero =>
    intro i n x hi hn hx k
    obtain ⟨n, rfl⟩ : ∃ n', n = n' + 1 := ⟨n - 1, by omega⟩
    exact br_t (nI_le (a := 16) (by omega) (by omega)) k
  | succ d ih =>
    intro i n x hi hn hx k
    obtain ⟨n, rfl⟩ : ∃ n', n = n' + 1 := ⟨n - 1, by omega⟩
    refine br_f (nI_ge (b := 16) (by omega) (by decide)) ?_
    rw [ac_ab_s] at k
    by_cases e : x = t
    · subst e
      rw [if_pos rfl] at k
      exact br_t rfl k
    · rw [if_neg e] at k
      refine br_f (fun h => e ((nI_eq (by omega) (by omega)).mp h)) ?_
      by_cases z : x = 0
      · subst z
        rw [if_pos rfl] at k
        exact br_t nI_0 k
      · rw [if_neg z] at k
        exact br_f (nI_ne0 (by omega) (by omega)) ⟨vp_in_nI hx (by decide), nm_r (ac_at f (by omega)) (nm_r (nI_1 i) (ih (i + 1) n (f x) (by omega) (by omega) (fr x) k))⟩
theorem ac_x_ab (fr : ∀ o, f o < 16) {t x : Nat} (ht : t < 16) (hx : x < 16) (k : post (ac_b (ac_ab f t 16 x))) : wpX_isAtOrBelow post (ST, CL, (fun zz => nI (f zz)), cv, (fun zz => nI (c zz)), (fun zz => nI (w zz)), (fun zz => nI (r zz)), (fun zz => nI (m zz))) (nI x) (nI t) :=
  ⟨17, ac_x_ab_l fr ht 16 0 17 x rfl (by omega) hx k⟩
theorem ac_x_rn_l (hw : ∀ j, w j < 8) {p E : Nat} (hp : p < 32) (hE : E ≤ 64) {mask wanted : Int32} : ∀ d i n v, i + d = E → d < n → post (ac_fo (fun j => decide (nI (m j) &&& mask = wanted) && ac_co w cv p j) r i d v) → wX_rightsNamed_20 post (nI p) mask wanted (nI E) ST CL (fun zz => nI (f zz)) cv (fun zz => nI (c zz)) (fun zz => nI (w zz)) (fun zz => nI (r zz)) (fun zz => nI (m zz)) n v (nI i) := by
  intro d
  induction d with
  | zero =>
    intro i n v hi hn k
    obtain ⟨n, rfl⟩ : ∃ n', n = n' + 1 := ⟨n - 1, by omega⟩
    exact br_t (nI_le (by omega) (by omega)) k
  | succ d ih =>
    intro i n v hi hn k
    obtain ⟨n, rfl⟩ : ∃ n', n = n' + 1 := ⟨n - 1, by omega⟩
    have hwi := hw i
    refine br_f (nI_ge (by omega) (by omega)) ⟨vp_in_nI (by omega) (by decide), ?_⟩
    simp only [nI_clamp (show i < 2 ^ 31 by omega), nI_clamp (show w i < 2 ^ 31 by omega)]
    by_cases e : nI (m i) &&& mask = wanted
    · refine br_t e ⟨vp_in_nI (by omega) (by decide), vp_in_nI hwi (by decide), ac_xh hp ?_⟩
      cases h : bt (cv (w i)) p
      · exact br_t rfl (nm_r (nI_1 i) (ih (i + 1) n v (by omega) (by omega) (ac_fo_k0 k (by simp [ac_co, h]))))
      · exact br_f ac_10 ⟨vp_in_nI (by omega) (by decide), nm_e (nm_r (nI_1 i) (ih (i + 1) n (v ||| nI (r i)) (by omega) (by omega) (ac_fo_k1 k (by simp [ac_co, h, e]))))⟩
    · exact br_f e (nm_r (nI_1 i) (ih (i + 1) n v (by omega) (by omega) (ac_fo_k0 k (by simp [e]))))
theorem ac_x_rn (hc : ∀ o, c o < 5) (hw : ∀ j, w j < 8) {o p : Nat} (ho : o < 16) (hp : p < 32) {mask wanted : Int32} (k : post (ac_rn c w r m cv p mask wanted o)) : wpX_rightsNamed post (ST, CL, (fun zz => nI (f zz)), cv, (fun zz => nI (c zz)), (fun zz => nI (w zz)), (fun zz => nI (r zz)), (fun zz => nI (m zz))) (nI o) (nI p) mask wanted := by
  have hco := hc o
  have e : 4 * nI o + nI (c (nI o).toNatClampNeg) = nI (4 * o + c o) := by rw [nI_clamp (by omega), ac_4, nI_add]
  exact ⟨vp_in_nI ho (by decide), nm_r e (nm_r (ac_4 o) ⟨c o + 1, ac_x_rn_l hw hp (by omega) (c o) (4 * o) (c o + 1) 0 rfl (by omega) k⟩)⟩
theorem ac_x_rc_l (hc : ∀ o, c o < 5) (hw : ∀ j, w j < 8) (fr : ∀ o, f o < 16) {p : Nat} (hp : p < 32) (hl : ∀ o, o < 16 → bt CS o = l o) : ∀ d t n x al de, t + d = 16 → d < n → x < 16 → post (ac_xw (fun s x => ac_rn c w r m cv p (ac_mk s ||| 8) (ac_wn s) x) (fun s x => ac_rn c w r m cv p (ac_mk s ||| 8) (ac_wn s ||| 8) x) (ac_sp l) f d t x al de) → wX_rightsIfClosed_18 post (nI p) CS ST CL (fun zz => nI (f zz)) cv (fun zz => nI (c zz)) (fun zz => nI (w zz)) (fun zz => nI (r zz)) (fun zz => nI (m zz)) n al de (nI x) (ac_mk t) (ac_wn t) (nI t) := by
  intro d
  induction d with
  | zero =>
    intro t n x al de hi hn hx k
    obtain ⟨n, rfl⟩ : ∃ n', n = n' + 1 := ⟨n - 1, by omega⟩
    exact br_t (nI_le (a := 16) (by omega) (by omega)) k
  | succ d ih =>
    intro t n x al de hi hn hx k
    obtain ⟨n, rfl⟩ : ∃ n', n = n' + 1 := ⟨n - 1, by omega⟩
    rw [ac_xw_s] at k
    refine br_f (nI_ge (b := 16) (by omega) (by decide)) (ac_x_rn hc hw hx hp (ac_x_rn hc hw hx hp (nm_e (nm_e ?_))))
    by_cases z : x = 0
    · subst z
      rw [if_pos (show ac_sp l 0 = true from rfl)] at k
      exact br_t nI_0 k
    · refine br_f (nI_ne0 (by omega) (by omega)) (ac_xh (by omega) ?_)
      rw [hl x hx]
      cases e : l x
      · rw [if_neg (by simp [ac_sp, z, e])] at k
        have K := ih (t + 1) n (f x) _ _ (by omega) (by omega) (fr x) k
        refine br_t rfl ⟨vp_in_nI hx (by decide), nm_r (ac_at f (by omega)) ?_⟩
        by_cases t0 : t = 0
        · subst t0
          exact br_t nI_0 (nm_r (nI_1 0) K)
        · have e1 : ac_mk (t + 1) = 5 := by unfold ac_mk; rw [if_neg (by omega), if_neg (by omega)]
          have e2 : ac_wn (t + 1) = 1 := by unfold ac_wn; rw [if_neg (by omega)]
          rw [e1, e2] at K
          exact br_f (nI_ne0 (by omega) (by omega)) (nm_r (nI_1 t) K)
      · rw [if_pos (by simp [ac_sp, e])] at k
        exact br_f ac_10 k
theorem ac_x_rc (hc : ∀ o, c o < 5) (hw : ∀ j, w j < 8) (fr : ∀ o, f o < 16) (hl : ∀ o, o < 16 → bt CS o = l o) {o p : Nat} (ho : o < 16) (hp : p < 32) (k : post (ac_rs f c w r m cv l p o)) : wpX_rightsIfClosed post (ST, CL, (fun zz => nI (f zz)), cv, (fun zz => nI (c zz)), (fun zz => nI (w zz)), (fun zz => nI (r zz)), (fun zz => nI (m zz))) (nI o) (nI p) CS :=
  ⟨17, ac_x_rc_l hc hw fr hp hl 16 0 17 o 0 0 rfl (by omega) ho k⟩
theorem ac_x_al (hm : ∀ j, m j < 16) (hc : ∀ o, c o < 5) (hw : ∀ j, w j < 8) (fr : ∀ o, f o < 16) (hl : ∀ o, o < 16 → bt CL o = l o) {o p b : Nat} (ho : o < 16) (hp : p < 32) (hb : b < 32) (k : post (ac_b (ac_al f c w r m cv l p b 16 o))) : wpX_isAllowed post (ST, CL, (fun zz => nI (f zz)), cv, (fun zz => nI (c zz)), (fun zz => nI (w zz)), (fun zz => nI (r zz)), (fun zz => nI (m zz))) (nI o) (nI p) (nI b) := by
  unfold wpX_isAllowed
  refine ac_x_rc hc hw fr hl ho hp (ac_xh hb ?_)
  rw [ac_rs_b hm l p o hb]
  exact ⟨ac_bn _, k⟩
theorem ac_x_who_l (hm : ∀ j, m j < 16) (hc : ∀ o, c o < 5) (hw : ∀ j, w j < 8) (fr : ∀ o, f o < 16) (hl : ∀ o, o < 16 → bt CL o = l o) {o b : Nat} (ho : o < 16) (hb : b < 32) (k : post (ac_set (fun p => ac_al f c w r m cv l p b 16 o) 6)) : ∀ d i n, i + d = 6 → d < n → wX_who_35 post (nI o) (nI b) ST CL (fun zz => nI (f zz)) cv (fun zz => nI (c zz)) (fun zz => nI (w zz)) (fun zz => nI (r zz)) (fun zz => nI (m zz)) n (ac_set (fun p => ac_al f c w r m cv l p b 16 o) i) (nI i) := by
  intro d
  induction d with
  | zero =>
    intro i n hi hn
    obtain ⟨n, rfl⟩ : ∃ n', n = n' + 1 := ⟨n - 1, by omega⟩
    have e : i = 6 := by omega
    subst e
    exact br_t (nI_le (a := 6) (by omega) (by omega)) k
  | succ d ih =>
    intro i n hi hn
    obtain ⟨n, rfl⟩ : ∃ n', n = n' + 1 := ⟨n - 1, by omega⟩
    have K := ih (i + 1) n (by omega) (by omega)
    rw [ac_set_s] at K
    refine br_f (nI_ge (b := 6) (by omega) (by decide)) (ac_x_al hm hc hw fr hl ho (by omega) hb ?_)
    cases e : ac_al f c w r m cv l i b 16 o
    · rw [if_neg (by rw [e]; decide)] at K
      exact br_t rfl (nm_r (nI_1 i) K)
    · rw [if_pos e] at K
      exact br_f ac_10 (ac_xw1 (nm_r (nI_1 i) K))
theorem ac_x_cnt_l (hs : ∀ o, o < 16 → bt ST o = s o) (hm : ∀ j, m j < 16) (hc : ∀ o, c o < 5) (hw : ∀ j, w j < 8) (fr : ∀ o, f o < 16) (hl : ∀ o, o < 16 → bt CL o = l o) {p b : Nat} (hp : p < 32) (hb : b < 32) (k : post (nI (ac_cn (fun o => s o && ac_al f c w r m cv l p b 16 o) 16))) : ∀ d i n, i + d = 16 → d < n → wX_count_21 post (nI p) (nI b) ST CL (fun zz => nI (f zz)) cv (fun zz => nI (c zz)) (fun zz => nI (w zz)) (fun zz => nI (r zz)) (fun zz => nI (m zz)) n (nI (ac_cn (fun o => s o && ac_al f c w r m cv l p b 16 o) i)) (nI i) := by
  intro d
  induction d with
  | zero =>
    intro i n hi hn
    obtain ⟨n, rfl⟩ : ∃ n', n = n' + 1 := ⟨n - 1, by omega⟩
    have e : i = 16 := by omega
    subst e
    exact br_t (nI_le (a := 16) (by omega) (by omega)) k
  | succ d ih =>
    intro i n hi hn
    obtain ⟨n, rfl⟩ : ∃ n', n = n' + 1 := ⟨n - 1, by omega⟩
    have K := ih (i + 1) n (by omega) (by omega)
    refine br_f (nI_ge (b := 16) (by omega) (by decide)) (ac_xh (by omega) ?_)
    rw [hs i (by omega)]
    cases e : s i
    · rw [ac_cn_f (by simp [e])] at K
      exact br_t rfl (nm_r (nI_1 i) K)
    · refine br_f ac_10 (ac_x_al hm hc hw fr hl (by omega) hp hb ?_)
      cases e2 : ac_al f c w r m cv l p b 16 i
      · rw [ac_cn_f (by simp [e2])] at K
        exact br_t rfl (nm_r (nI_1 i) K)
      · rw [ac_cn_t (by simp [e, e2])] at K
        exact br_f ac_10 (nm_r (nI_1 _) (nm_r (nI_1 i) K))
theorem ac_x_go_l (hm : ∀ j, m j < 16) (hc : ∀ o, c o < 5) (hw : ∀ j, w j < 8) (fr : ∀ o, f o < 16) (hl : ∀ o, o < 16 → bt CL o = l o) {p : Nat} (hp : p < 32) : ∀ d i n x, i + d = 16 → d < n → x < 16 → post (ac_b (ac_gx (fun x => ac_al f c w r m cv l p 0 16 x) f d x)) → wX_canGoTo_5 post (nI p) ST CL (fun zz => nI (f zz)) cv (fun zz => nI (c zz)) (fun zz => nI (w zz)) (fun zz => nI (r zz)) (fun zz => nI (m zz)) n (nI x) (nI i) := by
  intro d
  induction d with
  | zero =>
    intro i n x hi hn hx k
    obtain ⟨n, rfl⟩ : ∃ n', n = n' + 1 := ⟨n - 1, by omega⟩
    exact br_t (nI_le (a := 16) (by omega) (by omega)) k
  | succ d ih =>
    intro i n x hi hn hx k
    obtain ⟨n, rfl⟩ : ∃ n', n = n' + 1 := ⟨n - 1, by omega⟩
    rw [ac_gx_s] at k
    refine br_f (nI_ge (b := 16) (by omega) (by decide)) (ac_x_al (b := 0) hm hc hw fr hl hx hp (by omega) ?_)
    cases e : ac_al f c w r m cv l p 0 16 x
    · rw [if_neg (by rw [e]; decide)] at k
      exact br_t rfl k
    · rw [if_pos e] at k
      refine br_f ac_10 ?_
      by_cases z : x = 0
      · subst z
        rw [if_pos rfl] at k
        exact br_t nI_0 k
      · rw [if_neg z] at k
        exact br_f (nI_ne0 (by omega) (by omega)) ⟨vp_in_nI hx (by decide), nm_r (ac_at f (by omega)) (nm_r (nI_1 i) (ih (i + 1) n (f x) (by omega) (by omega) (fr x) k))⟩
theorem ac_x_go (hm : ∀ j, m j < 16) (hc : ∀ o, c o < 5) (hw : ∀ j, w j < 8) (fr : ∀ o, f o < 16) (hl : ∀ o, o < 16 → bt CL o = l o) {x p : Nat} (hx : x < 16) (hp : p < 32) (k : post (ac_b (ac_gx (fun x => ac_al f c w r m cv l p 0 16 x) f 16 x))) : wpX_canGoTo post (ST, CL, (fun zz => nI (f zz)), cv, (fun zz => nI (c zz)), (fun zz => nI (w zz)), (fun zz => nI (r zz)), (fun zz => nI (m zz))) (nI x) (nI p) :=
  ⟨17, ac_x_go_l hm hc hw fr hl hp 16 0 17 x rfl (by omega) hx k⟩
theorem ac_x_rea_l (hs : ∀ o, o < 16 → bt ST o = s o) (hm : ∀ j, m j < 16) (hc : ∀ o, c o < 5) (hw : ∀ j, w j < 8) (fr : ∀ o, f o < 16) (hl : ∀ o, o < 16 → bt CL o = l o) {p : Nat} (hp : p < 32) (k : post (nI (ac_cn (fun o => s o && ac_gx (fun x => ac_al f c w r m cv l p 0 16 x) f 16 o) 16))) : ∀ d i n, i + d = 16 → d < n → wX_reach_13 post (nI p) ST CL (fun zz => nI (f zz)) cv (fun zz => nI (c zz)) (fun zz => nI (w zz)) (fun zz => nI (r zz)) (fun zz => nI (m zz)) n (nI (ac_cn (fun o => s o && ac_gx (fun x => ac_al f c w r m cv l p 0 16 x) f 16 o) i)) (nI i) := by
  intro d
  induction d with
  | zero =>
    intro i n hi hn
    obtain ⟨n, rfl⟩ : ∃ n', n = n' + 1 := ⟨n - 1, by omega⟩
    have e : i = 16 := by omega
    subst e
    exact br_t (nI_le (a := 16) (by omega) (by omega)) k
  | succ d ih =>
    intro i n hi hn
    obtain ⟨n, rfl⟩ : ∃ n', n = n' + 1 := ⟨n - 1, by omega⟩
    have K := ih (i + 1) n (by omega) (by omega)
    refine br_f (nI_ge (b := 16) (by omega) (by decide)) (ac_xh (by omega) ?_)
    rw [hs i (by omega)]
    cases e : s i
    · rw [ac_cn_f (by simp [e])] at K
      exact br_t rfl (nm_r (nI_1 i) K)
    · refine br_f ac_10 (ac_x_go hm hc hw fr hl (by omega) hp ?_)
      cases e2 : ac_gx (fun x => ac_al f c w r m cv l p 0 16 x) f 16 i
      · rw [ac_cn_f (by simp [e2])] at K
        exact br_t rfl (nm_r (nI_1 i) K)
      · rw [ac_cn_t (by simp [e, e2])] at K
        exact br_f ac_10 (nm_r (nI_1 _) (nm_r (nI_1 i) K))
theorem ac_x_ps_l (hc : ∀ o, c o < 5) (hw : ∀ j, w j < 8) (fr : ∀ o, f o < 16) (hl : ∀ o, o < 16 → bt CL o = l o) (hl' : ∀ o, o < 16 → bt CS o = l' o) {o : Nat} (ho : o < 16) (k : post (nI (ac_cn (fun p => !decide (ac_rs f c w r m cv l p o = ac_rs f c w r m cv l' p o)) 6))) : ∀ d i n, i + d = 6 → d < n → wX_personsStirred_5 post (nI o) CS ST CL (fun zz => nI (f zz)) cv (fun zz => nI (c zz)) (fun zz => nI (w zz)) (fun zz => nI (r zz)) (fun zz => nI (m zz)) n (nI (ac_cn (fun p => !decide (ac_rs f c w r m cv l p o = ac_rs f c w r m cv l' p o)) i)) (nI i) := by
  intro d
  induction d with
  | zero =>
    intro i n hi hn
    obtain ⟨n, rfl⟩ : ∃ n', n = n' + 1 := ⟨n - 1, by omega⟩
    have e : i = 6 := by omega
    subst e
    exact br_t (nI_le (a := 6) (by omega) (by omega)) k
  | succ d ih =>
    intro i n hi hn
    obtain ⟨n, rfl⟩ : ∃ n', n = n' + 1 := ⟨n - 1, by omega⟩
    have K := ih (i + 1) n (by omega) (by omega)
    refine br_f (nI_ge (b := 6) (by omega) (by decide)) (ac_x_rc hc hw fr hl ho (by omega) (ac_x_rc hc hw fr hl' ho (by omega) ?_))
    by_cases e : ac_rs f c w r m cv l i o = ac_rs f c w r m cv l' i o
    · rw [ac_cn_f (by simp [e])] at K
      exact br_t e (nm_r (nI_1 i) K)
    · rw [ac_cn_t (by simp [e])] at K
      exact br_f e (nm_r (nI_1 _) (nm_r (nI_1 i) K))
theorem ac_x_ps (hc : ∀ o, c o < 5) (hw : ∀ j, w j < 8) (fr : ∀ o, f o < 16) (hl : ∀ o, o < 16 → bt CL o = l o) (hl' : ∀ o, o < 16 → bt CS o = l' o) {o : Nat} (ho : o < 16) (k : post (nI (ac_cn (fun p => !decide (ac_rs f c w r m cv l p o = ac_rs f c w r m cv l' p o)) 6))) : wpX_personsStirred post (ST, CL, (fun zz => nI (f zz)), cv, (fun zz => nI (c zz)), (fun zz => nI (w zz)), (fun zz => nI (r zz)), (fun zz => nI (m zz))) (nI o) CS :=
  ⟨7, ac_x_ps_l hc hw fr hl hl' ho k 6 0 7 rfl (by omega)⟩
theorem ac_x_st_l (hs : ∀ o, o < 16 → bt ST o = s o) (hc : ∀ o, c o < 5) (hw : ∀ j, w j < 8) (fr : ∀ o, f o < 16) (hl : ∀ o, o < 16 → bt CL o = l o) (hl' : ∀ o, o < 16 → bt CS o = l' o) (k : post (nI (ac_sm (fun o => if s o then ac_cn (fun p => !decide (ac_rs f c w r m cv l p o = ac_rs f c w r m cv l' p o)) 6 else 0) 16))) : ∀ d i n, i + d = 16 → d < n → wX_stir_37 post CS ST CL (fun zz => nI (f zz)) cv (fun zz => nI (c zz)) (fun zz => nI (w zz)) (fun zz => nI (r zz)) (fun zz => nI (m zz)) n (nI (ac_sm (fun o => if s o then ac_cn (fun p => !decide (ac_rs f c w r m cv l p o = ac_rs f c w r m cv l' p o)) 6 else 0) i)) (nI i) := by
  intro d
  induction d with
  | zero =>
    intro i n hi hn
    obtain ⟨n, rfl⟩ : ∃ n', n = n' + 1 := ⟨n - 1, by omega⟩
    have e : i = 16 := by omega
    subst e
    exact br_t (nI_le (a := 16) (by omega) (by omega)) k
  | succ d ih =>
    intro i n hi hn
    obtain ⟨n, rfl⟩ : ∃ n', n = n' + 1 := ⟨n - 1, by omega⟩
    have K := ih (i + 1) n (by omega) (by omega)
    have E : ∀ g : Nat → Nat, ac_sm g (i + 1) = ac_sm g i + g i := fun _ => rfl
    rw [E] at K
    refine br_f (nI_ge (b := 16) (by omega) (by decide)) (ac_xh (by omega) ?_)
    rw [hs i (by omega)]
    cases e : s i
    · simp only [e, Bool.false_eq_true, if_false, Nat.add_zero] at K
      exact br_t rfl (nm_r (nI_1 i) K)
    · simp only [e, if_true] at K
      exact br_f ac_10 (ac_x_ps hc hw fr hl hl' (by omega) (nm_r (nI_add _ _) (nm_r (nI_1 i) K)))
end
end
section
/-! O: Y's walks -/
def ac_li (m t : Nat) : Bool := if t = 0 then m / 2 % 2 == 0 else (m % 2 == 1 && (t == 1 || m / 4 % 2 == 0))
theorem ac_kd : ∀ k : Bool, ∀ m, m < 16 → (m / 8 == (if k then 1 else 0)) = decide (nI (m / 8) = ac_b k) := by decide +kernel
theorem ac_ls_e {m : Nat} (hm : m < 16) (t : Nat) (k : Bool) : ac_ls m t k = (decide (nI (m / 8) = ac_b k) && ac_li m t) := by
  rw [← ac_kd k m hm]; rfl
theorem ac_f2 : ∀ m, m < 16 → (nI (m % 8) &&& 2 = 0 ↔ (m / 2 % 2 == 0) = true) := by decide +kernel
theorem ac_f1 : ∀ m, m < 16 → (nI (m % 8) &&& 1 = 1 ↔ (m % 2 == 1) = true) := by decide +kernel
theorem ac_f4 : ∀ m, m < 16 → (nI (m % 8) &&& 4 = 0 ↔ (m / 4 % 2 == 0) = true) := by decide +kernel
def ac_C (cv mm : Nat → Int32) : Prop := cv 6 = mm 0 ∧ cv 7 = mm 1 ∧ ∀ w, w < 6 → ∀ p, p < 6 → bt (cv w) p = decide (w = p)
theorem ac_01 : ¬ (0 : Int32) = 1 := by decide
theorem ac_uB' (s : Nat → Bool) {o : Nat} (h : o < 2 ^ 31) (b : Bool) : upd (fun o => ac_b (s o)) (nI o).toNatClampNeg (vp_nar .boolean (ac_b b)) = fun x => ac_b (ac_up s o b x) := by
  rw [nI_clamp h, ac_bv, ac_uB]
theorem ac_uN' (f : Nat → Nat) {o : Nat} (h : o < 2 ^ 31) (v : Nat) : upd (fun o => nI (f o)) (nI o).toNatClampNeg (nI v) = fun x => nI (ac_up f o v x) := by
  rw [nI_clamp h, ac_uN]
section
variable {post : Int32 → Prop} {s l l' : Nat → Bool} {f c w r m : Nat → Nat} {cv mm be : Nat → Int32}
theorem ac_y_co (hcv : ac_C cv mm) {q p : Nat} (hq : q < 8) (hp : p < 6) (k : post (ac_b (bt (cv q) p))) : wpY_covers post ((fun zz => ac_b (s zz)), (fun zz => nI (f zz)), (fun zz => ac_b (l zz)), mm, (fun zz => nI (c zz)), (fun zz => nI (m zz / 8)), (fun zz => nI (w zz)), (fun zz => nI (r zz)), (fun zz => nI (m zz % 8)), be) (nI q) (nI p) := by
  unfold wpY_covers
  dsimp only
  by_cases h : 6 ≤ q
  · have e : nI q - 6 = nI (q - 6) := pk_sub (b := 6) h
    have key : mm (q - 6) = cv q := by
      rcases (show q = 6 ∨ q = 7 by omega) with z | z
      · subst z; exact hcv.1.symm
      · subst z; exact hcv.2.1.symm
    rw [e, nI_clamp (by omega), key, ac_bit _ (by omega)]
    refine br_t (nI_le (a := 6) h (by omega)) ⟨vp_in_nI (by omega) (by decide), ?_⟩
    cases z : bt (cv q) p
    · rw [z] at k; exact br_f ac_01 k
    · rw [z] at k; exact br_t rfl k
  · refine br_f (nI_ge (b := 6) (by omega) (by decide)) ?_
    rw [hcv.2.2 q (by omega) p hp] at k
    rw [nI_eq (by omega) (by omega)]
    by_cases z : q = p
    · rw [decide_eq_true z] at k; exact br_t z k
    · rw [decide_eq_false z] at k; exact br_f z k
theorem ac_y_li (hm : ∀ j, m j < 16) {i t : Nat} (hi : i < 64) (ht : t < 2 ^ 31) (k : post (ac_b (ac_li (m i) t))) : wpY_isListed post ((fun zz => ac_b (s zz)), (fun zz => nI (f zz)), (fun zz => ac_b (l zz)), mm, (fun zz => nI (c zz)), (fun zz => nI (m zz / 8)), (fun zz => nI (w zz)), (fun zz => nI (r zz)), (fun zz => nI (m zz % 8)), be) (nI i) (nI t) := by
  unfold wpY_isListed
  dsimp only
  rw [nI_clamp (by omega), ac_f2 _ (hm i), ac_f1 _ (hm i), ac_f4 _ (hm i)]
  unfold ac_li at k
  by_cases t0 : t = 0
  · subst t0
    rw [if_pos rfl] at k
    refine br_t nI_0 ⟨vp_in_nI hi (by decide), ?_⟩
    cases z : (m i / 2 % 2 == 0)
    · rw [z] at k; exact br_f (by decide) k
    · rw [z] at k; exact br_t rfl k
  · rw [if_neg t0] at k
    refine br_f (nI_ne0 (by omega) ht) ⟨vp_in_nI hi (by decide), ?_⟩
    cases z : (m i % 2 == 1)
    · rw [z] at k; exact br_f (by decide) k
    · rw [z, Bool.true_and] at k
      refine br_t rfl ?_
      by_cases t1 : t = 1
      · subst t1; exact br_t rfl k
      · have e1 : (t == 1) = false := by simp [t1]
        rw [e1, Bool.false_or] at k
        refine br_f (fun h => t1 ((nI_eq ht (by omega)).mp h)) ⟨vp_in_nI hi (by decide), ?_⟩
        cases z2 : (m i / 4 % 2 == 0)
        · rw [z2] at k; exact br_f (by decide) k
        · rw [z2] at k; exact br_t rfl k
theorem ac_y_se_l (hm : ∀ j, m j < 16) (hw : ∀ j, w j < 8) (hc : ∀ o, c o < 5) (hcv : ac_C cv mm) {x t p b : Nat} (hx : x < 16) (ht : t < 2 ^ 31) (hp : p < 6) (hb : b < 32) (k : Bool) : ∀ d i n, i + d = 4 * x + c x → d < n → post (ac_b (ac_an (fun j => (ac_ls (m j) t k && ac_co w cv p j) && bt (nI (r j)) b) i d)) → wY_someEntry_5 post (nI x) (nI t) (nI p) (nI b) (ac_b k) (fun zz => ac_b (s zz)) (fun zz => nI (f zz)) (fun zz => ac_b (l zz)) mm (fun zz => nI (c zz)) (fun zz => nI (m zz / 8)) (fun zz => nI (w zz)) (fun zz => nI (r zz)) (fun zz => nI (m zz % 8)) be n (nI i) := by
  have hcx := hc x
  have e : 4 * nI x + nI (c x) = nI (4 * x + c x) := by rw [ac_4, nI_add]
  intro d
  induction d with
  | zero =>
    intro i n hi hn kk
    obtain ⟨n, rfl⟩ : ∃ n', n = n' + 1 := ⟨n - 1, by omega⟩
    refine ⟨vp_in_nI hx (by decide), ?_⟩
    simp only [nI_clamp (show x < 2 ^ 31 by omega), e]
    exact br_t (nI_le (by omega) (by omega)) kk
  | succ d ih =>
    intro i n hi hn kk
    obtain ⟨n, rfl⟩ : ∃ n', n = n' + 1 := ⟨n - 1, by omega⟩
    have hwi := hw i
    have next : ((ac_ls (m i) t k && ac_co w cv p i) && bt (nI (r i)) b) = false → wY_someEntry_5 post (nI x) (nI t) (nI p) (nI b) (ac_b k) (fun zz => ac_b (s zz)) (fun zz => nI (f zz)) (fun zz => ac_b (l zz)) mm (fun zz => nI (c zz)) (fun zz => nI (m zz / 8)) (fun zz => nI (w zz)) (fun zz => nI (r zz)) (fun zz => nI (m zz % 8)) be n (nI (i + 1)) := fun z => ih (i + 1) n (by omega) (by omega) (ac_an_k0 kk z)
    have stop : ((ac_ls (m i) t k && ac_co w cv p i) && bt (nI (r i)) b) = true → post 1 := fun z => ac_an_k1 kk z
    rw [ac_ls_e (hm i)] at next stop
    refine ⟨vp_in_nI hx (by decide), ?_⟩
    simp only [nI_clamp (show x < 2 ^ 31 by omega), nI_clamp (show i < 2 ^ 31 by omega), e]
    refine br_f (nI_ge (by omega) (by omega)) ⟨vp_in_nI (by omega) (by decide), ?_⟩
    by_cases e1 : nI (m i / 8) = ac_b k
    · refine br_t e1 (ac_y_li hm (by omega) ht ?_)
      cases e2 : ac_li (m i) t
      · exact br_t rfl (nm_r (nI_1 i) (next (by simp [e2])))
      · refine br_f ac_10 ⟨vp_in_nI (by omega) (by decide), ac_y_co hcv hwi hp ?_⟩
        cases e3 : bt (cv (w i)) p
        · exact br_t rfl (nm_r (nI_1 i) (next (by simp [ac_co, e3])))
        · refine br_f ac_10 ⟨vp_in_nI (by omega) (by decide), ?_⟩
          rw [ac_bit _ hb]
          cases e4 : bt (nI (r i)) b
          · exact br_f ac_01 (nm_r (nI_1 i) (next (by simp [e4])))
          · exact br_t rfl (stop (by simp [e1, e2, e3, e4, ac_co]))
    · exact br_f e1 (nm_r (nI_1 i) (next (by simp [e1])))
theorem ac_y_se (hm : ∀ j, m j < 16) (hw : ∀ j, w j < 8) (hc : ∀ o, c o < 5) (hcv : ac_C cv mm) {x t p b : Nat} (hx : x < 16) (ht : t < 2 ^ 31) (hp : p < 6) (hb : b < 32) (k : Bool) (kk : post (ac_b (ac_se c w r m cv p b t k x))) : wpY_someEntry post ((fun zz => ac_b (s zz)), (fun zz => nI (f zz)), (fun zz => ac_b (l zz)), mm, (fun zz => nI (c zz)), (fun zz => nI (m zz / 8)), (fun zz => nI (w zz)), (fun zz => nI (r zz)), (fun zz => nI (m zz % 8)), be) (nI x) (nI t) (nI p) (nI b) (ac_b k) :=
  nm_r (ac_4 x) ⟨c x + 1, ac_y_se_l hm hw hc hcv hx ht hp hb k (c x) (4 * x) (c x + 1) rfl (by omega) kk⟩
theorem ac_y_al_l (hm : ∀ j, m j < 16) (hw : ∀ j, w j < 8) (hc : ∀ o, c o < 5) (fr : ∀ o, f o < 16) (hcv : ac_C cv mm) {p b : Nat} (hp : p < 6) (hb : b < 32) : ∀ d t n x, t + d = 17 → d < n → x < 16 → post (ac_b (ac_yw (fun s x => ac_se c w r m cv p b s false x) (fun s x => ac_se c w r m cv p b s true x) (ac_sp l) f d t x)) → wY_allowed_6 post (nI p) (nI b) (fun zz => ac_b (s zz)) (fun zz => nI (f zz)) (fun zz => ac_b (l zz)) mm (fun zz => nI (c zz)) (fun zz => nI (m zz / 8)) (fun zz => nI (w zz)) (fun zz => nI (r zz)) (fun zz => nI (m zz % 8)) be n (nI x) (nI t) := by
  intro d
  induction d with
  | zero =>
    intro t n x hi hn hx k
    obtain ⟨n, rfl⟩ : ∃ n', n = n' + 1 := ⟨n - 1, by omega⟩
    exact br_t (nI_le (a := 17) (by omega) (by omega)) k
  | succ d ih =>
    intro t n x hi hn hx k
    obtain ⟨n, rfl⟩ : ∃ n', n = n' + 1 := ⟨n - 1, by omega⟩
    rw [ac_yw_s] at k
    refine br_f (nI_ge (b := 17) (by omega) (by decide)) (ac_y_se hm hw hc hcv hx (by omega) hp hb false ?_)
    cases e1 : ac_se c w r m cv p b t false x
    · rw [if_neg (by rw [e1]; decide)] at k
      refine br_t rfl (ac_y_se hm hw hc hcv hx (by omega) hp hb true ?_)
      cases e2 : ac_se c w r m cv p b t true x
      · rw [if_neg (by rw [e2]; decide)] at k
        refine br_t rfl ?_
        by_cases z : x = 0
        · subst z
          rw [if_pos (show ac_sp l 0 = true from rfl)] at k
          exact br_t nI_0 k
        · refine br_f (nI_ne0 (by omega) (by omega)) ⟨vp_in_nI hx (by decide), ?_⟩
          cases e3 : l x
          · rw [if_neg (by simp [ac_sp, z, e3])] at k
            exact ac_bs0 (by omega) e3 ⟨vp_in_nI hx (by decide), nm_r (ac_at f (by omega)) (nm_r (nI_1 t) (ih (t + 1) n (f x) (by omega) (by omega) (fr x) k))⟩
          · rw [if_pos (by simp [ac_sp, e3])] at k
            exact ac_bs1 (by omega) e3 k
      · rw [if_pos e2] at k
        exact br_f ac_10 k
    · rw [if_pos e1] at k
      exact br_f ac_10 k
theorem ac_y_al (hm : ∀ j, m j < 16) (hw : ∀ j, w j < 8) (hc : ∀ o, c o < 5) (fr : ∀ o, f o < 16) (hcv : ac_C cv mm) {x p b : Nat} (hx : x < 16) (hp : p < 6) (hb : b < 32) (k : post (ac_b (ac_al f c w r m cv l p b 17 x))) : wpY_allowed post ((fun zz => ac_b (s zz)), (fun zz => nI (f zz)), (fun zz => ac_b (l zz)), mm, (fun zz => nI (c zz)), (fun zz => nI (m zz / 8)), (fun zz => nI (w zz)), (fun zz => nI (r zz)), (fun zz => nI (m zz % 8)), be) (nI x) (nI p) (nI b) :=
  ⟨18, ac_y_al_l hm hw hc fr hcv hp hb 17 0 18 x rfl (by omega) hx k⟩
theorem ac_y_rs_l (hm : ∀ j, m j < 16) (hw : ∀ j, w j < 8) (hc : ∀ o, c o < 5) (fr : ∀ o, f o < 16) (hcv : ac_C cv mm) {x p : Nat} (hx : x < 16) (hp : p < 6) (k : post (ac_set (fun b => ac_al f c w r m cv l p b 17 x) 4)) : ∀ d i n, i + d = 4 → d < n → wY_rights_35 post (nI x) (nI p) (fun zz => ac_b (s zz)) (fun zz => nI (f zz)) (fun zz => ac_b (l zz)) mm (fun zz => nI (c zz)) (fun zz => nI (m zz / 8)) (fun zz => nI (w zz)) (fun zz => nI (r zz)) (fun zz => nI (m zz % 8)) be n (ac_set (fun b => ac_al f c w r m cv l p b 17 x) i) (nI i) := by
  intro d
  induction d with
  | zero =>
    intro i n hi hn
    obtain ⟨n, rfl⟩ : ∃ n', n = n' + 1 := ⟨n - 1, by omega⟩
    have e : i = 4 := by omega
    subst e
    exact br_t (nI_le (a := 4) (by omega) (by omega)) k
  | succ d ih =>
    intro i n hi hn
    obtain ⟨n, rfl⟩ : ∃ n', n = n' + 1 := ⟨n - 1, by omega⟩
    have K := ih (i + 1) n (by omega) (by omega)
    rw [ac_set_s] at K
    refine br_f (nI_ge (b := 4) (by omega) (by decide)) (ac_y_al hm hw hc fr hcv hx hp (by omega) ?_)
    cases e : ac_al f c w r m cv l p i 17 x
    · rw [if_neg (by rw [e]; decide)] at K
      exact br_t rfl (nm_r (nI_1 i) K)
    · rw [if_pos e] at K
      exact br_f ac_10 (nm_e (nm_r (nI_1 i) K))
theorem ac_y_rs (hm : ∀ j, m j < 16) (hw : ∀ j, w j < 8) (hc : ∀ o, c o < 5) (fr : ∀ o, f o < 16) (hcv : ac_C cv mm) {x p : Nat} (hx : x < 16) (hp : p < 6) (k : post (if s x then ac_set (fun b => ac_al f c w r m cv l p b 17 x) 4 else -3)) : wpY_rights post ((fun zz => ac_b (s zz)), (fun zz => nI (f zz)), (fun zz => ac_b (l zz)), mm, (fun zz => nI (c zz)), (fun zz => nI (m zz / 8)), (fun zz => nI (w zz)), (fun zz => nI (r zz)), (fun zz => nI (m zz % 8)), be) (nI x) (nI p) := by
  unfold wpY_rights
  dsimp only
  refine ac_yo1 hx (ac_yp1 hp ⟨vp_in_nI hx (by decide), ?_⟩)
  cases e : s x
  · rw [if_neg (by rw [e]; decide)] at k
    exact ac_bs0 (by omega) e k
  · rw [if_pos e] at k
    exact ac_bs1 (by omega) e ⟨5, ac_y_rs_l hm hw hc fr hcv hx hp k 4 0 5 rfl (by omega)⟩
theorem ac_y_who_l (hm : ∀ j, m j < 16) (hw : ∀ j, w j < 8) (hc : ∀ o, c o < 5) (fr : ∀ o, f o < 16) (hcv : ac_C cv mm) {x b : Nat} (hx : x < 16) (hb : b < 32) (k : post (ac_set (fun p => ac_al f c w r m cv l p b 17 x) 6)) : ∀ d i n, i + d = 6 → d < n → wY_who_35 post (nI x) (nI b) (fun zz => ac_b (s zz)) (fun zz => nI (f zz)) (fun zz => ac_b (l zz)) mm (fun zz => nI (c zz)) (fun zz => nI (m zz / 8)) (fun zz => nI (w zz)) (fun zz => nI (r zz)) (fun zz => nI (m zz % 8)) be n (ac_set (fun p => ac_al f c w r m cv l p b 17 x) i) (nI i) := by
  intro d
  induction d with
  | zero =>
    intro i n hi hn
    obtain ⟨n, rfl⟩ : ∃ n', n = n' + 1 := ⟨n - 1, by omega⟩
    have e : i = 6 := by omega
    subst e
    exact br_t (nI_le (a := 6) (by omega) (by omega)) k
  | succ d ih =>
    intro i n hi hn
    obtain ⟨n, rfl⟩ : ∃ n', n = n' + 1 := ⟨n - 1, by omega⟩
    have K := ih (i + 1) n (by omega) (by omega)
    rw [ac_set_s] at K
    refine br_f (nI_ge (b := 6) (by omega) (by decide)) (ac_y_al hm hw hc fr hcv hx (by omega) hb ?_)
    cases e : ac_al f c w r m cv l i b 17 x
    · rw [if_neg (by rw [e]; decide)] at K
      exact br_t rfl (nm_r (nI_1 i) K)
    · rw [if_pos e] at K
      exact br_f ac_10 (nm_e (nm_r (nI_1 i) K))
theorem ac_y_cnt_l (hm : ∀ j, m j < 16) (hw : ∀ j, w j < 8) (hc : ∀ o, c o < 5) (fr : ∀ o, f o < 16) (hcv : ac_C cv mm) {p b : Nat} (hp : p < 6) (hb : b < 32) (k : post (nI (ac_cn (fun o => s o && ac_al f c w r m cv l p b 17 o) 16))) : ∀ d i n, i + d = 16 → d < n → wY_count_23 post (nI p) (nI b) (fun zz => ac_b (s zz)) (fun zz => nI (f zz)) (fun zz => ac_b (l zz)) mm (fun zz => nI (c zz)) (fun zz => nI (m zz / 8)) (fun zz => nI (w zz)) (fun zz => nI (r zz)) (fun zz => nI (m zz % 8)) be n (nI (ac_cn (fun o => s o && ac_al f c w r m cv l p b 17 o) i)) (nI i) := by
  intro d
  induction d with
  | zero =>
    intro i n hi hn
    obtain ⟨n, rfl⟩ : ∃ n', n = n' + 1 := ⟨n - 1, by omega⟩
    have e : i = 16 := by omega
    subst e
    exact br_t (nI_le (a := 16) (by omega) (by omega)) k
  | succ d ih =>
    intro i n hi hn
    obtain ⟨n, rfl⟩ : ∃ n', n = n' + 1 := ⟨n - 1, by omega⟩
    have K := ih (i + 1) n (by omega) (by omega)
    refine br_f (nI_ge (b := 16) (by omega) (by decide)) ⟨vp_in_nI (by omega) (by decide), ?_⟩
    cases e : s i
    · rw [ac_cn_f (by simp [e])] at K
      exact ac_bs0 (by omega) e (nm_r (nI_1 i) K)
    · refine ac_bs1 (by omega) e (ac_y_al hm hw hc fr hcv (by omega) hp hb ?_)
      cases e2 : ac_al f c w r m cv l p b 17 i
      · rw [ac_cn_f (by simp [e2])] at K
        exact br_t rfl (nm_r (nI_1 i) K)
      · rw [ac_cn_t (by simp [e, e2])] at K
        exact br_f ac_10 (nm_r (nI_1 _) (nm_r (nI_1 i) K))
theorem ac_y_go0 (hm : ∀ j, m j < 16) (hw : ∀ j, w j < 8) (hc : ∀ o, c o < 5) (fr : ∀ o, f o < 16) (hcv : ac_C cv mm) {p : Nat} (hp : p < 6) (k : post (ac_b (ac_al f c w r m cv l p 0 17 0))) : wY_canGo_41 post (nI p) (fun zz => ac_b (s zz)) (fun zz => nI (f zz)) (fun zz => ac_b (l zz)) mm (fun zz => nI (c zz)) (fun zz => nI (m zz / 8)) (fun zz => nI (w zz)) (fun zz => nI (r zz)) (fun zz => nI (m zz % 8)) be := by
  unfold wY_canGo_41
  exact ac_y_al (x := 0) (b := 0) hm hw hc fr hcv (by omega) hp (by omega) ⟨ac_bn _, k⟩
theorem ac_y_go_l (hm : ∀ j, m j < 16) (hw : ∀ j, w j < 8) (hc : ∀ o, c o < 5) (fr : ∀ o, f o < 16) (hcv : ac_C cv mm) {p : Nat} (hp : p < 6) : ∀ d i n x, i + d = 16 → d < n → x < 16 → post (ac_b (ac_gy (fun x => ac_al f c w r m cv l p 0 17 x) f d x)) → wY_canGo_5 post (nI p) (fun zz => ac_b (s zz)) (fun zz => nI (f zz)) (fun zz => ac_b (l zz)) mm (fun zz => nI (c zz)) (fun zz => nI (m zz / 8)) (fun zz => nI (w zz)) (fun zz => nI (r zz)) (fun zz => nI (m zz % 8)) be n (nI x) (nI i) := by
  intro d
  induction d with
  | zero =>
    intro i n x hi hn hx k
    obtain ⟨n, rfl⟩ : ∃ n', n = n' + 1 := ⟨n - 1, by omega⟩
    exact br_t (nI_le (a := 16) (by omega) (by omega)) (ac_y_go0 hm hw hc fr hcv hp k)
  | succ d ih =>
    intro i n x hi hn hx k
    obtain ⟨n, rfl⟩ : ∃ n', n = n' + 1 := ⟨n - 1, by omega⟩
    rw [ac_gy_s] at k
    refine br_f (nI_ge (b := 16) (by omega) (by decide)) ?_
    by_cases z : x = 0
    · subst z
      rw [if_pos rfl] at k
      exact br_t nI_0 (ac_y_go0 hm hw hc fr hcv hp k)
    · rw [if_neg z] at k
      refine br_f (nI_ne0 (by omega) (by omega)) (ac_y_al (b := 0) hm hw hc fr hcv hx hp (by omega) ?_)
      cases e : ac_al f c w r m cv l p 0 17 x
      · rw [if_neg (by rw [e]; decide)] at k
        exact br_t rfl k
      · rw [if_pos e] at k
        exact br_f ac_10 ⟨vp_in_nI hx (by decide), nm_r (ac_at f (by omega)) (nm_r (nI_1 i) (ih (i + 1) n (f x) (by omega) (by omega) (fr x) k))⟩
theorem ac_y_go (hm : ∀ j, m j < 16) (hw : ∀ j, w j < 8) (hc : ∀ o, c o < 5) (fr : ∀ o, f o < 16) (hcv : ac_C cv mm) {x p : Nat} (hx : x < 16) (hp : p < 6) (k : post (ac_b (ac_gy (fun x => ac_al f c w r m cv l p 0 17 x) f 16 x))) : wpY_canGo post ((fun zz => ac_b (s zz)), (fun zz => nI (f zz)), (fun zz => ac_b (l zz)), mm, (fun zz => nI (c zz)), (fun zz => nI (m zz / 8)), (fun zz => nI (w zz)), (fun zz => nI (r zz)), (fun zz => nI (m zz % 8)), be) (nI x) (nI p) :=
  ⟨17, ac_y_go_l hm hw hc fr hcv hp 16 0 17 x rfl (by omega) hx k⟩
theorem ac_y_rea_l (hm : ∀ j, m j < 16) (hw : ∀ j, w j < 8) (hc : ∀ o, c o < 5) (fr : ∀ o, f o < 16) (hcv : ac_C cv mm) {p : Nat} (hp : p < 6) (k : post (nI (ac_cn (fun o => s o && ac_gy (fun x => ac_al f c w r m cv l p 0 17 x) f 16 o) 16))) : ∀ d i n, i + d = 16 → d < n → wY_reach_14 post (nI p) (fun zz => ac_b (s zz)) (fun zz => nI (f zz)) (fun zz => ac_b (l zz)) mm (fun zz => nI (c zz)) (fun zz => nI (m zz / 8)) (fun zz => nI (w zz)) (fun zz => nI (r zz)) (fun zz => nI (m zz % 8)) be n (nI (ac_cn (fun o => s o && ac_gy (fun x => ac_al f c w r m cv l p 0 17 x) f 16 o) i)) (nI i) := by
  intro d
  induction d with
  | zero =>
    intro i n hi hn
    obtain ⟨n, rfl⟩ : ∃ n', n = n' + 1 := ⟨n - 1, by omega⟩
    have e : i = 16 := by omega
    subst e
    exact br_t (nI_le (a := 16) (by omega) (by omega)) k
  | succ d ih =>
    intro i n hi hn
    obtain ⟨n, rfl⟩ : ∃ n', n = n' + 1 := ⟨n - 1, by omega⟩
    have K := ih (i + 1) n (by omega) (by omega)
    refine br_f (nI_ge (b := 16) (by omega) (by decide)) ⟨vp_in_nI (by omega) (by decide), ?_⟩
    cases e : s i
    · rw [ac_cn_f (by simp [e])] at K
      exact ac_bs0 (by omega) e (nm_r (nI_1 i) K)
    · refine ac_bs1 (by omega) e (ac_y_go hm hw hc fr hcv (by omega) hp ?_)
      cases e2 : ac_gy (fun x => ac_al f c w r m cv l p 0 17 x) f 16 i
      · rw [ac_cn_f (by simp [e2])] at K
        exact br_t rfl (nm_r (nI_1 i) K)
      · rw [ac_cn_t (by simp [e, e2])] at K
        exact br_f ac_10 (nm_r (nI_1 _) (nm_r (nI_1 i) K))
end
end
section
/-! P: the walks that store -/
theorem ac_b2 : ∀ x, x < 2 → vp_nar .boolean (nI x) = nI x := by
  intro x hx
  rcases (show x = 0 ∨ x = 1 by omega) with e | e
  · subst e; decide
  · subst e; decide
theorem ac_dr (h : Nat → Nat) (M : Nat → Nat) {a t : Nat} (hb : a + t + 1 < 2 ^ 31) : upd (fun j => nI (h (ac_sh a t M j))) (nI (a + t)).toNatClampNeg (nI (h (ac_sh a t M (nI (a + t) + 1).toNatClampNeg))) = fun j => nI (h (ac_sh a (t + 1) M j)) := by
  rw [nI_1, nI_clamp (by omega), nI_clamp hb, ac_sh_n, ← ac_sh_s]
  funext j
  show (if j = a + t then nI (h (M (a + t + 1))) else nI (h (ac_sh a t M j))) = nI (h (if j = a + t then M (a + t + 1) else ac_sh a t M j))
  split <;> rfl
theorem ac_drB (M : Nat → Nat) (hM : ∀ j, M j < 16) {a t : Nat} (hb : a + t + 1 < 2 ^ 31) : upd (fun j => nI (ac_sh a t M j / 8)) (nI (a + t)).toNatClampNeg (vp_nar .boolean (nI (ac_sh a t M (nI (a + t) + 1).toNatClampNeg / 8))) = fun j => nI (ac_sh a (t + 1) M j / 8) := by
  have := ac_sh_b (a := a) (t := t) hM (nI (a + t) + 1).toNatClampNeg
  rw [ac_b2 _ (by omega)]
  exact ac_dr (fun x => x / 8) M hb
section
variable {post : Int32 → SY → Prop} {s l l' : Nat → Bool} {f c w r m : Nat → Nat} {cv mm be : Nat → Int32}
theorem ac_y_rm_l (fr : ∀ o, f o < 16) {o : Nat} (ho : o < 16) : ∀ d i n, i + d = 16 → d < n → (ac_an (fun x => s x && decide (f x = o)) i d = false → post 0 ((fun zz => ac_b ((ac_up s o false) zz)), (fun zz => nI (f zz)), (fun zz => ac_b (l zz)), mm, (fun zz => nI (c zz)), (fun zz => nI (m zz / 8)), (fun zz => nI (w zz)), (fun zz => nI (r zz)), (fun zz => nI (m zz % 8)), be)) → (ac_an (fun x => s x && decide (f x = o)) i d = true → post (-4) ((fun zz => ac_b (s zz)), (fun zz => nI (f zz)), (fun zz => ac_b (l zz)), mm, (fun zz => nI (c zz)), (fun zz => nI (m zz / 8)), (fun zz => nI (w zz)), (fun zz => nI (r zz)), (fun zz => nI (m zz % 8)), be)) → wY_remove_28 post (nI o) (fun zz => ac_b (s zz)) (fun zz => nI (f zz)) (fun zz => ac_b (l zz)) mm (fun zz => nI (c zz)) (fun zz => nI (m zz / 8)) (fun zz => nI (w zz)) (fun zz => nI (r zz)) (fun zz => nI (m zz % 8)) be n (nI i) := by
  intro d
  induction d with
  | zero =>
    intro i n hi hn k0 k1
    obtain ⟨n, rfl⟩ : ∃ n', n = n' + 1 := ⟨n - 1, by omega⟩
    exact br_t (nI_le (a := 16) (by omega) (by omega)) ⟨vp_in_nI ho (by decide), nm_r (ac_uB' s (by omega) false) (k0 rfl)⟩
  | succ d ih =>
    intro i n hi hn k0 k1
    obtain ⟨n, rfl⟩ : ∃ n', n = n' + 1 := ⟨n - 1, by omega⟩
    have next : (s i && decide (f i = o)) = false → wY_remove_28 post (nI o) (fun zz => ac_b (s zz)) (fun zz => nI (f zz)) (fun zz => ac_b (l zz)) mm (fun zz => nI (c zz)) (fun zz => nI (m zz / 8)) (fun zz => nI (w zz)) (fun zz => nI (r zz)) (fun zz => nI (m zz % 8)) be n (nI (i + 1)) := fun z => ih (i + 1) n (by omega) (by omega) (fun h => k0 (by rw [ac_an_s, h]; simp [z])) (fun h => k1 (by rw [ac_an_s, h]; simp))
    refine br_f (nI_ge (b := 16) (by omega) (by decide)) ⟨vp_in_nI (by omega) (by decide), ?_⟩
    cases e : s i
    · exact ac_bs0 (by omega) e (nm_r (nI_1 i) (next (by simp [e])))
    · exact ac_bs1 (by omega) e ⟨vp_in_nI (by omega) (by decide), ac_bn1 (f := f) (by omega) (Nat.lt_trans (fr i) (by decide)) (by omega) (fun z => k1 (by rw [ac_an_s]; simp [e, z])) (fun z => nm_r (nI_1 i) (next (by simp [z])))⟩
theorem ac_y_mv_l (fr : ∀ o, f o < 16) {o q : Nat} (ho : o < 16) (h0 : o ≠ 0) : ∀ d i n x, i + d = 16 → d < n → x < 16 → (ac_ab f o d x = false → wY_move_80 post (nI o) (nI q) (fun zz => ac_b (s zz)) (fun zz => nI (f zz)) (fun zz => ac_b (l zz)) mm (fun zz => nI (c zz)) (fun zz => nI (m zz / 8)) (fun zz => nI (w zz)) (fun zz => nI (r zz)) (fun zz => nI (m zz % 8)) be) → (ac_ab f o d x = true → post (-4) ((fun zz => ac_b (s zz)), (fun zz => nI (f zz)), (fun zz => ac_b (l zz)), mm, (fun zz => nI (c zz)), (fun zz => nI (m zz / 8)), (fun zz => nI (w zz)), (fun zz => nI (r zz)), (fun zz => nI (m zz % 8)), be)) → wY_move_48 post (nI o) (nI q) (fun zz => ac_b (s zz)) (fun zz => nI (f zz)) (fun zz => ac_b (l zz)) mm (fun zz => nI (c zz)) (fun zz => nI (m zz / 8)) (fun zz => nI (w zz)) (fun zz => nI (r zz)) (fun zz => nI (m zz % 8)) be n (nI x) (nI i) := by
  intro d
  induction d with
  | zero =>
    intro i n x hi hn hx k0 k1
    obtain ⟨n, rfl⟩ : ∃ n', n = n' + 1 := ⟨n - 1, by omega⟩
    exact br_t (nI_le (a := 16) (by omega) (by omega)) (k0 rfl)
  | succ d ih =>
    intro i n x hi hn hx k0 k1
    obtain ⟨n, rfl⟩ : ∃ n', n = n' + 1 := ⟨n - 1, by omega⟩
    rw [ac_ab_s] at k0 k1
    refine br_f (nI_ge (b := 16) (by omega) (by decide)) ?_
    by_cases z : x = 0
    · subst z
      rw [if_neg (Ne.symm h0), if_pos rfl] at k0
      exact br_t nI_0 (k0 rfl)
    · refine br_f (nI_ne0 (by omega) (by omega)) ?_
      by_cases e : x = o
      · subst e
        rw [if_pos rfl] at k1
        exact br_t rfl (k1 rfl)
      · rw [if_neg e, if_neg z] at k0 k1
        exact br_f (fun h => e ((nI_eq (by omega) (by omega)).mp h)) ⟨vp_in_nI hx (by decide), nm_r (ac_at f (by omega)) (nm_r (nI_1 i) (ih (i + 1) n (f x) (by omega) (by omega) (fr x) k0 k1))⟩
theorem ac_y_dr_l (hm : ∀ j, m j < 16) (hc : ∀ o, c o < 5) {o a E : Nat} (ho : o < 16) (h1 : 1 ≤ c o) (hE : E + 1 = 4 * o + c o) (k : post (nI (c o - 1)) ((fun zz => ac_b (s zz)), (fun zz => nI (f zz)), (fun zz => ac_b (l zz)), mm, (fun zz => nI ((ac_up c o (c o - 1)) zz)), (fun zz => nI ((ac_sh a (E - a) m) zz / 8)), (fun zz => nI ((ac_sh a (E - a) w) zz)), (fun zz => nI ((ac_sh a (E - a) r) zz)), (fun zz => nI ((ac_sh a (E - a) m) zz % 8)), be)) : ∀ d t n, a + t + d = E → d < n → wY_drop_42 post (nI o) n (nI (a + t)) (fun zz => ac_b (s zz)) (fun zz => nI (f zz)) (fun zz => ac_b (l zz)) mm (fun zz => nI (c zz)) (fun zz => nI ((ac_sh a t m) zz / 8)) (fun zz => nI ((ac_sh a t w) zz)) (fun zz => nI ((ac_sh a t r) zz)) (fun zz => nI ((ac_sh a t m) zz % 8)) be := by
  have hco := hc o
  have e : 4 * nI o + nI (c o) - 1 = nI E := by rw [ac_4, nI_add, ← hE]; exact nI_pred E
  intro d
  induction d with
  | zero =>
    intro t n hi hn
    obtain ⟨n, rfl⟩ : ∃ n', n = n' + 1 := ⟨n - 1, by omega⟩
    have et : E - a = t := by omega
    rw [et] at k
    refine ⟨vp_in_nI ho (by decide), ?_⟩
    simp only [nI_clamp (show o < 2 ^ 31 by omega), e]
    have e3 : upd (fun o => nI (c o)) o (nI (c o) - 1) = fun x => nI (ac_up c o (c o - 1) x) := by rw [show nI (c o) - 1 = nI (c o - 1) from pk_sub (b := 1) h1, ac_uN]
    refine br_t (nI_le (by omega) (by omega)) ⟨vp_in_nI ho (by decide), vp_in_nI ho (by decide), nm_r e3 ⟨vp_in_nI ho (by decide), ?_⟩⟩
    show post (nI (ac_up c o (c o - 1) o)) _
    rw [ac_us]
    exact k
  | succ d ih =>
    intro t n hi hn
    obtain ⟨n, rfl⟩ : ∃ n', n = n' + 1 := ⟨n - 1, by omega⟩
    have K := ih (t + 1) n (by omega) (by omega)
    refine ⟨vp_in_nI ho (by decide), ?_⟩
    have ge : ¬ 4 * nI o + nI (c (nI o).toNatClampNeg) - 1 ≤ nI (a + t) := by
      rw [nI_clamp (by omega), e]; exact nI_ge (by omega) (by omega)
    have i0 : vp_in (nI (a + t)) 64 := vp_in_nI (by omega) (by decide)
    have i1 : vp_in (nI (a + t) + 1) 64 := by rw [nI_1]; exact vp_in_nI (by omega) (by decide)
    exact br_f ge ⟨i1, i0, nm_r (ac_drB m hm (by omega)) ⟨i1, i0, nm_r (ac_dr (fun x => x) w (by omega)) ⟨i1, i0, nm_r (ac_dr (fun x => x) r (by omega)) ⟨i1, i0, nm_r (ac_dr (fun x => x % 8) m (by omega)) (nm_r (nI_1 (a + t)) K)⟩⟩⟩⟩
end
section
variable {post : Int32 → SX → Prop} {f c w r m : Nat → Nat} {ST CL : Int32} {cv : Nat → Int32}
theorem ac_x_dr_l (hc : ∀ o, c o < 5) {o a E : Nat} (ho : o < 16) (h1 : 1 ≤ c o) (hE : E + 1 = 4 * o + c o) (k : post (nI (c o - 1)) (ST, CL, (fun zz => nI (f zz)), cv, (fun zz => nI ((ac_up c o (c o - 1)) zz)), (fun zz => nI ((ac_sh a (E - a) w) zz)), (fun zz => nI ((ac_sh a (E - a) r) zz)), (fun zz => nI ((ac_sh a (E - a) m) zz)))) : ∀ d t n, a + t + d = E → d < n → wX_drop_57 post (nI o) (nI E) ST CL n (nI (a + t)) (fun o => nI (f o)) cv (fun o => nI (c o)) (fun j => nI (ac_sh a t w j)) (fun j => nI (ac_sh a t r j)) (fun j => nI (ac_sh a t m j)) := by
  have hco := hc o
  intro d
  induction d with
  | zero =>
    intro t n hi hn
    obtain ⟨n, rfl⟩ : ∃ n', n = n' + 1 := ⟨n - 1, by omega⟩
    have et : E - a = t := by omega
    rw [et] at k
    refine br_t (nI_le (by omega) (by omega)) ?_
    simp only [nI_clamp (show o < 2 ^ 31 by omega)]
    have e3 : upd (fun o => nI (c o)) o (nI (c o) - 1) = fun x => nI (ac_up c o (c o - 1) x) := by rw [show nI (c o) - 1 = nI (c o - 1) from pk_sub (b := 1) h1, ac_uN]
    refine ⟨vp_in_nI ho (by decide), vp_in_nI ho (by decide), nm_r e3 ⟨vp_in_nI ho (by decide), ?_⟩⟩
    show post (nI (ac_up c o (c o - 1) o)) _
    rw [ac_us]
    exact k
  | succ d ih =>
    intro t n hi hn
    obtain ⟨n, rfl⟩ : ∃ n', n = n' + 1 := ⟨n - 1, by omega⟩
    have K := ih (t + 1) n (by omega) (by omega)
    have i0 : vp_in (nI (a + t)) 64 := vp_in_nI (by omega) (by decide)
    have i1 : vp_in (nI (a + t) + 1) 64 := by rw [nI_1]; exact vp_in_nI (by omega) (by decide)
    exact br_f (nI_ge (by omega) (by omega)) ⟨i1, i0, nm_r (ac_dr (fun x => x) w (by omega)) ⟨i1, i0, nm_r (ac_dr (fun x => x) r (by omega)) ⟨i1, i0, nm_r (ac_dr (fun x => x) m (by omega)) (nm_r (nI_1 (a + t)) K)⟩⟩⟩
end
/-! stir, Y: the rights before, the flag turned, the rights compared, the flag turned back -/
section
variable {post : Int32 → SY → Prop} {s l : Nat → Bool} {f c w r m : Nat → Nat} {cv mm be : Nat → Int32}
def ac_rv (s : Nat → Bool) (f c w r m : Nat → Nat) (cv : Nat → Int32) (l : Nat → Bool) (p x : Nat) : Int32 := if s x then ac_set (fun b => ac_al f c w r m cv l p b 17 x) 4 else -3
theorem ac_60 : ¬ (6 : Int32) = 0 := by decide
theorem ac_y_s2_l (hm : ∀ j, m j < 16) (hw : ∀ j, w j < 8) (hc : ∀ o, c o < 5) (fr : ∀ o, f o < 16) (hcv : ac_C cv mm) {o : Nat} (ho : o < 16) (k : post (nI (ac_cn (fun j => !decide (be j = ac_rv s f c w r m cv l (j % 6) (j / 6))) 96)) ((fun zz => ac_b (s zz)), (fun zz => nI (f zz)), (fun zz => ac_b ((ac_up l o (!l o)) zz)), mm, (fun zz => nI (c zz)), (fun zz => nI (m zz / 8)), (fun zz => nI (w zz)), (fun zz => nI (r zz)), (fun zz => nI (m zz % 8)), be)) : ∀ d i n, i + d = 96 → d < n → wY_stir_78 post (nI o) (fun zz => ac_b (s zz)) (fun zz => nI (f zz)) (fun zz => ac_b (l zz)) mm (fun zz => nI (c zz)) (fun zz => nI (m zz / 8)) (fun zz => nI (w zz)) (fun zz => nI (r zz)) (fun zz => nI (m zz % 8)) be n (nI (ac_cn (fun j => !decide (be j = ac_rv s f c w r m cv l (j % 6) (j / 6))) i)) (nI i) := by
  intro d
  induction d with
  | zero =>
    intro i n hi hn
    obtain ⟨n, rfl⟩ : ∃ n', n = n' + 1 := ⟨n - 1, by omega⟩
    have e : i = 96 := by omega
    subst e
    refine br_t (nI_le (a := 96) (by omega) (by omega)) ⟨vp_in_nI ho (by decide), ?_⟩
    cases e : l o
    · rw [e] at k
      exact ac_bs0 (by omega) e ⟨vp_in_nI ho (by decide), nm_r (ac_uB' l (by omega) true) k⟩
    · rw [e] at k
      exact ac_bs1 (by omega) e ⟨vp_in_nI ho (by decide), nm_r (ac_uB' l (by omega) false) k⟩
  | succ d ih =>
    intro i n hi hn
    obtain ⟨n, rfl⟩ : ∃ n', n = n' + 1 := ⟨n - 1, by omega⟩
    have K := ih (i + 1) n (by omega) (by omega)
    have e1 : nI i - nI i / 6 * 6 = nI (i % 6) := pk_rem (d := 6) (by omega) (by omega) (by decide)
    have e2 : nI i / 6 = nI (i / 6) := pk_div (d := 6) (by omega) (by omega) (by decide)
    refine br_f (nI_ge (b := 96) (by omega) (by decide)) ⟨vp_in_nI (by omega) (by decide), ac_60, ac_60, ?_⟩
    rw [e1, e2, nI_clamp (show i < 2 ^ 31 by omega)]
    refine ac_y_rs hm hw hc fr hcv (by omega) (by omega) ?_
    by_cases z : be i = ac_rv s f c w r m cv l (i % 6) (i / 6)
    · rw [ac_cn_f (by simp [z])] at K
      exact br_t z (nm_r (nI_1 i) K)
    · rw [ac_cn_t (by simp [z])] at K
      exact br_f z (nm_r (nI_1 _) (nm_r (nI_1 i) K))
theorem ac_y_s1_l (hm : ∀ j, m j < 16) (hw : ∀ j, w j < 8) (hc : ∀ o, c o < 5) (fr : ∀ o, f o < 16) (hcv : ac_C cv mm) {o : Nat} (ho : o < 16) (k : ∀ be : Nat → Int32, (∀ j, j < 96 → be j = ac_rv s f c w r m cv l (j % 6) (j / 6)) → ∃ n, wY_stir_78 post (nI o) (fun zz => ac_b (s zz)) (fun zz => nI (f zz)) (fun zz => ac_b ((ac_up l o (!l o)) zz)) mm (fun zz => nI (c zz)) (fun zz => nI (m zz / 8)) (fun zz => nI (w zz)) (fun zz => nI (r zz)) (fun zz => nI (m zz % 8)) be n 0 0) : ∀ d i n (be : Nat → Int32), i + d = 96 → d < n → (∀ j, j < i → be j = ac_rv s f c w r m cv l (j % 6) (j / 6)) → wY_stir_24 post (nI o) n (nI i) (fun zz => ac_b (s zz)) (fun zz => nI (f zz)) (fun zz => ac_b (l zz)) mm (fun zz => nI (c zz)) (fun zz => nI (m zz / 8)) (fun zz => nI (w zz)) (fun zz => nI (r zz)) (fun zz => nI (m zz % 8)) be := by
  intro d
  induction d with
  | zero =>
    intro i n be hi hn hb
    obtain ⟨n, rfl⟩ : ∃ n', n = n' + 1 := ⟨n - 1, by omega⟩
    have K := k be (fun j hj => hb j (by omega))
    refine br_t (nI_le (a := 96) (by omega) (by omega)) ⟨vp_in_nI ho (by decide), ?_⟩
    cases e : l o
    · rw [e] at K
      exact ac_bs0 (by omega) e ⟨vp_in_nI ho (by decide), nm_r (ac_uB' l (by omega) true) K⟩
    · rw [e] at K
      exact ac_bs1 (by omega) e ⟨vp_in_nI ho (by decide), nm_r (ac_uB' l (by omega) false) K⟩
  | succ d ih =>
    intro i n be hi hn hb
    obtain ⟨n, rfl⟩ : ∃ n', n = n' + 1 := ⟨n - 1, by omega⟩
    have e1 : nI i - nI i / 6 * 6 = nI (i % 6) := pk_rem (d := 6) (by omega) (by omega) (by decide)
    have e2 : nI i / 6 = nI (i / 6) := pk_div (d := 6) (by omega) (by omega) (by decide)
    refine br_f (nI_ge (b := 96) (by omega) (by decide)) ⟨ac_60, ac_60, ?_⟩
    rw [e1, e2, nI_clamp (show i < 2 ^ 31 by omega)]
    refine ac_y_rs hm hw hc fr hcv (by omega) (by omega) ⟨vp_in_nI (by omega) (by decide), nm_e (nm_r (nI_1 i) (ih (i + 1) n _ (by omega) (by omega) ?_))⟩
    intro j hj
    by_cases z : j = i
    · subst z; exact pk_us
    · rw [pk_un z]; exact hb j (by omega)
end
end
section
/-! Q: the relation -/
def ac_I (s l : Nat → Bool) (f c w r m : Nat → Nat) (ST CL : Int32) (cv mm : Nat → Int32) : Prop :=
  (∀ o, o < 16 → bt ST o = s o) ∧ (∀ o, o < 16 → bt CL o = l o) ∧ ac_T s f ∧ (∀ o, c o < 5) ∧ (∀ j, w j < 8) ∧ (∀ j, r j < 16) ∧ (∀ j, m j < 16) ∧ ac_C cv mm
def i_Rel (_ : Nat) (u : SX) (v : SY) : Prop := ∃ (s l : Nat → Bool) (f c w r m : Nat → Nat) (ST CL : Int32) (cv mm be : Nat → Int32), u = (ST, CL, (fun zz => nI (f zz)), cv, (fun zz => nI (c zz)), (fun zz => nI (w zz)), (fun zz => nI (r zz)), (fun zz => nI (m zz))) ∧ v = ((fun zz => ac_b (s zz)), (fun zz => nI (f zz)), (fun zz => ac_b (l zz)), mm, (fun zz => nI (c zz)), (fun zz => nI (m zz / 8)), (fun zz => nI (w zz)), (fun zz => nI (r zz)), (fun zz => nI (m zz % 8)), be) ∧ ac_I s l f c w r m ST CL cv mm
theorem i_up {k : Nat} {u : SX} {v : SY} (h : i_Rel k u v) : i_Rel (k + 5) u v := h
/-! R: rows for the stores of the methods -/
theorem ac_mv (x : Int32) : (ac_out 16 x ∨ x = 0) ∨ ∃ j, 0 < j ∧ j < 16 ∧ x = nI j := by
  rcases ac_ix x (N := 16) (by decide) with h | ⟨j, hj, e⟩
  · exact Or.inl (Or.inl h)
  · rcases Nat.eq_zero_or_pos j with z | z
    · subst z; exact Or.inl (Or.inr e)
    · exact Or.inr ⟨j, z, hj, e⟩
theorem ac_gr (x : Int32) : (x < 6 ∨ nI 8 ≤ x) ∨ ∃ g, 6 ≤ g ∧ g < 8 ∧ x = nI g := by
  rcases ac_ix x (N := 8) (by decide) with (h | h) | ⟨j, hj, e⟩
  · exact Or.inl (Or.inl (ac_lt0n (N := 6) (by decide) h))
  · exact Or.inl (Or.inr h)
  · by_cases z : j < 6
    · subst e; exact Or.inl (Or.inl (nI_lt (b := 6) z (by decide)))
    · exact Or.inr ⟨j, by omega, hj, e⟩
theorem ac_hon {X : Int32} {s : Nat → Bool} (hs : ∀ o, o < 16 → bt X o = s o) {o : Nat} (ho : o < 16) : ∀ x, x < 16 → bt (X ||| ((1 : Int32) <<< (nI o &&& 31))) x = ac_up s o true x := by
  intro x hx
  rw [ac_on X (by omega) (by omega), hs x hx]
  by_cases e : x = o
  · subst e; rw [ac_us, decide_eq_true rfl, Bool.or_true]
  · rw [ac_un e, decide_eq_false e, Bool.or_false]
theorem ac_hoff {X : Int32} {s : Nat → Bool} (hs : ∀ o, o < 16 → bt X o = s o) {o : Nat} (ho : o < 16) : ∀ x, x < 16 → bt (X &&& (((1 : Int32) <<< (nI o &&& 31)) ^^^ (-1))) x = ac_up s o false x := by
  intro x hx
  rw [ac_off X (by omega) (by omega), hs x hx]
  by_cases e : x = o
  · subst e; rw [ac_us, decide_eq_true rfl]; simp
  · rw [ac_un e, decide_eq_false e]; simp
theorem ac_hxor {X : Int32} {s : Nat → Bool} (hs : ∀ o, o < 16 → bt X o = s o) {o : Nat} (ho : o < 16) : ∀ x, x < 16 → bt (X ^^^ ((1 : Int32) <<< (nI o &&& 31))) x = ac_up s o (!s o) x := by
  intro x hx
  rw [b_xor, ac_one (by omega) (by omega), hs x hx]
  by_cases e : x = o
  · subst e; rw [ac_us, decide_eq_true rfl, Bool.xor_true]
  · rw [ac_un e, decide_eq_false e, Bool.xor_false]
theorem ac_an_no {q : Nat → Bool} : ∀ d i, ac_an q i d = false → ∀ j, i ≤ j → j < i + d → q j = false := by
  intro d
  induction d with
  | zero => intro i _ j h1 h2; omega
  | succ d ih =>
    intro i h j h1 h2
    rw [ac_an_s, Bool.or_eq_false_iff] at h
    by_cases e : j = i
    · subst e; exact h.1
    · exact ih (i + 1) h.2 j (by omega) (by omega)
theorem ac_tf {P : Prop} {b : Bool} (h1 : b = true) (h0 : b = false) : P := by rw [h1] at h0; cases h0
theorem ac_C_up {cv mm : Nat → Int32} (h : ac_C cv mm) {g : Nat} (h6 : 6 ≤ g) (h8 : g < 8) (X : Int32) : ac_C (upd cv g X) (upd mm (g - 6) X) := by
  obtain ⟨a, b, c⟩ := h
  rcases (show g = 6 ∨ g = 7 by omega) with z | z
  · subst z
    refine ⟨pk_us.trans pk_us.symm, (pk_un (by omega)).trans (b.trans (pk_un (by omega)).symm), fun w hw p hp => ?_⟩
    rw [pk_un (by omega)]; exact c w hw p hp
  · subst z
    refine ⟨(pk_un (by omega)).trans (a.trans (pk_un (by omega)).symm), pk_us.trans pk_us.symm, fun w hw p hp => ?_⟩
    rw [pk_un (by omega)]; exact c w hw p hp
theorem ac_uH (h : Nat → Nat) (M : Nat → Nat) (k v : Nat) : upd (fun j => nI (h (M j))) k (nI (h v)) = fun j => nI (h (ac_up M k v j)) := by
  funext j
  show (if j = k then nI (h v) else nI (h (M j))) = nI (h (if j = k then v else M j))
  split <;> rfl
theorem ac_m7 : ∀ m, m < 16 → nI m &&& 7 = nI (m % 8) := by decide +kernel
/-! S: the constructors -/
theorem ac_x0_l {post : SX → Prop} (k : ∀ cv : Nat → Int32, (∀ w, w < 6 → ∀ p, p < 6 → bt (cv w) p = decide (w = p)) → (∀ j, 6 ≤ j → cv j = 0) → post (1, 0, fun _ => 0, cv, fun _ => 0, fun _ => 0, fun _ => 0, fun _ => 0)) : ∀ d i n (cv : Nat → Int32), i + d = 6 → d < n → (∀ w, w < i → ∀ p, p < 6 → bt (cv w) p = decide (w = p)) → (∀ j, 6 ≤ j → cv j = 0) → wX_init_64 post 1 0 n (nI i) (fun _ => 0) cv (fun _ => 0) (fun _ => 0) (fun _ => 0) (fun _ => 0) := by
  intro d
  induction d with
  | zero =>
    intro i n cv hi hn h1 h2
    obtain ⟨n, rfl⟩ : ∃ n', n = n' + 1 := ⟨n - 1, by omega⟩
    have e : i = 6 := by omega
    subst e
    exact br_t (nI_le (a := 6) (by omega) (by omega)) (k cv h1 h2)
  | succ d ih =>
    intro i n cv hi hn h1 h2
    obtain ⟨n, rfl⟩ : ∃ n', n = n' + 1 := ⟨n - 1, by omega⟩
    refine br_f (nI_ge (b := 6) (by omega) (by decide)) ⟨vp_in_nI (by omega) (by decide), nm_e (nm_r (nI_1 i) (ih (i + 1) n _ (by omega) (by omega) ?_ ?_))⟩
    · intro w hw p hp
      rw [nI_clamp (by omega)]
      by_cases e : w = i
      · subst e
        rw [pk_us, ac_one (by omega) (by omega)]
        by_cases z : p = w
        · rw [decide_eq_true z, decide_eq_true z.symm]
        · rw [decide_eq_false z, decide_eq_false (Ne.symm z)]
      · rw [pk_un e]; exact h1 w (by omega) p hp
    · intro j hj
      rw [nI_clamp (by omega), pk_un (by omega)]
      exact h2 j hj
theorem i_vc0 : wpX_init (fun u => wpY_init (fun v => i_Rel 0 u v)) := by
  refine ⟨7, ac_x0_l (fun cv h1 h2 => ?_) 6 0 7 (fun _ => 0) rfl (by omega) (fun w hw => by omega) (fun _ _ => rfl)⟩
  refine nm_r (e' := fun o => ac_b (decide (o = 0))) ?_ ?_
  · funext j
    show (if j = 0 then vp_nar .boolean 1 else 0) = ac_b (decide (j = 0))
    by_cases e : j = 0
    · rw [if_pos e, decide_eq_true e]; decide
    · rw [if_neg e, decide_eq_false e]; rfl
  · have e8 : nI (0 / 8) = 0 := by decide
    have e0 : ((fun o => ac_b (decide (o = 0)), fun _ => 0, fun _ => 0, fun _ => 0, fun _ => 0, fun _ => 0, fun _ => 0, fun _ => 0, fun _ => 0, fun _ => 0) : SY) = (fun o => ac_b (decide (o = 0)), fun _ => nI 0, fun _ => ac_b false, fun _ => 0, fun _ => nI 0, fun _ => nI (0 / 8), fun _ => nI 0, fun _ => nI 0, fun _ => nI (0 % 8), fun _ => 0) := by
      rw [e8]; rfl
    refine ⟨fun o => decide (o = 0), fun _ => false, fun _ => 0, fun _ => 0, fun _ => 0, fun _ => 0, fun _ => 0, 1, 0, cv, fun _ => 0, fun _ => 0, rfl, e0, fun o _ => ac_1bt o, fun o _ => b_0 o, ⟨rfl, fun _ => (by decide : (0 : Nat) < 16), rfl, fun _ _ _ => rfl, fun x _ h => ⟨0, of_decide_eq_true h⟩⟩, fun _ => (by decide : (0 : Nat) < 5), fun _ => (by decide : (0 : Nat) < 8), fun _ => (by decide : (0 : Nat) < 16), fun _ => (by decide : (0 : Nat) < 16), h2 6 (by omega), h2 7 (by omega), h1⟩
end
section
/-! T: the methods, first those without a walk -/
theorem i_vc_create {k : Nat} {u : SX} {v : SY} (I : i_Rel k u v) (hk : k + 5 ≤ 2560) (v1 : Int32) (v2 : Int32) : wpX_create (fun r u' => wpY_create (fun r' v' => r' = r ∧ i_Rel (k + 5) u' v') v v1 v2) u v1 v2 := by
  have J : i_Rel (k + 5) u v := I
  obtain ⟨s, l, f, c, w, r, m, ST, CL, cv, mm, be, rfl, rfl, hs, hl, T, hc, hw, hr, hm, hcv⟩ := I
  unfold wpX_create wpY_create
  dsimp only
  rcases ac_mv v1 with h1 | ⟨o, h0, ho, rfl⟩
  · refine ac_xm0 h1 ?_
    rcases h1 with h1 | h1
    · exact ac_yo0 h1 ⟨rfl, J⟩
    · subst h1; exact ac_yo1 (n := 0) (by omega) (br_t rfl ⟨rfl, J⟩)
  · refine ac_xm1 h0 ho ?_
    have ne : ¬ nI o = 0 := nI_ne0 h0 (by omega)
    have vo : vp_in (nI o) 16 := vp_in_nI ho (by decide)
    rcases ac_ix v2 (N := 16) (by decide) with h2 | ⟨q, hq, rfl⟩
    · exact ac_xo0 h2 (ac_yo1 ho (br_f ne (ac_yo0 h2 ⟨rfl, J⟩)))
    · have vq : vp_in (nI q) 16 := vp_in_nI hq (by decide)
      refine ac_xo1 hq ?_
      cases so : s o
      · refine ac_xh0 ((hs o ho).trans so) (by omega) ?_
        cases sq : s q
        · exact ac_xh0 ((hs q hq).trans sq) (by omega) (ac_yo1 ho (br_f ne (ac_yo1 hq ⟨vo, ac_bs0 (by omega) so ⟨vq, ac_bs0 (by omega) sq ⟨rfl, J⟩⟩⟩)))
        · refine ac_xh1 ((hs q hq).trans sq) (by omega) (ac_xw1 (ac_xw0 ⟨vo, nm_r (ac_uN' c (by omega) 0) ⟨vo, nm_r (ac_uN' f (by omega) q) ?_⟩⟩))
          exact ac_yo1 ho (br_f ne (ac_yo1 hq ⟨vo, ac_bs0 (by omega) so ⟨vq, ac_bs1 (by omega) sq ⟨vo, nm_r (ac_uB' s (by omega) true) ⟨vo, nm_r (ac_uN' f (by omega) q) ⟨vo, nm_r (ac_uB' l (by omega) false) ⟨vo, nm_r (ac_uN' c (by omega) 0) ⟨rfl, ⟨ac_up s o true, ac_up l o false, ac_up f o q, ac_up c o 0, w, r, m, _, _, cv, mm, be, rfl, rfl, ac_hon hs ho, ac_hoff hl ho, ac_T_create T ho (by omega) hq so sq, ac_ub hc (by omega), hw, hr, hm, hcv⟩⟩⟩⟩⟩⟩⟩⟩))
      · exact ac_xh1 ((hs o ho).trans so) (by omega) (ac_yo1 ho (br_f ne (ac_yo1 hq ⟨vo, ac_bs1 (by omega) so ⟨rfl, J⟩⟩)))
theorem i_vc_remove {k : Nat} {u : SX} {v : SY} (I : i_Rel k u v) (hk : k + 5 ≤ 2560) (v1 : Int32) : wpX_remove (fun r u' => wpY_remove (fun r' v' => r' = r ∧ i_Rel (k + 5) u' v') v v1) u v1 := by
  have J : i_Rel (k + 5) u v := I
  obtain ⟨s, l, f, c, w, r, m, ST, CL, cv, mm, be, rfl, rfl, hs, hl, T, hc, hw, hr, hm, hcv⟩ := I
  unfold wpX_remove wpY_remove
  dsimp only
  rcases ac_mv v1 with h1 | ⟨o, h0, ho, rfl⟩
  · refine ac_xm0 h1 ?_
    rcases h1 with h1 | h1
    · exact ac_yo0 h1 ⟨rfl, J⟩
    · subst h1; exact ac_yo1 (n := 0) (by omega) (br_t rfl ⟨rfl, J⟩)
  · refine ac_xm1 h0 ho ?_
    have ne : ¬ nI o = 0 := nI_ne0 h0 (by omega)
    have vo : vp_in (nI o) 16 := vp_in_nI ho (by decide)
    cases so : s o
    · exact ac_xh0 ((hs o ho).trans so) (by omega) (ac_yo1 ho (br_f ne ⟨vo, ac_bs0 (by omega) so ⟨rfl, J⟩⟩))
    · refine ac_xh1 ((hs o ho).trans so) (by omega) (ac_x_pa hs T.2.1 ho ?_)
      cases e : ac_an (fun x => s x && decide (f x = o)) 1 15
      · refine br_t rfl (ac_xw0 (ac_yo1 ho (br_f ne ⟨vo, ac_bs1 (by omega) so ⟨16, ac_y_rm_l T.2.1 ho 15 1 16 rfl (by omega) (fun _ => ⟨rfl, ?_⟩) (fun z => ac_tf z e)⟩⟩)))
        refine ⟨ac_up s o false, l, f, c, w, r, m, _, _, cv, mm, be, rfl, rfl, ac_hoff hs ho, hl, ac_T_remove T (by omega) ?_, hc, hw, hr, hm, hcv⟩
        intro x h1 h2 h3 h4
        have z : (s x && decide (f x = o)) = false := ac_an_no 15 1 e x h1 (by omega)
        rw [h3, h4] at z
        simp at z
      · exact br_f ac_10 (ac_yo1 ho (br_f ne ⟨vo, ac_bs1 (by omega) so ⟨16, ac_y_rm_l T.2.1 ho 15 1 16 rfl (by omega) (fun z => ac_tf e z) (fun _ => ⟨rfl, J⟩)⟩⟩))
theorem i_vc_move {k : Nat} {u : SX} {v : SY} (I : i_Rel k u v) (hk : k + 5 ≤ 2560) (v1 : Int32) (v2 : Int32) : wpX_move (fun r u' => wpY_move (fun r' v' => r' = r ∧ i_Rel (k + 5) u' v') v v1 v2) u v1 v2 := by
  have J : i_Rel (k + 5) u v := I
  obtain ⟨s, l, f, c, w, r, m, ST, CL, cv, mm, be, rfl, rfl, hs, hl, T, hc, hw, hr, hm, hcv⟩ := I
  unfold wpX_move wpY_move
  dsimp only
  rcases ac_mv v1 with h1 | ⟨o, h0, ho, rfl⟩
  · refine ac_xm0 h1 ?_
    rcases h1 with h1 | h1
    · exact ac_yo0 h1 ⟨rfl, J⟩
    · subst h1; exact ac_yo1 (n := 0) (by omega) (br_t rfl ⟨rfl, J⟩)
  · refine ac_xm1 h0 ho ?_
    have ne : ¬ nI o = 0 := nI_ne0 h0 (by omega)
    have no : o ≠ 0 := by omega
    have vo : vp_in (nI o) 16 := vp_in_nI ho (by decide)
    rcases ac_ix v2 (N := 16) (by decide) with h2 | ⟨q, hq, rfl⟩
    · exact ac_xo0 h2 (ac_yo1 ho (br_f ne (ac_yo0 h2 ⟨rfl, J⟩)))
    · have vq : vp_in (nI q) 16 := vp_in_nI hq (by decide)
      refine ac_xo1 hq ?_
      cases so : s o
      · exact ac_xh0 ((hs o ho).trans so) (by omega) (ac_yo1 ho (br_f ne (ac_yo1 hq ⟨vo, ac_bs0 (by omega) so ⟨rfl, J⟩⟩)))
      · refine ac_xh1 ((hs o ho).trans so) (by omega) ?_
        cases sq : s q
        · exact ac_xh0 ((hs q hq).trans sq) (by omega) (ac_yo1 ho (br_f ne (ac_yo1 hq ⟨vo, ac_bs1 (by omega) so ⟨vq, ac_bs0 (by omega) sq ⟨rfl, J⟩⟩⟩)))
        · refine ac_xh1 ((hs q hq).trans sq) (by omega) (ac_x_ab T.2.1 ho hq ?_)
          cases e : ac_ab f o 16 q
          · refine br_t rfl ⟨vo, nm_e ⟨vo, nm_r (ac_uN' f (by omega) q) ?_⟩⟩
            refine ac_yo1 ho (br_f ne (ac_yo1 hq ⟨vo, ac_bs1 (by omega) so ⟨vq, ac_bs1 (by omega) sq ⟨17, ac_y_mv_l T.2.1 ho no 16 0 17 q rfl (by omega) hq (fun _ => ?_) (fun z => ac_tf z e)⟩⟩⟩))
            unfold wY_move_80
            exact ⟨vo, nm_e ⟨vo, nm_r (ac_uN' f (by omega) q) ⟨rfl, ⟨s, l, ac_up f o q, c, w, r, m, _, _, cv, mm, be, rfl, rfl, hs, hl, ac_T_move T ho no hq sq (ac_ab_f no T.1 16 q e), hc, hw, hr, hm, hcv⟩⟩⟩⟩
          · exact br_f ac_10 (ac_yo1 ho (br_f ne (ac_yo1 hq ⟨vo, ac_bs1 (by omega) so ⟨vq, ac_bs1 (by omega) sq ⟨17, ac_y_mv_l T.2.1 ho no 16 0 17 q rfl (by omega) hq (fun z => ac_tf e z) (fun _ => ⟨rfl, J⟩)⟩⟩⟩)))
theorem i_vc_parentOf {k : Nat} {u : SX} {v : SY} (I : i_Rel k u v) (hk : k + 5 ≤ 2560) (v1 : Int32) : wpX_parentOf (fun r => wpY_parentOf (fun r' => r' = r ∧ i_Rel (k + 5) u v) v v1) u v1 := by
  have J : i_Rel (k + 5) u v := I
  obtain ⟨s, l, f, c, w, r, m, ST, CL, cv, mm, be, rfl, rfl, hs, hl, T, hc, hw, hr, hm, hcv⟩ := I
  unfold wpX_parentOf wpY_parentOf
  dsimp only
  rcases ac_mv v1 with h1 | ⟨o, h0, ho, rfl⟩
  · refine ac_xm0 h1 ?_
    rcases h1 with h1 | h1
    · exact ac_yo0 h1 ⟨rfl, J⟩
    · subst h1; exact ac_yo1 (n := 0) (by omega) (br_t rfl ⟨rfl, J⟩)
  · refine ac_xm1 h0 ho ?_
    have ne : ¬ nI o = 0 := nI_ne0 h0 (by omega)
    have vo : vp_in (nI o) 16 := vp_in_nI ho (by decide)
    cases so : s o
    · exact ac_xh0 ((hs o ho).trans so) (by omega) (ac_yo1 ho (br_f ne ⟨vo, ac_bs0 (by omega) so ⟨rfl, J⟩⟩))
    · exact ac_xh1 ((hs o ho).trans so) (by omega) ⟨vo, ac_yo1 ho (br_f ne ⟨vo, ac_bs1 (by omega) so ⟨vo, rfl, J⟩⟩)⟩
theorem i_vc_close {k : Nat} {u : SX} {v : SY} (I : i_Rel k u v) (hk : k + 5 ≤ 2560) (v1 : Int32) (v2 : Int32) : wpX_close (fun r u' => wpY_close (fun r' v' => r' = r ∧ i_Rel (k + 5) u' v') v v1 v2) u v1 v2 := by
  have J : i_Rel (k + 5) u v := I
  obtain ⟨s, l, f, c, w, r, m, ST, CL, cv, mm, be, rfl, rfl, hs, hl, T, hc, hw, hr, hm, hcv⟩ := I
  unfold wpX_close wpY_close
  dsimp only
  rcases ac_ix v1 (N := 16) (by decide) with h1 | ⟨o, ho, rfl⟩
  · exact ac_xo0 h1 (ac_yo0 h1 ⟨rfl, J⟩)
  · refine ac_xo1 ho ?_
    have vo : vp_in (nI o) 16 := vp_in_nI ho (by decide)
    cases so : s o
    · exact ac_xh0 ((hs o ho).trans so) (by omega) (ac_yo1 ho ⟨vo, ac_bs0 (by omega) so ⟨rfl, J⟩⟩)
    · refine ac_xh1 ((hs o ho).trans so) (by omega) ?_
      unfold wX_close_39 wX_close_55 wY_close_36
      have R0 : i_Rel (k + 5) (ST, CL &&& (((1 : Int32) <<< (nI o &&& 31)) ^^^ (-1)), (fun zz => nI (f zz)), cv, (fun zz => nI (c zz)), (fun zz => nI (w zz)), (fun zz => nI (r zz)), (fun zz => nI (m zz))) ((fun zz => ac_b (s zz)), (fun zz => nI (f zz)), (fun zz => ac_b ((ac_up l o false) zz)), mm, (fun zz => nI (c zz)), (fun zz => nI (m zz / 8)), (fun zz => nI (w zz)), (fun zz => nI (r zz)), (fun zz => nI (m zz % 8)), be) :=
        ⟨s, ac_up l o false, f, c, w, r, m, _, _, cv, mm, be, rfl, rfl, hs, ac_hoff hl ho, T, hc, hw, hr, hm, hcv⟩
      have R1 : i_Rel (k + 5) (ST, CL ||| ((1 : Int32) <<< (nI o &&& 31)), (fun zz => nI (f zz)), cv, (fun zz => nI (c zz)), (fun zz => nI (w zz)), (fun zz => nI (r zz)), (fun zz => nI (m zz))) ((fun zz => ac_b (s zz)), (fun zz => nI (f zz)), (fun zz => ac_b ((ac_up l o true) zz)), mm, (fun zz => nI (c zz)), (fun zz => nI (m zz / 8)), (fun zz => nI (w zz)), (fun zz => nI (r zz)), (fun zz => nI (m zz % 8)), be) :=
        ⟨s, ac_up l o true, f, c, w, r, m, _, _, cv, mm, be, rfl, rfl, hs, ac_hon hl ho, T, hc, hw, hr, hm, hcv⟩
      cases lo : l o
      · refine ac_xh0 ((hl o ho).trans lo) (by omega) ?_
        by_cases h2 : v2 = 0
        · exact br_t h2 (ac_xw0 (ac_yo1 ho ⟨vo, ac_bs1 (by omega) so ⟨vo, ac_bs0 (by omega) lo (br_t h2 ⟨vo, nm_r (ac_uB' l (by omega) false) ⟨rfl, R0⟩⟩)⟩⟩))
        · exact br_f h2 (ac_xw1 (ac_yo1 ho ⟨vo, ac_bs1 (by omega) so ⟨vo, ac_bs0 (by omega) lo (br_f h2 ⟨vo, nm_r (ac_uB' l (by omega) true) ⟨rfl, R1⟩⟩)⟩⟩))
      · refine ac_xh1 ((hl o ho).trans lo) (by omega) ?_
        by_cases h2 : v2 = 0
        · exact br_t h2 (ac_xw0 (ac_yo1 ho ⟨vo, ac_bs1 (by omega) so ⟨vo, ac_bs1 (by omega) lo (br_t h2 ⟨vo, nm_r (ac_uB' l (by omega) false) ⟨rfl, R0⟩⟩)⟩⟩))
        · exact br_f h2 (ac_xw1 (ac_yo1 ho ⟨vo, ac_bs1 (by omega) so ⟨vo, ac_bs1 (by omega) lo (br_f h2 ⟨vo, nm_r (ac_uB' l (by omega) true) ⟨rfl, R1⟩⟩)⟩⟩))
theorem i_vc_entries {k : Nat} {u : SX} {v : SY} (I : i_Rel k u v) (hk : k + 5 ≤ 2560) (v1 : Int32) : wpX_entries (fun r => wpY_entries (fun r' => r' = r ∧ i_Rel (k + 5) u v) v v1) u v1 := by
  have J : i_Rel (k + 5) u v := I
  obtain ⟨s, l, f, c, w, r, m, ST, CL, cv, mm, be, rfl, rfl, hs, hl, T, hc, hw, hr, hm, hcv⟩ := I
  unfold wpX_entries wpY_entries
  dsimp only
  rcases ac_ix v1 (N := 16) (by decide) with h1 | ⟨o, ho, rfl⟩
  · exact ac_xo0 h1 (ac_yo0 h1 ⟨rfl, J⟩)
  · refine ac_xo1 ho ?_
    have vo : vp_in (nI o) 16 := vp_in_nI ho (by decide)
    cases so : s o
    · exact ac_xh0 ((hs o ho).trans so) (by omega) (ac_yo1 ho ⟨vo, ac_bs0 (by omega) so ⟨rfl, J⟩⟩)
    · exact ac_xh1 ((hs o ho).trans so) (by omega) ⟨vo, ac_yo1 ho ⟨vo, ac_bs1 (by omega) so ⟨vo, rfl, J⟩⟩⟩
theorem i_vc_member {k : Nat} {u : SX} {v : SY} (I : i_Rel k u v) (hk : k + 5 ≤ 2560) (v1 : Int32) (v2 : Int32) (v3 : Int32) : wpX_member (fun r u' => wpY_member (fun r' v' => r' = r ∧ i_Rel (k + 5) u' v') v v1 v2 v3) u v1 v2 v3 := by
  have J : i_Rel (k + 5) u v := I
  obtain ⟨s, l, f, c, w, r, m, ST, CL, cv, mm, be, rfl, rfl, hs, hl, T, hc, hw, hr, hm, hcv⟩ := I
  unfold wpX_member wpY_member
  dsimp only
  rcases ac_gr v1 with h1 | ⟨g, h6, h8, rfl⟩
  · refine ac_xg0 h1 ?_
    by_cases z : v1 < 6
    · exact br_t z ⟨rfl, J⟩
    · exact br_f z (br_t (ac_lel (N := 7) (by decide) (h1.resolve_left z)) ⟨rfl, J⟩)
  · refine ac_xg1 h6 h8 ?_
    have y6 : ¬ nI g < 6 := nI_nlt (b := 6) h6 (by omega)
    have y7 : ¬ 7 < nI g := nI_nlt (a := 7) (by omega) (by decide)
    rcases ac_ix v2 (N := 6) (by decide) with h2 | ⟨p, hp, rfl⟩
    · exact ac_xp0 h2 (br_f y6 (br_f y7 (ac_yp0 h2 ⟨rfl, J⟩)))
    · have vg : vp_in (nI g) 8 := vp_in_nI h8 (by decide)
      have eg : nI g - 6 = nI (g - 6) := pk_sub (b := 6) h6
      have vy : vp_in (nI g - 6) 2 := by rw [eg]; exact vp_in_nI (by omega) (by decide)
      have cg : (nI g).toNatClampNeg = g := nI_clamp (by omega)
      have cy : (nI g - 6).toNatClampNeg = g - 6 := by rw [eg]; exact nI_clamp (by omega)
      have key : mm (g - 6) = cv g := by
        rcases (show g = 6 ∨ g = 7 by omega) with z | z
        · subst z; exact hcv.1.symm
        · subst z; exact hcv.2.1.symm
      have R : ∀ X : Int32, i_Rel (k + 5) (ST, CL, (fun zz => nI (f zz)), upd cv g X, (fun zz => nI (c zz)), (fun zz => nI (w zz)), (fun zz => nI (r zz)), (fun zz => nI (m zz))) ((fun zz => ac_b (s zz)), (fun zz => nI (f zz)), (fun zz => ac_b (l zz)), (upd mm (g - 6) X), (fun zz => nI (c zz)), (fun zz => nI (m zz / 8)), (fun zz => nI (w zz)), (fun zz => nI (r zz)), (fun zz => nI (m zz % 8)), be) :=
        fun X => ⟨s, l, f, c, w, r, m, _, _, upd cv g X, upd mm (g - 6) X, be, rfl, rfl, hs, hl, T, hc, hw, hr, hm, ac_C_up hcv h6 h8 X⟩
      unfold wX_member_34 wX_member_57
      rw [cg, cy, key, ac_bit (cv g) (show p < 32 by omega)]
      refine ac_xp1 hp ⟨vg, ?_⟩
      cases e : bt (cv g) p
      · refine ac_xh0 e (by omega) ⟨vg, ?_⟩
        by_cases h3 : v3 = 0
        · exact br_t h3 (ac_xw0 ⟨vg, nm_e (br_f y6 (br_f y7 (ac_yp1 hp ⟨vy, nm_e (br_t h3 ⟨vy, vy, nm_e ⟨rfl, R _⟩⟩)⟩)))⟩)
        · exact br_f h3 (ac_xw1 ⟨vg, nm_e (br_f y6 (br_f y7 (ac_yp1 hp ⟨vy, nm_e (br_f h3 ⟨vy, vy, nm_e ⟨rfl, R _⟩⟩)⟩)))⟩)
      · refine ac_xh1 e (by omega) ⟨vg, ?_⟩
        by_cases h3 : v3 = 0
        · exact br_t h3 (ac_xw0 ⟨vg, nm_e (br_f y6 (br_f y7 (ac_yp1 hp ⟨vy, nm_e (br_t h3 ⟨vy, vy, nm_e ⟨rfl, R _⟩⟩)⟩)))⟩)
        · exact br_f h3 (ac_xw1 ⟨vg, nm_e (br_f y6 (br_f y7 (ac_yp1 hp ⟨vy, nm_e (br_f h3 ⟨vy, vy, nm_e ⟨rfl, R _⟩⟩)⟩)))⟩)
end
section
/-! U: entry, drop, and what is asked of the rights -/
theorem ac_not16 {x : Int32} (h : nI 16 ≤ x) : ¬ x ≤ 15 := fun z => absurd (ac_lel (N := 15) (by decide) h) (Int32.not_lt.mpr z)
theorem i_vc_entry {k : Nat} {u : SX} {v : SY} (I : i_Rel k u v) (hk : k + 5 ≤ 2560) (v1 : Int32) (v2 : Int32) (v3 : Int32) (v4 : Int32) : wpX_entry (fun r u' => wpY_entry (fun r' v' => r' = r ∧ i_Rel (k + 5) u' v') v v1 v2 v3 v4) u v1 v2 v3 v4 := by
  have J : i_Rel (k + 5) u v := I
  obtain ⟨s, l, f, c, w, r, m, ST, CL, cv, mm, be, rfl, rfl, hs, hl, T, hc, hw, hr, hm, hcv⟩ := I
  unfold wpX_entry wpY_entry
  dsimp only
  rcases ac_ix v1 (N := 16) (by decide) with h1 | ⟨o, ho, rfl⟩
  · exact ac_xo0 h1 (ac_yo0 h1 ⟨rfl, J⟩)
  · refine ac_xo1 ho ?_
    have vo : vp_in (nI o) 16 := vp_in_nI ho (by decide)
    rcases ac_ix v2 (N := 8) (by decide) with h2 | ⟨a, ha, rfl⟩
    · by_cases z : v2 < 0
      · exact br_t z (ac_yo1 ho (br_t z ⟨rfl, J⟩))
      · have z2 := h2.resolve_left z
        exact br_f z (br_f (Int32.not_lt.mpr z2) (ac_yo1 ho (br_f z (br_t (ac_lel (N := 7) (by decide) z2) ⟨rfl, J⟩))))
    · have a0 : ¬ nI a < 0 := nI_pos (by omega)
      have a1 : nI a < 8 := nI_lt (b := 8) ha (by decide)
      have a2 : ¬ 7 < nI a := nI_nlt (a := 7) (by omega) (by decide)
      refine br_f a0 (br_t a1 ?_)
      rcases ac_ix v3 (N := 16) (by decide) with h3 | ⟨b, hb, rfl⟩
      · by_cases z : v3 < 0
        · exact br_t z (ac_yo1 ho (br_f a0 (br_f a2 (br_t z ⟨rfl, J⟩))))
        · have z2 := h3.resolve_left z
          exact br_f z (br_t z2 (ac_yo1 ho (br_f a0 (br_f a2 (br_f z (br_t (ac_lel (N := 15) (by decide) z2) ⟨rfl, J⟩))))))
      · have b0 : ¬ nI b < 0 := nI_pos (by omega)
        have b1 : ¬ 16 ≤ nI b := nI_ge (b := 16) hb (by decide)
        have b2 : ¬ 15 < nI b := nI_nlt (a := 15) (by omega) (by decide)
        refine br_f b0 (br_f b1 ?_)
        rcases ac_ix v4 (N := 16) (by decide) with h4 | ⟨d, hd, rfl⟩
        · by_cases z : v4 < 0
          · exact br_t z (ac_yo1 ho (br_f a0 (br_f a2 (br_f b0 (br_f b2 (br_t z ⟨rfl, J⟩))))))
          · have z2 := h4.resolve_left z
            exact br_f z (br_f (Int32.not_lt.mpr z2) (ac_yo1 ho (br_f a0 (br_f a2 (br_f b0 (br_f b2 (br_f z (br_f (ac_not16 z2) ⟨rfl, J⟩))))))))
        · have d0 : ¬ nI d < 0 := nI_pos (by omega)
          have d1 : nI d < 16 := nI_lt (b := 16) hd (by decide)
          have d2 : nI d ≤ 15 := nI_le (b := 15) (by omega) (by decide)
          refine br_f d0 (br_t d1 ?_)
          cases so : s o
          · exact ac_xh0 ((hs o ho).trans so) (by omega) (ac_yo1 ho (br_f a0 (br_f a2 (br_f b0 (br_f b2 (br_f d0 (br_t d2 ⟨vo, ac_bs0 (by omega) so ⟨rfl, J⟩⟩)))))))
          · refine ac_xh1 ((hs o ho).trans so) (by omega) ⟨vo, ?_⟩
            have hco := hc o
            have co : (nI o).toNatClampNeg = o := nI_clamp (by omega)
            have es : 4 * nI o + nI (c o) = nI (4 * o + c o) := by rw [ac_4, nI_add]
            rw [co, es]
            by_cases h5 : c o < 4
            · have x4 : nI (c o) < 4 := nI_lt (b := 4) h5 (by decide)
              have y4 : ¬ nI (c o) = 4 := fun z => absurd ((nI_eq (a := c o) (b := 4) (by omega) (by decide)).mp z) (by omega)
              have vs : vp_in (nI (4 * o + c o)) 64 := vp_in_nI (by omega) (by decide)
              have cs : (nI (4 * o + c o)).toNatClampNeg = 4 * o + c o := nI_clamp (by omega)
              have uc : upd (fun zz => nI (c zz)) o (nI (c o) + 1) = fun zz => nI (ac_up c o (c o + 1) zz) := by rw [nI_1, ac_uN]
              have uw : upd (fun zz => nI (w zz)) (nI (4 * o + c o)).toNatClampNeg (nI a) = fun zz => nI (ac_up w (4 * o + c o) a zz) := by rw [cs, ac_uN]
              have ur : upd (fun zz => nI (r zz)) (nI (4 * o + c o)).toNatClampNeg (nI b) = fun zz => nI (ac_up r (4 * o + c o) b zz) := by rw [cs, ac_uN]
              have um : upd (fun zz => nI (m zz)) (nI (4 * o + c o)).toNatClampNeg (nI d) = fun zz => nI (ac_up m (4 * o + c o) d zz) := by rw [cs, ac_uN]
              have uf : upd (fun zz => nI (m zz % 8)) (nI (4 * o + c o)).toNatClampNeg (nI d &&& 7) = fun zz => nI (ac_up m (4 * o + c o) d zz % 8) := by rw [cs, ac_m7 d hd]; exact ac_uH (fun x => x % 8) m _ d
              have R : i_Rel (k + 5) (ST, CL, (fun zz => nI (f zz)), cv, (fun zz => nI ((ac_up c o (c o + 1)) zz)), (fun zz => nI ((ac_up w (4 * o + c o) a) zz)), (fun zz => nI ((ac_up r (4 * o + c o) b) zz)), (fun zz => nI ((ac_up m (4 * o + c o) d) zz))) ((fun zz => ac_b (s zz)), (fun zz => nI (f zz)), (fun zz => ac_b (l zz)), mm, (fun zz => nI ((ac_up c o (c o + 1)) zz)), (fun zz => nI ((ac_up m (4 * o + c o) d) zz / 8)), (fun zz => nI ((ac_up w (4 * o + c o) a) zz)), (fun zz => nI ((ac_up r (4 * o + c o) b) zz)), (fun zz => nI ((ac_up m (4 * o + c o) d) zz % 8)), be) :=
                ⟨s, l, f, ac_up c o (c o + 1), ac_up w (4 * o + c o) a, ac_up r (4 * o + c o) b, ac_up m (4 * o + c o) d, _, _, cv, mm, be, rfl, rfl, hs, hl, T, ac_ub hc (by omega), ac_ub hw ha, ac_ub hr hb, ac_ub hm hd, hcv⟩
              refine br_t x4 ⟨vo, nm_e ⟨vs, nm_r uw ⟨vs, nm_r ur ⟨vs, nm_r um ⟨vo, vo, nm_r uc ⟨vo, ?_⟩⟩⟩⟩⟩⟩
              refine ac_yo1 ho (br_f a0 (br_f a2 (br_f b0 (br_f b2 (br_f d0 (br_t d2 ⟨vo, ?_⟩))))))
              rw [so]
              refine br_f ac_10 ⟨vo, br_f y4 ⟨vo, nm_e ?_⟩⟩
              unfold wY_entry_97
              rw [co]
              by_cases h7 : d ≤ 7
              · have ua : upd (fun zz => nI (m zz / 8)) (nI (4 * o + c o)).toNatClampNeg (vp_nar .boolean 0) = fun zz => nI (ac_up m (4 * o + c o) d zz / 8) := by
                  rw [cs, ← nI_0, ac_b2 0 (by omega), show (0 : Nat) = d / 8 by omega]; exact ac_uH (fun x => x / 8) m _ d
                exact br_t (nI_le (b := 7) h7 (by decide)) ⟨vs, nm_r ua ⟨vs, nm_r uw ⟨vs, nm_r ur ⟨vs, nm_r uf ⟨vo, vo, nm_r uc ⟨vo, rfl, R⟩⟩⟩⟩⟩⟩
              · have ua : upd (fun zz => nI (m zz / 8)) (nI (4 * o + c o)).toNatClampNeg (vp_nar .boolean 1) = fun zz => nI (ac_up m (4 * o + c o) d zz / 8) := by
                  have e1 : vp_nar .boolean 1 = nI (d / 8) := by rw [show d / 8 = 1 by omega]; exact ac_b2 1 (by omega)
                  rw [cs, e1]; exact ac_uH (fun x => x / 8) m _ d
                exact br_f (nI_ge (a := 7) (by omega) (by omega)) ⟨vs, nm_r ua ⟨vs, nm_r uw ⟨vs, nm_r ur ⟨vs, nm_r uf ⟨vo, vo, nm_r uc ⟨vo, rfl, R⟩⟩⟩⟩⟩⟩
            · have x4 : ¬ nI (c o) < 4 := nI_nlt (b := 4) (by omega) (by omega)
              have y4 : nI (c o) = 4 := congrArg nI (show c o = 4 by omega)
              refine br_f x4 (ac_yo1 ho (br_f a0 (br_f a2 (br_f b0 (br_f b2 (br_f d0 (br_t d2 ⟨vo, ?_⟩)))))))
              rw [so]
              exact br_f ac_10 ⟨vo, br_t y4 ⟨rfl, J⟩⟩
theorem i_vc_drop {k : Nat} {u : SX} {v : SY} (I : i_Rel k u v) (hk : k + 5 ≤ 2560) (v1 : Int32) (v2 : Int32) : wpX_drop (fun r u' => wpY_drop (fun r' v' => r' = r ∧ i_Rel (k + 5) u' v') v v1 v2) u v1 v2 := by
  have J : i_Rel (k + 5) u v := I
  obtain ⟨s, l, f, c, w, r, m, ST, CL, cv, mm, be, rfl, rfl, hs, hl, T, hc, hw, hr, hm, hcv⟩ := I
  unfold wpX_drop wpY_drop
  dsimp only
  rcases ac_ix v1 (N := 16) (by decide) with h1 | ⟨o, ho, rfl⟩
  · exact ac_xo0 h1 (ac_yo0 h1 ⟨rfl, J⟩)
  · refine ac_xo1 ho ?_
    have vo : vp_in (nI o) 16 := vp_in_nI ho (by decide)
    have hco := hc o
    have co : (nI o).toNatClampNeg = o := nI_clamp (by omega)
    have es : 4 * nI o + nI (c o) = nI (4 * o + c o) := by rw [ac_4, nI_add]
    cases so : s o
    · exact ac_xh0 ((hs o ho).trans so) (by omega) (ac_yo1 ho ⟨vo, ac_bs0 (by omega) so ⟨rfl, J⟩⟩)
    · refine ac_xh1 ((hs o ho).trans so) (by omega) ?_
      by_cases z : v2 < 0
      · exact br_t z (ac_yo1 ho ⟨vo, ac_bs1 (by omega) so (br_t z ⟨rfl, J⟩)⟩)
      · obtain ⟨i, hi, rfl⟩ := nI_of z
        rw [co, es]
        by_cases h2 : i < c o
        · have x2 : nI i < nI (c o) := nI_lt h2 (by omega)
          have eE : nI (4 * o + c o) - 1 = nI (4 * o + c o - 1) := pk_sub (b := 1) (by omega)
          have ea : 4 * nI o + nI i = nI (4 * o + i) := by rw [ac_4, nI_add]
          have R : i_Rel (k + 5) (ST, CL, (fun zz => nI (f zz)), cv, (fun zz => nI ((ac_up c o (c o - 1)) zz)), (fun zz => nI ((ac_sh (4 * o + i) (4 * o + c o - 1 - (4 * o + i)) w) zz)), (fun zz => nI ((ac_sh (4 * o + i) (4 * o + c o - 1 - (4 * o + i)) r) zz)), (fun zz => nI ((ac_sh (4 * o + i) (4 * o + c o - 1 - (4 * o + i)) m) zz))) ((fun zz => ac_b (s zz)), (fun zz => nI (f zz)), (fun zz => ac_b (l zz)), mm, (fun zz => nI ((ac_up c o (c o - 1)) zz)), (fun zz => nI ((ac_sh (4 * o + i) (4 * o + c o - 1 - (4 * o + i)) m) zz / 8)), (fun zz => nI ((ac_sh (4 * o + i) (4 * o + c o - 1 - (4 * o + i)) w) zz)), (fun zz => nI ((ac_sh (4 * o + i) (4 * o + c o - 1 - (4 * o + i)) r) zz)), (fun zz => nI ((ac_sh (4 * o + i) (4 * o + c o - 1 - (4 * o + i)) m) zz % 8)), be) :=
            ⟨s, l, f, ac_up c o (c o - 1), ac_sh (4 * o + i) (4 * o + c o - 1 - (4 * o + i)) w, ac_sh (4 * o + i) (4 * o + c o - 1 - (4 * o + i)) r, ac_sh (4 * o + i) (4 * o + c o - 1 - (4 * o + i)) m, _, _, cv, mm, be, rfl, rfl, hs, hl, T, ac_ub hc (by omega), ac_sh_b hw, ac_sh_b hr, ac_sh_b hm, hcv⟩
          have KY := ac_y_dr_l (post := fun r' v' => r' = nI (c o - 1) ∧ i_Rel (k + 5) (ST, CL, (fun zz => nI (f zz)), cv, (fun zz => nI ((ac_up c o (c o - 1)) zz)), (fun zz => nI ((ac_sh (4 * o + i) (4 * o + c o - 1 - (4 * o + i)) w) zz)), (fun zz => nI ((ac_sh (4 * o + i) (4 * o + c o - 1 - (4 * o + i)) r) zz)), (fun zz => nI ((ac_sh (4 * o + i) (4 * o + c o - 1 - (4 * o + i)) m) zz))) v') (s := s) (l := l) (f := f) (w := w) (r := r) (mm := mm) (be := be) (a := 4 * o + i) (E := 4 * o + c o - 1) hm hc ho (by omega) (by omega) ⟨rfl, R⟩ (4 * o + c o - 1 - (4 * o + i)) 0 (4 * o + c o) (by omega) (by omega)
          simp only [ac_sh_0, Nat.add_zero] at KY
          refine br_f z ⟨vo, br_t x2 ⟨vo, nm_r eE (nm_r ea ?_)⟩⟩
          have KX := fun (post : Int32 → SX → Prop) kk => ac_x_dr_l (post := post) (ST := ST) (CL := CL) (f := f) (w := w) (r := r) (m := m) (cv := cv) (a := 4 * o + i) (E := 4 * o + c o - 1) hc ho (by omega) (by omega) kk (4 * o + c o - 1 - (4 * o + i)) 0 (4 * o + c o) (by omega) (by omega)
          simp only [ac_sh_0, Nat.add_zero] at KX
          refine ⟨4 * o + c o, KX _ ?_⟩
          refine ac_yo1 ho ⟨vo, ?_⟩
          rw [so]
          exact br_f ac_10 (br_f z ⟨vo, br_t x2 (nm_r ea ⟨4 * o + c o, KY⟩)⟩)
        · have x2 : ¬ nI i < nI (c o) := nI_nlt (by omega) (by omega)
          refine br_f z ⟨vo, br_f x2 (ac_yo1 ho ⟨vo, ?_⟩)⟩
          rw [so]
          exact br_f ac_10 (br_f z ⟨vo, br_f x2 ⟨rfl, J⟩⟩)
end
section
/-! V: what is asked of the rights -/
theorem i_vc_rights {k : Nat} {u : SX} {v : SY} (I : i_Rel k u v) (hk : k + 5 ≤ 2560) (v1 : Int32) (v2 : Int32) : wpX_rights (fun r => wpY_rights (fun r' => r' = r ∧ i_Rel (k + 5) u v) v v1 v2) u v1 v2 := by
  have J : i_Rel (k + 5) u v := I
  obtain ⟨s, l, f, c, w, r, m, ST, CL, cv, mm, be, rfl, rfl, hs, hl, T, hc, hw, hr, hm, hcv⟩ := I
  unfold wpX_rights
  dsimp only
  rcases ac_ix v1 (N := 16) (by decide) with h1 | ⟨o, ho, rfl⟩
  · refine ac_xo0 h1 ?_
    unfold wpY_rights
    try dsimp only
    exact ac_yo0 h1 ⟨rfl, J⟩
  · refine ac_xo1 ho ?_
    rcases ac_ix v2 (N := 6) (by decide) with h2 | ⟨p, hp, rfl⟩
    · refine ac_xp0 h2 ?_
      unfold wpY_rights
      try dsimp only
      exact ac_yo1 ho (ac_yp0 h2 ⟨rfl, J⟩)
    · refine ac_xp1 hp ?_
      cases so : s o
      · exact ac_xh0 ((hs o ho).trans so) (by omega) (ac_y_rs hm hw hc T.2.1 hcv ho hp ⟨by rw [so]; rfl, J⟩)
      · exact ac_xh1 ((hs o ho).trans so) (by omega) (ac_x_rc hc hw T.2.1 hl ho (by omega) (ac_y_rs hm hw hc T.2.1 hcv ho hp ⟨by rw [if_pos so]; exact ac_rs_set hm hr l p (ac_T15 T ho so), J⟩))
theorem i_vc_may {k : Nat} {u : SX} {v : SY} (I : i_Rel k u v) (hk : k + 5 ≤ 2560) (v1 : Int32) (v2 : Int32) (v3 : Int32) : wpX_may (fun r => wpY_may (fun r' => r' = r ∧ i_Rel (k + 5) u v) v v1 v2 v3) u v1 v2 v3 := by
  have J : i_Rel (k + 5) u v := I
  obtain ⟨s, l, f, c, w, r, m, ST, CL, cv, mm, be, rfl, rfl, hs, hl, T, hc, hw, hr, hm, hcv⟩ := I
  unfold wpX_may wpY_may
  dsimp only
  rcases ac_ix v1 (N := 16) (by decide) with h1 | ⟨o, ho, rfl⟩
  · exact ac_xo0 h1 (ac_yo0 h1 ⟨rfl, J⟩)
  · refine ac_xo1 ho ?_
    have vo : vp_in (nI o) 16 := vp_in_nI ho (by decide)
    rcases ac_ix v2 (N := 6) (by decide) with h2 | ⟨p, hp, rfl⟩
    · exact ac_xp0 h2 (ac_yo1 ho (ac_yp0 h2 ⟨rfl, J⟩))
    · refine ac_xp1 hp ?_
      rcases ac_ix v3 (N := 4) (by decide) with h3 | ⟨b, hb, rfl⟩
      · exact ac_xr0 h3 (ac_yo1 ho (ac_yp1 hp (ac_yr0 h3 ⟨rfl, J⟩)))
      · refine ac_xr1 hb ?_
        cases so : s o
        · exact ac_xh0 ((hs o ho).trans so) (by omega) (ac_yo1 ho (ac_yp1 hp (ac_yr1 hb ⟨vo, ac_bs0 (by omega) so ⟨rfl, J⟩⟩)))
        · refine ac_xh1 ((hs o ho).trans so) (by omega) (ac_x_al hm hc hw T.2.1 hl ho (by omega) (by omega) ?_)
          have e17 := ac_al_17 (c := c) (w := w) (r := r) (m := m) (cv := cv) l p b (ac_T15 T ho so)
          cases e : ac_al f c w r m cv l p b 16 o
          · refine br_t rfl (ac_yo1 ho (ac_yp1 hp (ac_yr1 hb ⟨vo, ac_bs1 (by omega) so (ac_y_al hm hw hc T.2.1 hcv ho hp (by omega) ?_)⟩)))
            rw [e17, e]
            exact br_t rfl ⟨rfl, J⟩
          · refine br_f ac_10 (ac_yo1 ho (ac_yp1 hp (ac_yr1 hb ⟨vo, ac_bs1 (by omega) so (ac_y_al hm hw hc T.2.1 hcv ho hp (by omega) ?_)⟩)))
            rw [e17, e]
            exact br_f ac_10 ⟨rfl, J⟩
theorem i_vc_who {k : Nat} {u : SX} {v : SY} (I : i_Rel k u v) (hk : k + 5 ≤ 2560) (v1 : Int32) (v2 : Int32) : wpX_who (fun r => wpY_who (fun r' => r' = r ∧ i_Rel (k + 5) u v) v v1 v2) u v1 v2 := by
  have J : i_Rel (k + 5) u v := I
  obtain ⟨s, l, f, c, w, r, m, ST, CL, cv, mm, be, rfl, rfl, hs, hl, T, hc, hw, hr, hm, hcv⟩ := I
  unfold wpX_who wpY_who
  dsimp only
  rcases ac_ix v1 (N := 16) (by decide) with h1 | ⟨o, ho, rfl⟩
  · exact ac_xo0 h1 (ac_yo0 h1 ⟨rfl, J⟩)
  · refine ac_xo1 ho ?_
    have vo : vp_in (nI o) 16 := vp_in_nI ho (by decide)
    rcases ac_ix v2 (N := 4) (by decide) with h2 | ⟨b, hb, rfl⟩
    · exact ac_xr0 h2 (ac_yo1 ho (ac_yr0 h2 ⟨rfl, J⟩))
    · refine ac_xr1 hb ?_
      cases so : s o
      · exact ac_xh0 ((hs o ho).trans so) (by omega) (ac_yo1 ho (ac_yr1 hb ⟨vo, ac_bs0 (by omega) so ⟨rfl, J⟩⟩))
      · refine ac_xh1 ((hs o ho).trans so) (by omega) ⟨7, ac_x_who_l hm hc hw T.2.1 hl ho (by omega) ?_ 6 0 7 rfl (by omega)⟩
        exact ac_yo1 ho (ac_yr1 hb ⟨vo, ac_bs1 (by omega) so ⟨7, ac_y_who_l hm hw hc T.2.1 hcv ho (by omega) ⟨ac_set_e 6 (fun p _ => ac_al_17 l p b (ac_T15 T ho so)), J⟩ 6 0 7 rfl (by omega)⟩⟩)
theorem i_vc_count {k : Nat} {u : SX} {v : SY} (I : i_Rel k u v) (hk : k + 5 ≤ 2560) (v1 : Int32) (v2 : Int32) : wpX_count (fun r => wpY_count (fun r' => r' = r ∧ i_Rel (k + 5) u v) v v1 v2) u v1 v2 := by
  have J : i_Rel (k + 5) u v := I
  obtain ⟨s, l, f, c, w, r, m, ST, CL, cv, mm, be, rfl, rfl, hs, hl, T, hc, hw, hr, hm, hcv⟩ := I
  unfold wpX_count wpY_count
  dsimp only
  rcases ac_ix v1 (N := 6) (by decide) with h1 | ⟨p, hp, rfl⟩
  · exact ac_xp0 h1 (ac_yp0 h1 ⟨rfl, J⟩)
  · refine ac_xp1 hp ?_
    rcases ac_ix v2 (N := 4) (by decide) with h2 | ⟨b, hb, rfl⟩
    · exact ac_xr0 h2 (ac_yp1 hp (ac_yr0 h2 ⟨rfl, J⟩))
    · refine ac_xr1 hb ⟨17, ac_x_cnt_l hs hm hc hw T.2.1 hl (by omega) (by omega) ?_ 16 0 17 rfl (by omega)⟩
      refine ac_yp1 hp (ac_yr1 hb ⟨17, ac_y_cnt_l hm hw hc T.2.1 hcv hp (by omega) ⟨congrArg nI (ac_cn_e 16 ?_), J⟩ 16 0 17 rfl (by omega)⟩)
      intro x hx
      try dsimp only
      cases sx : s x
      · rfl
      · rw [ac_al_17 l p b (ac_T15 T hx sx)]
theorem i_vc_reach {k : Nat} {u : SX} {v : SY} (I : i_Rel k u v) (hk : k + 5 ≤ 2560) (v1 : Int32) : wpX_reach (fun r => wpY_reach (fun r' => r' = r ∧ i_Rel (k + 5) u v) v v1) u v1 := by
  have J : i_Rel (k + 5) u v := I
  obtain ⟨s, l, f, c, w, r, m, ST, CL, cv, mm, be, rfl, rfl, hs, hl, T, hc, hw, hr, hm, hcv⟩ := I
  unfold wpX_reach wpY_reach
  dsimp only
  rcases ac_ix v1 (N := 6) (by decide) with h1 | ⟨p, hp, rfl⟩
  · exact ac_xp0 h1 (ac_yp0 h1 ⟨rfl, J⟩)
  · refine ac_xp1 hp ⟨17, ac_x_rea_l hs hm hc hw T.2.1 hl (by omega) ?_ 16 0 17 rfl (by omega)⟩
    refine ac_yp1 hp ⟨17, ac_y_rea_l hm hw hc T.2.1 hcv hp ⟨congrArg nI (ac_cn_e 16 ?_), J⟩ 16 0 17 rfl (by omega)⟩
    intro x hx
    try dsimp only
    cases sx : s x
    · rfl
    · have t15 := ac_T15 T hx sx
      rw [ac_gxy T.1 T.2.1 (fun y _ hy => (ac_al_17 (c := c) (w := w) (r := r) (m := m) (cv := cv) l p 0 hy).symm) 15 x hx t15 t15]
theorem i_vc_stir {k : Nat} {u : SX} {v : SY} (I : i_Rel k u v) (hk : k + 5 ≤ 2560) (v1 : Int32) : wpX_stir (fun r => wpY_stir (fun r' v' => r' = r ∧ i_Rel (k + 5) u v') v v1) u v1 := by
  have J : i_Rel (k + 5) u v := I
  obtain ⟨s, l, f, c, w, r, m, ST, CL, cv, mm, be, rfl, rfl, hs, hl, T, hc, hw, hr, hm, hcv⟩ := I
  unfold wpX_stir wpY_stir
  dsimp only
  rcases ac_ix v1 (N := 16) (by decide) with h1 | ⟨o, ho, rfl⟩
  · exact ac_xo0 h1 (ac_yo0 h1 ⟨rfl, J⟩)
  · refine ac_xo1 ho ?_
    have vo : vp_in (nI o) 16 := vp_in_nI ho (by decide)
    cases so : s o
    · exact ac_xh0 ((hs o ho).trans so) (by omega) (ac_yo1 ho ⟨vo, ac_bs0 (by omega) so ⟨rfl, J⟩⟩)
    · refine ac_xh1 ((hs o ho).trans so) (by omega) (nm_e ⟨17, ac_x_st_l hs hc hw T.2.1 hl (ac_hxor hl ho) ?_ 16 0 17 rfl (by omega)⟩)
      refine ac_yo1 ho ⟨vo, ac_bs1 (by omega) so ⟨97, ac_y_s1_l hm hw hc T.2.1 hcv ho (fun be' hb => ⟨97, ac_y_s2_l (l := ac_up l o (!l o)) hm hw hc T.2.1 hcv ho ⟨congrArg nI ?_, ?_⟩ 96 0 97 rfl (by omega)⟩) 96 0 97 be rfl (by omega) (fun j hj => by omega)⟩⟩
      · rw [ac_cn_e (q' := fun j => !decide (ac_rv s f c w r m cv l (j % 6) (j / 6) = ac_rv s f c w r m cv (ac_up l o (!l o)) (j % 6) (j / 6))) 96 (fun j hj => by rw [hb j hj])]
        refine (ac_pairs (fun x p => !decide (ac_rv s f c w r m cv l p x = ac_rv s f c w r m cv (ac_up l o (!l o)) p x)) 16).trans (ac_sm_e 16 (fun x hx => ?_))
        try dsimp only
        cases sx : s x
        · rw [if_neg (by decide), ← ac_cn_0 6]
          refine ac_cn_e 6 (fun p _ => ?_)
          try dsimp only
          unfold ac_rv
          rw [sx]
          simp
        · rw [if_pos rfl]
          refine ac_cn_e 6 (fun p _ => ?_)
          have t15 := ac_T15 T hx sx
          try dsimp only
          unfold ac_rv
          rw [if_pos sx, if_pos sx, ac_rs_set hm hr l p t15, ac_rs_set hm hr (ac_up l o (!l o)) p t15]
      · refine ⟨s, l, f, c, w, r, m, _, _, cv, mm, be', rfl, ?_, hs, hl, T, hc, hw, hr, hm, hcv⟩
        have e1 : ac_up (ac_up l o (!l o)) o (!ac_up l o (!l o) o) = l := by
          rw [ac_us, Bool.not_not]
          exact ac_uu l o (!l o)
        rw [e1]
end
