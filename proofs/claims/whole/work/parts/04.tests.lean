/-! M: methods that only test -/
theorem ac_10 : ¬ (1 : Int32) = 0 := by decide
def ac_out (N : Nat) (x : Int32) : Prop := x < 0 ∨ nI N ≤ x
theorem ac_ix (x : Int32) {N : Nat} (hN : N < 2 ^ 31) : ac_out N x ∨ ∃ j, j < N ∧ x = nI j := by
  rcases pk_ix x hN with h | h | h
  · exact Or.inl (Or.inl h)
  · exact Or.inl (Or.inr h)
  · exact Or.inr h
theorem ac_lel {N : Nat} {x : Int32} (hN : N + 1 < 2 ^ 31) (h : nI (N + 1) ≤ x) : nI N < x := by
  rw [Int32.le_iff_toInt_le, nI_toInt hN] at h
  rw [Int32.lt_iff_toInt_lt, nI_toInt (by omega)]
  omega
theorem ac_ltle {x : Int32} (h : x < 0) : x ≤ 0 := by
  rw [Int32.lt_iff_toInt_lt] at h
  rw [Int32.le_iff_toInt_le]
  omega
theorem ac_lt0n {N : Nat} {x : Int32} (hN : N < 2 ^ 31) (h : x < 0) : x < nI N := by
  rw [Int32.lt_iff_toInt_lt, show (0 : Int32).toInt = 0 from by decide] at h
  rw [Int32.lt_iff_toInt_lt, nI_toInt hN]
  omega
section
variable {A B : Prop} {post : Int32 → Prop} {x y : Int32} {n : Nat} {u : SY}
theorem ac_xo1 (h : n < 16) (k : B) : wpX_isObject (fun r => (r = 0 → A) ∧ (¬ r = 0 → B)) (nI n) := br_f (nI_pos (by omega)) (br_f (nI_ge (b := 16) h (by decide)) (br_f ac_10 k))
theorem ac_xo0 (h : ac_out 16 x) (k : A) : wpX_isObject (fun r => (r = 0 → A) ∧ (¬ r = 0 → B)) x := by
  by_cases z : x < 0
  · exact br_t z (br_t rfl k)
  · exact br_f z (br_t (h.resolve_left z) (br_t rfl k))
theorem ac_xp1 (h : n < 6) (k : B) : wpX_isPerson (fun r => (r = 0 → A) ∧ (¬ r = 0 → B)) (nI n) := br_f (nI_pos (by omega)) (br_f (nI_ge (b := 6) h (by decide)) (br_f ac_10 k))
theorem ac_xp0 (h : ac_out 6 x) (k : A) : wpX_isPerson (fun r => (r = 0 → A) ∧ (¬ r = 0 → B)) x := by
  by_cases z : x < 0
  · exact br_t z (br_t rfl k)
  · exact br_f z (br_t (h.resolve_left z) (br_t rfl k))
theorem ac_xr1 (h : n < 4) (k : B) : wpX_isRight (fun r => (r = 0 → A) ∧ (¬ r = 0 → B)) (nI n) := br_f (nI_pos (by omega)) (br_f (nI_ge (b := 4) h (by decide)) (br_f ac_10 k))
theorem ac_xr0 (h : ac_out 4 x) (k : A) : wpX_isRight (fun r => (r = 0 → A) ∧ (¬ r = 0 → B)) x := by
  by_cases z : x < 0
  · exact br_t z (br_t rfl k)
  · exact br_f z (br_t (h.resolve_left z) (br_t rfl k))
theorem ac_xm1 (h0 : 0 < n) (h : n < 16) (k : B) : wpX_isMovable (fun r => (r = 0 → A) ∧ (¬ r = 0 → B)) (nI n) := br_f (nI_nle h0 (by omega)) (br_f (nI_ge (b := 16) h (by decide)) (br_f ac_10 k))
theorem ac_xm0 (h : ac_out 16 x ∨ x = 0) (k : A) : wpX_isMovable (fun r => (r = 0 → A) ∧ (¬ r = 0 → B)) x := by
  by_cases z : x ≤ 0
  · exact br_t z (br_t rfl k)
  · refine br_f z (br_t ?_ (br_t rfl k))
    rcases h with (h | h) | h
    · exact absurd (ac_ltle h) z
    · exact h
    · exact absurd (by rw [h]; exact Int32.le_refl 0) z
theorem ac_xg1 (h6 : 6 ≤ n) (h : n < 8) (k : B) : wpX_isGroup (fun r => (r = 0 → A) ∧ (¬ r = 0 → B)) (nI n) := br_f (nI_nlt (b := 6) h6 (by omega)) (br_f (nI_ge (b := 8) h (by decide)) (br_f ac_10 k))
theorem ac_xg0 (h : x < 6 ∨ nI 8 ≤ x) (k : A) : wpX_isGroup (fun r => (r = 0 → A) ∧ (¬ r = 0 → B)) x := by
  by_cases z : x < 6
  · exact br_t z (br_t rfl k)
  · exact br_f z (br_t (h.resolve_left z) (br_t rfl k))
theorem ac_xh (hn : n < 32) (k : post (ac_b (bt x n))) : wpX_has post x (nI n) := by
  unfold wpX_has
  rw [ac_bit x hn]
  cases e : bt x n
  · rw [e] at k; exact br_t rfl k
  · rw [e] at k; exact br_f ac_10 k
theorem ac_xh1 (hb : bt x n = true) (hn : n < 32) (k : B) : wpX_has (fun r => (r = 0 → A) ∧ (¬ r = 0 → B)) x (nI n) := ac_xh hn (by rw [hb]; exact br_f ac_10 k)
theorem ac_xh0 (hb : bt x n = false) (hn : n < 32) (k : A) : wpX_has (fun r => (r = 0 → A) ∧ (¬ r = 0 → B)) x (nI n) := ac_xh hn (by rw [hb]; exact br_t rfl k)
theorem ac_xw1 (k : post (x ||| ((1 : Int32) <<< (y &&& 31)))) : wpX_with post x y 1 := nm_e (br_f ac_10 k)
theorem ac_xw0 (k : post (x &&& (((1 : Int32) <<< (y &&& 31)) ^^^ (-1)))) : wpX_with post x y 0 := nm_e (br_t rfl k)
theorem ac_yo1 (h : n < 16) (k : B) : wpY_isObject (fun r => (r = 0 → A) ∧ (¬ r = 0 → B)) u (nI n) := br_f (nI_pos (by omega)) (br_f (nI_nlt (a := 15) (by omega) (by decide)) (br_f ac_10 k))
theorem ac_yo0 (h : ac_out 16 x) (k : A) : wpY_isObject (fun r => (r = 0 → A) ∧ (¬ r = 0 → B)) u x := by
  by_cases z : x < 0
  · exact br_t z (br_t rfl k)
  · exact br_f z (br_t (ac_lel (N := 15) (by decide) (h.resolve_left z)) (br_t rfl k))
theorem ac_yp1 (h : n < 6) (k : B) : wpY_isPerson (fun r => (r = 0 → A) ∧ (¬ r = 0 → B)) u (nI n) := br_f (nI_pos (by omega)) (br_f (nI_nlt (a := 5) (by omega) (by decide)) (br_f ac_10 k))
theorem ac_yp0 (h : ac_out 6 x) (k : A) : wpY_isPerson (fun r => (r = 0 → A) ∧ (¬ r = 0 → B)) u x := by
  by_cases z : x < 0
  · exact br_t z (br_t rfl k)
  · exact br_f z (br_t (ac_lel (N := 5) (by decide) (h.resolve_left z)) (br_t rfl k))
theorem ac_yr1 (h : n < 4) (k : B) : wpY_isRight (fun r => (r = 0 → A) ∧ (¬ r = 0 → B)) u (nI n) := br_f (nI_pos (by omega)) (br_f (nI_nlt (a := 3) (by omega) (by decide)) (br_f ac_10 k))
theorem ac_yr0 (h : ac_out 4 x) (k : A) : wpY_isRight (fun r => (r = 0 → A) ∧ (¬ r = 0 → B)) u x := by
  by_cases z : x < 0
  · exact br_t z (br_t rfl k)
  · exact br_f z (br_t (ac_lel (N := 3) (by decide) (h.resolve_left z)) (br_t rfl k))
end
section
variable {A B : Prop} {s : Nat → Bool} {f : Nat → Nat} {n a N : Nat}
/-- a branch on a boolean of an array, on a natural of one -/
theorem ac_bs1 (hn : n < 2 ^ 31) (h : s n = true) (k : B) : (ac_b (s (nI n).toNatClampNeg) = 0 → A) ∧ (¬ ac_b (s (nI n).toNatClampNeg) = 0 → B) := by
  rw [nI_clamp hn, h]; exact br_f ac_10 k
theorem ac_bs0 (hn : n < 2 ^ 31) (h : s n = false) (k : A) : (ac_b (s (nI n).toNatClampNeg) = 0 → A) ∧ (¬ ac_b (s (nI n).toNatClampNeg) = 0 → B) := by
  rw [nI_clamp hn, h]; exact br_t rfl k
theorem ac_bn1 (hn : n < 2 ^ 31) (hf : f n < 2 ^ 31) (ha : a < 2 ^ 31) (k1 : f n = a → A) (k0 : f n ≠ a → B) : (nI (f (nI n).toNatClampNeg) = nI a → A) ∧ (¬ nI (f (nI n).toNatClampNeg) = nI a → B) := by
  rw [nI_clamp hn, nI_eq hf ha]; exact ⟨k1, k0⟩
end
theorem ac_4 (o : Nat) : 4 * nI o = nI (4 * o) := pk_mul 4 o
