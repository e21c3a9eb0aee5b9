/-! Q: the relation -/
def ac_I (s l : Nat → Bool) (f c w r m : Nat → Nat) (ST CL : Int32) (cv mm : Nat → Int32) : Prop :=
  (∀ o, o < 16 → bt ST o = s o) ∧ (∀ o, o < 16 → bt CL o = l o) ∧ ac_T s f ∧ (∀ o, c o < 5) ∧ (∀ j, w j < 8) ∧ (∀ j, r j < 16) ∧ (∀ j, m j < 16) ∧ ac_C cv mm
def i_Rel (_ : Nat) (u : SX) (v : SY) : Prop := ∃ (s l : Nat → Bool) (f c w r m : Nat → Nat) (ST CL : Int32) (cv mm be : Nat → Int32), u = (ST, CL, (fun zz => nI (f zz)), cv, (fun zz => nI (c zz)), (fun zz => nI (w zz)), (fun zz => nI (r zz)), (fun zz => nI (m zz))) ∧ v = ((fun zz => ac_b (s zz)), (fun zz => nI (f zz)), (fun zz => ac_b (l zz)), mm, (fun zz => nI (c zz)), (fun zz => nI (m zz / 8)), (fun zz => nI (w zz)), (fun zz => nI (r zz)), (fun zz => nI (m zz % 8)), be) ∧ ac_I s l f c w r m ST CL cv mm
theorem i_up {k : Nat} {u : SX} {v : SY} (h : i_Rel k u v) : i_Rel (k + 5) u v := h
/-! R: rows for the stores of the methods -/
theorem ac_mv (x : Int32) : (ac_out 16 x ∨ x = 0) ∨ ∃ j, 0 < j ∧ j < 16 ∧ x = nI j := by
  rcases ac_ix x (N := 16) (by decide) with h | ⟨j, hj, e⟩
  · exact Or.inl (Or.inl h)
  · rcases Nat.eq_zero_or_pos j with z | z
    · subst z; exact Or.inl (Or.inr e)
    · exact Or.inr ⟨j, z, hj, e⟩
theorem ac_gr (x : Int32) : (x < 6 ∨ nI 8 ≤ x) ∨ ∃ g, 6 ≤ g ∧ g < 8 ∧ x = nI g := by
  rcases ac_ix x (N := 8) (by decide) with (h | h) | ⟨j, hj, e⟩
  · exact Or.inl (Or.inl (ac_lt0n (N := 6) (by decide) h))
  · exact Or.inl (Or.inr h)
  · by_cases z : j < 6
    · subst e; exact Or.inl (Or.inl (nI_lt (b := 6) z (by decide)))
    · exact Or.inr ⟨j, by omega, hj, e⟩
theorem ac_hon {X : Int32} {s : Nat → Bool} (hs : ∀ o, o < 16 → bt X o = s o) {o : Nat} (ho : o < 16) : ∀ x, x < 16 → bt (X ||| ((1 : Int32) <<< (nI o &&& 31))) x = ac_up s o true x := by
  intro x hx
  rw [ac_on X (by omega) (by omega), hs x hx]
  by_cases e : x = o
  · subst e; rw [ac_us, decide_eq_true rfl, Bool.or_true]
  · rw [ac_un e, decide_eq_false e, Bool.or_false]
theorem ac_hoff {X : Int32} {s : Nat → Bool} (hs : ∀ o, o < 16 → bt X o = s o) {o : Nat} (ho : o < 16) : ∀ x, x < 16 → bt (X &&& (((1 : Int32) <<< (nI o &&& 31)) ^^^ (-1))) x = ac_up s o false x := by
  intro x hx
  rw [ac_off X (by omega) (by omega), hs x hx]
  by_cases e : x = o
  · subst e; rw [ac_us, decide_eq_true rfl]; simp
  · rw [ac_un e, decide_eq_false e]; simp
theorem ac_hxor {X : Int32} {s : Nat → Bool} (hs : ∀ o, o < 16 → bt X o = s o) {o : Nat} (ho : o < 16) : ∀ x, x < 16 → bt (X ^^^ ((1 : Int32) <<< (nI o &&& 31))) x = ac_up s o (!s o) x := by
  intro x hx
  rw [b_xor, ac_one (by omega) (by omega), hs x hx]
  by_cases e : x = o
  · subst e; rw [ac_us, decide_eq_true rfl, Bool.xor_true]
  · rw [ac_un e, decide_eq_false e, Bool.xor_false]
theorem ac_an_no {q : Nat → Bool} : ∀ d i, ac_an q i d = false → ∀ j, i ≤ j → j < i + d → q j = false := by
  intro d
  induction d with
  | zero => intro i _ j h1 h2; omega
  | succ d ih =>
    intro i h j h1 h2
    rw [ac_an_s, Bool.or_eq_false_iff] at h
    by_cases e : j = i
    · subst e; exact h.1
    · exact ih (i + 1) h.2 j (by omega) (by omega)
theorem ac_tf {P : Prop} {b : Bool} (h1 : b = true) (h0 : b = false) : P := by rw [h1] at h0; cases h0
theorem ac_C_up {cv mm : Nat → Int32} (h : ac_C cv mm) {g : Nat} (h6 : 6 ≤ g) (h8 : g < 8) (X : Int32) : ac_C (upd cv g X) (upd mm (g - 6) X) := by
  obtain ⟨a, b, c⟩ := h
  rcases (show g = 6 ∨ g = 7 by omega) with z | z
  · subst z
    refine ⟨pk_us.trans pk_us.symm, (pk_un (by omega)).trans (b.trans (pk_un (by omega)).symm), fun w hw p hp => ?_⟩
    rw [pk_un (by omega)]; exact c w hw p hp
  · subst z
    refine ⟨(pk_un (by omega)).trans (a.trans (pk_un (by omega)).symm), pk_us.trans pk_us.symm, fun w hw p hp => ?_⟩
    rw [pk_un (by omega)]; exact c w hw p hp
theorem ac_uH (h : Nat → Nat) (M : Nat → Nat) (k v : Nat) : upd (fun j => nI (h (M j))) k (nI (h v)) = fun j => nI (h (ac_up M k v j)) := by
  funext j
  show (if j = k then nI (h v) else nI (h (M j))) = nI (h (if j = k then v else M j))
  split <;> rfl
theorem ac_m7 : ∀ m, m < 16 → nI m &&& 7 = nI (m % 8) := by decide +kernel
/-! S: the constructors -/
theorem ac_x0_l {post : SX → Prop} (k : ∀ cv : Nat → Int32, (∀ w, w < 6 → ∀ p, p < 6 → bt (cv w) p = decide (w = p)) → (∀ j, 6 ≤ j → cv j = 0) → post (1, 0, fun _ => 0, cv, fun _ => 0, fun _ => 0, fun _ => 0, fun _ => 0)) : ∀ d i n (cv : Nat → Int32), i + d = 6 → d < n → (∀ w, w < i → ∀ p, p < 6 → bt (cv w) p = decide (w = p)) → (∀ j, 6 ≤ j → cv j = 0) → wX_init_64 post 1 0 n (nI i) (fun _ => 0) cv (fun _ => 0) (fun _ => 0) (fun _ => 0) (fun _ => 0) := by
  intro d
  induction d with
  | zero =>
    intro i n cv hi hn h1 h2
    obtain ⟨n, rfl⟩ : ∃ n', n = n' + 1 := ⟨n - 1, by omega⟩
    have e : i = 6 := by omega
    subst e
    exact br_t (nI_le (a := 6) (by omega) (by omega)) (k cv h1 h2)
  | succ d ih =>
    intro i n cv hi hn h1 h2
    obtain ⟨n, rfl⟩ : ∃ n', n = n' + 1 := ⟨n - 1, by omega⟩
    refine br_f (nI_ge (b := 6) (by omega) (by decide)) ⟨vp_in_nI (by omega) (by decide), nm_e (nm_r (nI_1 i) (ih (i + 1) n _ (by omega) (by omega) ?_ ?_))⟩
    · intro w hw p hp
      rw [nI_clamp (by omega)]
      by_cases e : w = i
      · subst e
        rw [pk_us, ac_one (by omega) (by omega)]
        by_cases z : p = w
        · rw [decide_eq_true z, decide_eq_true z.symm]
        · rw [decide_eq_false z, decide_eq_false (Ne.symm z)]
      · rw [pk_un e]; exact h1 w (by omega) p hp
    · intro j hj
      rw [nI_clamp (by omega), pk_un (by omega)]
      exact h2 j hj
theorem i_vc0 : wpX_init (fun u => wpY_init (fun v => i_Rel 0 u v)) := by
  refine ⟨7, ac_x0_l (fun cv h1 h2 => ?_) 6 0 7 (fun _ => 0) rfl (by omega) (fun w hw => by omega) (fun _ _ => rfl)⟩
  refine nm_r (e' := fun o => ac_b (decide (o = 0))) ?_ ?_
  · funext j
    show (if j = 0 then vp_nar .boolean 1 else 0) = ac_b (decide (j = 0))
    by_cases e : j = 0
    · rw [if_pos e, decide_eq_true e]; decide
    · rw [if_neg e, decide_eq_false e]; rfl
  · have e8 : nI (0 / 8) = 0 := by decide
    have e0 : ((fun o => ac_b (decide (o = 0)), fun _ => 0, fun _ => 0, fun _ => 0, fun _ => 0, fun _ => 0, fun _ => 0, fun _ => 0, fun _ => 0, fun _ => 0) : SY) = (fun o => ac_b (decide (o = 0)), fun _ => nI 0, fun _ => ac_b false, fun _ => 0, fun _ => nI 0, fun _ => nI (0 / 8), fun _ => nI 0, fun _ => nI 0, fun _ => nI (0 % 8), fun _ => 0) := by
      rw [e8]; rfl
    refine ⟨fun o => decide (o = 0), fun _ => false, fun _ => 0, fun _ => 0, fun _ => 0, fun _ => 0, fun _ => 0, 1, 0, cv, fun _ => 0, fun _ => 0, rfl, e0, fun o _ => ac_1bt o, fun o _ => b_0 o, ⟨rfl, fun _ => (by decide : (0 : Nat) < 16), rfl, fun _ _ _ => rfl, fun x _ h => ⟨0, of_decide_eq_true h⟩⟩, fun _ => (by decide : (0 : Nat) < 5), fun _ => (by decide : (0 : Nat) < 8), fun _ => (by decide : (0 : Nat) < 16), fun _ => (by decide : (0 : Nat) < 16), h2 6 (by omega), h2 7 (by omega), h1⟩
