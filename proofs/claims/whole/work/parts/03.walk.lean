/-! E: some slot of a run of slots; the sets joined over a run of slots -/
def ac_an (q : Nat → Bool) : Nat → Nat → Bool
  | _, 0 => false
  | i, n + 1 => q i || ac_an q (i + 1) n
theorem ac_an_s (q : Nat → Bool) (i n : Nat) : ac_an q i (n + 1) = (q i || ac_an q (i + 1) n) := rfl
theorem ac_an_e {q q' : Nat → Bool} (h : ∀ j, q j = q' j) : ∀ n i, ac_an q i n = ac_an q' i n := by
  intro n
  induction n with
  | zero => intro i; rfl
  | succ n ih => intro i; rw [ac_an_s, ac_an_s, ih, h]
theorem ac_an_f {q : Nat → Bool} (h : ∀ j, q j = false) : ∀ n i, ac_an q i n = false := by
  intro n
  induction n with
  | zero => intro i; rfl
  | succ n ih => intro i; rw [ac_an_s, ih, h]; rfl
def ac_fo (c : Nat → Bool) (r : Nat → Nat) : Nat → Nat → Int32 → Int32
  | _, 0, v => v
  | i, n + 1, v => ac_fo c r (i + 1) n (if c i then v ||| nI (r i) else v)
theorem ac_fo_b (c : Nat → Bool) (r : Nat → Nat) (b : Nat) : ∀ n i v, bt (ac_fo c r i n v) b = (bt v b || ac_an (fun j => c j && bt (nI (r j)) b) i n) := by
  intro n
  induction n with
  | zero => intro i v; exact (Bool.or_false _).symm
  | succ n ih =>
    intro i v
    show bt (ac_fo c r (i + 1) n (if c i then v ||| nI (r i) else v)) b = _
    rw [ih, ac_an_s]
    cases h : c i
    · rw [if_neg (by decide)]
      simp only [h, Bool.false_and, Bool.false_or]
    · rw [if_pos rfl, b_or]
      simp only [h, Bool.true_and, Bool.or_assoc]

/-! F: is an entry of mode m, of kind k, in the list at step s -/
def ac_ls (m s : Nat) (k : Bool) : Bool := (m / 8 == (if k then 1 else 0)) && (if s = 0 then m / 2 % 2 == 0 else (m % 2 == 1 && (s == 1 || m / 4 % 2 == 0)))
def ac_mk (s : Nat) : Int32 := if s = 0 then 2 else if s = 1 then 1 else 5
def ac_wn (s : Nat) : Int32 := if s = 0 then 0 else 1
theorem ac_ls_d (m s : Nat) (hm : m < 16) : decide (nI m &&& (ac_mk s ||| 8) = ac_wn s) = ac_ls m s false := by
  rcases s with _ | _ | s
  · exact (by decide +kernel : ∀ m, m < 16 → decide (nI m &&& (ac_mk 0 ||| 8) = ac_wn 0) = ac_ls m 0 false) m hm
  · exact (by decide +kernel : ∀ m, m < 16 → decide (nI m &&& (ac_mk 1 ||| 8) = ac_wn 1) = ac_ls m 1 false) m hm
  · have e1 : ac_mk (s + 1 + 1) = ac_mk 2 := rfl
    have e2 : ac_wn (s + 1 + 1) = ac_wn 2 := rfl
    have e3 : ac_ls m (s + 1 + 1) false = ac_ls m 2 false := rfl
    rw [e1, e2, e3]
    exact (by decide +kernel : ∀ m, m < 16 → decide (nI m &&& (ac_mk 2 ||| 8) = ac_wn 2) = ac_ls m 2 false) m hm
theorem ac_ls_a (m s : Nat) (hm : m < 16) : decide (nI m &&& (ac_mk s ||| 8) = (ac_wn s ||| 8)) = ac_ls m s true := by
  rcases s with _ | _ | s
  · exact (by decide +kernel : ∀ m, m < 16 → decide (nI m &&& (ac_mk 0 ||| 8) = (ac_wn 0 ||| 8)) = ac_ls m 0 true) m hm
  · exact (by decide +kernel : ∀ m, m < 16 → decide (nI m &&& (ac_mk 1 ||| 8) = (ac_wn 1 ||| 8)) = ac_ls m 1 true) m hm
  · have e1 : ac_mk (s + 1 + 1) = ac_mk 2 := rfl
    have e2 : ac_wn (s + 1 + 1) = ac_wn 2 := rfl
    have e3 : ac_ls m (s + 1 + 1) true = ac_ls m 2 true := rfl
    rw [e1, e2, e3]
    exact (by decide +kernel : ∀ m, m < 16 → decide (nI m &&& (ac_mk 2 ||| 8) = (ac_wn 2 ||| 8)) = ac_ls m 2 true) m hm

/-! G: the walk by sets (X), the walk for one right (Y) -/
def ac_xw (DN AL : Nat → Nat → Int32) (sp : Nat → Bool) (f : Nat → Nat) : Nat → Nat → Nat → Int32 → Int32 → Int32
  | 0, _, _, al, _ => al
  | n + 1, s, x, al, de => if sp x then al ||| (AL s x &&& ((de ||| DN s x) ^^^ (-1))) else ac_xw DN AL sp f n (s + 1) (f x) (al ||| (AL s x &&& ((de ||| DN s x) ^^^ (-1)))) (de ||| DN s x)
def ac_yw (D A : Nat → Nat → Bool) (sp : Nat → Bool) (f : Nat → Nat) : Nat → Nat → Nat → Bool
  | 0, _, _ => false
  | n + 1, s, x => if D s x then false else if A s x then true else if sp x then false else ac_yw D A sp f n (s + 1) (f x)
theorem ac_xw_s {DN AL : Nat → Nat → Int32} {sp : Nat → Bool} {f : Nat → Nat} {n s x : Nat} {al de : Int32} : ac_xw DN AL sp f (n + 1) s x al de = if sp x then al ||| (AL s x &&& ((de ||| DN s x) ^^^ (-1))) else ac_xw DN AL sp f n (s + 1) (f x) (al ||| (AL s x &&& ((de ||| DN s x) ^^^ (-1)))) (de ||| DN s x) := rfl
theorem ac_yw_s {D A : Nat → Nat → Bool} {sp : Nat → Bool} {f : Nat → Nat} {n s x : Nat} : ac_yw D A sp f (n + 1) s x = if D s x then false else if A s x then true else if sp x then false else ac_yw D A sp f n (s + 1) (f x) := rfl
theorem ac_xy {DN AL : Nat → Nat → Int32} {D A : Nat → Nat → Bool} {sp : Nat → Bool} {f : Nat → Nat} {r : Nat} (hr : r < 32) (hD : ∀ s x, bt (DN s x) r = D s x) (hA : ∀ s x, bt (AL s x) r = A s x) :
    ∀ n s x al de, bt (ac_xw DN AL sp f n s x al de) r = (bt al r || (!bt de r && ac_yw D A sp f n s x)) := by
  intro n
  induction n with
  | zero => intro s x al de; show bt al r = (bt al r || (!bt de r && false)); rw [Bool.and_false, Bool.or_false]
  | succ n ih =>
    intro s x al de
    rw [ac_xw_s, ac_yw_s]
    cases hs : sp x
    · rw [if_neg (by decide), ih, b_or, ac_not _ _ hr, b_or, hD, hA, if_neg (by decide : ¬ false = true)]
      cases bt al r <;> cases bt de r <;> cases D s x <;> cases A s x <;> simp
    · rw [if_pos rfl, b_or, ac_not _ _ hr, b_or, hD, hA, if_pos rfl]
      cases bt al r <;> cases bt de r <;> cases D s x <;> cases A s x <;> simp
theorem ac_yw_f {D A : Nat → Nat → Bool} {sp : Nat → Bool} {f : Nat → Nat} (hA : ∀ s x, A s x = false) : ∀ n s x, ac_yw D A sp f n s x = false := by
  intro n
  induction n with
  | zero => intro s x; rfl
  | succ n ih => intro s x; rw [ac_yw_s, hA, ih]; cases D s x <;> cases sp x <;> rfl
/-- a rooted object needs no more steps than its root is away -/
theorem ac_yw_r {D A : Nat → Nat → Bool} {sp : Nat → Bool} {f : Nat → Nat} (h0 : sp 0 = true) : ∀ n s x, ac_it f n x = 0 → ac_yw D A sp f (n + 2) s x = ac_yw D A sp f (n + 1) s x := by
  intro n
  induction n with
  | zero =>
    intro s x h
    have e : x = 0 := h
    subst e
    rw [ac_yw_s (n := 1), ac_yw_s (n := 0) (s := s) (x := 0), h0, if_pos rfl, if_pos rfl]
  | succ n ih =>
    intro s x h
    rw [ac_yw_s (n := n + 2), ac_yw_s (n := n + 1) (s := s) (x := x), ih (s + 1) (f x) h]

/-! H: what the state says of one right -/
section
variable (f c w r m : Nat → Nat) (cv : Nat → Int32)
def ac_co (p j : Nat) : Bool := bt (cv (w j)) p
def ac_se (p b s : Nat) (k : Bool) (x : Nat) : Bool := ac_an (fun j => (ac_ls (m j) s k && ac_co w cv p j) && bt (nI (r j)) b) (4 * x) (c x)
def ac_rn (p : Nat) (mask wanted : Int32) (x : Nat) : Int32 := ac_fo (fun j => decide (nI (m j) &&& mask = wanted) && ac_co w cv p j) r (4 * x) (c x) 0
def ac_sp (l : Nat → Bool) (x : Nat) : Bool := x == 0 || l x
/-- Y's answer: may p do b on x (n steps at most) -/
def ac_al (l : Nat → Bool) (p b n x : Nat) : Bool := ac_yw (fun s x => ac_se c w r m cv p b s false x) (fun s x => ac_se c w r m cv p b s true x) (ac_sp l) f n 0 x
/-- X's set -/
def ac_rs (l : Nat → Bool) (p x : Nat) : Int32 := ac_xw (fun s x => ac_rn c w r m cv p (ac_mk s ||| 8) (ac_wn s) x) (fun s x => ac_rn c w r m cv p (ac_mk s ||| 8) (ac_wn s ||| 8) x) (ac_sp l) f 16 0 x 0 0
end
section
variable {f c w r m : Nat → Nat} {cv : Nat → Int32}
theorem ac_rn_d (hm : ∀ j, m j < 16) (p b s x : Nat) : bt (ac_rn c w r m cv p (ac_mk s ||| 8) (ac_wn s) x) b = ac_se c w r m cv p b s false x := by
  unfold ac_rn ac_se
  rw [ac_fo_b, b_0, Bool.false_or]
  exact ac_an_e (fun j => by rw [ac_ls_d (m j) s (hm j)]) _ _
theorem ac_rn_a (hm : ∀ j, m j < 16) (p b s x : Nat) : bt (ac_rn c w r m cv p (ac_mk s ||| 8) (ac_wn s ||| 8) x) b = ac_se c w r m cv p b s true x := by
  unfold ac_rn ac_se
  rw [ac_fo_b, b_0, Bool.false_or]
  exact ac_an_e (fun j => by rw [ac_ls_a (m j) s (hm j)]) _ _
theorem ac_rs_b (hm : ∀ j, m j < 16) (l : Nat → Bool) (p x : Nat) {b : Nat} (hb : b < 32) : bt (ac_rs f c w r m cv l p x) b = ac_al f c w r m cv l p b 16 x := by
  unfold ac_rs ac_al
  rw [ac_xy hb (fun s x => ac_rn_d hm p b s x) (fun s x => ac_rn_a hm p b s x), b_0]
  rfl
theorem ac_al_17 (l : Nat → Bool) (p b : Nat) {x : Nat} (h : ac_it f 15 x = 0) : ac_al f c w r m cv l p b 17 x = ac_al f c w r m cv l p b 16 x :=
  ac_yw_r (sp := ac_sp l) rfl 15 0 x h
theorem ac_se_h (hr : ∀ j, r j < 16) (p s x : Nat) (k : Bool) {b : Nat} (hb : b < 32) (h4 : 4 ≤ b) : ac_se c w r m cv p b s k x = false :=
  ac_an_f (fun j => by rw [ac_16 (r j) (hr j) b hb h4, Bool.and_false]) _ _
theorem ac_al_h (hr : ∀ j, r j < 16) (l : Nat → Bool) (p n x : Nat) {b : Nat} (hb : b < 32) (h4 : 4 ≤ b) : ac_al f c w r m cv l p b n x = false :=
  ac_yw_f (fun s x => ac_se_h hr p s x true hb h4) n 0 x
end

/-! I: a set built bit by bit -/
def ac_set (q : Nat → Bool) : Nat → Int32
  | 0 => 0
  | n + 1 => if q n then ac_set q n ||| ((1 : Int32) <<< (nI n &&& 31)) else ac_set q n
theorem ac_set_s (q : Nat → Bool) (n : Nat) : ac_set q (n + 1) = if q n then ac_set q n ||| ((1 : Int32) <<< (nI n &&& 31)) else ac_set q n := rfl
theorem ac_set_b (q : Nat → Bool) {i : Nat} (hi : i < 32) : ∀ n, n ≤ 32 → bt (ac_set q n) i = (decide (i < n) && q i) := by
  intro n
  induction n with
  | zero => intro _; show bt 0 i = _; rw [b_0, decide_eq_false (by omega)]; rfl
  | succ n ih =>
    intro hn
    rw [ac_set_s]
    by_cases e : i = n
    · subst e
      rw [decide_eq_true (by omega), Bool.true_and]
      cases h : q i
      · rw [if_neg (by decide), ih (by omega), decide_eq_false (by omega)]; rfl
      · rw [if_pos rfl, ac_on _ (by omega) hi, decide_eq_true rfl, Bool.or_true]
    · have d : decide (i < n + 1) = decide (i < n) := by
        by_cases z : i < n
        · rw [decide_eq_true z, decide_eq_true (by omega)]
        · rw [decide_eq_false z, decide_eq_false (by omega)]
      rw [d]
      cases h : q n
      · rw [if_neg (by decide), ih (by omega)]
      · rw [if_pos rfl, ac_on _ (by omega) hi, decide_eq_false e, Bool.or_false, ih (by omega)]
theorem ac_set_e {q q' : Nat → Bool} : ∀ n, (∀ i, i < n → q i = q' i) → ac_set q n = ac_set q' n := by
  intro n
  induction n with
  | zero => intro _; rfl
  | succ n ih => intro h; rw [ac_set_s, ac_set_s, ih (fun i hi => h i (by omega)), h n (by omega)]
section
variable {f c w r m : Nat → Nat} {cv : Nat → Int32}
/-- the two sets are one -/
theorem ac_rs_set (hm : ∀ j, m j < 16) (hr : ∀ j, r j < 16) (l : Nat → Bool) (p : Nat) {x : Nat} (h : ac_it f 15 x = 0) : ac_set (fun b => ac_al f c w r m cv l p b 17 x) 4 = ac_rs f c w r m cv l p x := by
  apply b_ext
  intro i hi
  rw [ac_set_b _ hi 4 (by omega), ac_rs_b hm l p x hi, ac_al_17 l p i h]
  by_cases z : i < 4
  · rw [decide_eq_true z, Bool.true_and]
  · rw [decide_eq_false z, Bool.false_and, ac_al_h hr l p 16 x hi (by omega)]
end

/-! J: going up to the root -/
def ac_gx (a : Nat → Bool) (f : Nat → Nat) : Nat → Nat → Bool
  | 0, _ => false
  | n + 1, x => if a x then (if x = 0 then true else ac_gx a f n (f x)) else false
def ac_gy (a : Nat → Bool) (f : Nat → Nat) : Nat → Nat → Bool
  | 0, _ => a 0
  | n + 1, x => if x = 0 then a 0 else if a x then ac_gy a f n (f x) else false
theorem ac_gx_s {a : Nat → Bool} {f : Nat → Nat} {n x : Nat} : ac_gx a f (n + 1) x = if a x then (if x = 0 then true else ac_gx a f n (f x)) else false := rfl
theorem ac_gy_s {a : Nat → Bool} {f : Nat → Nat} {n x : Nat} : ac_gy a f (n + 1) x = if x = 0 then a 0 else if a x then ac_gy a f n (f x) else false := rfl
theorem ac_gxy {a a' : Nat → Bool} {f : Nat → Nat} (f0 : f 0 = 0) (fr : ∀ x, f x < 16) (h : ∀ x, x < 16 → ac_it f 15 x = 0 → a x = a' x) : ∀ n x, x < 16 → ac_it f 15 x = 0 → ac_it f n x = 0 → ac_gx a f (n + 1) x = ac_gy a' f (n + 1) x := by
  intro n
  induction n with
  | zero =>
    intro x hx h15 e
    have e : x = 0 := e
    subst e
    rw [ac_gx_s, ac_gy_s, if_pos rfl, if_pos rfl, h 0 hx h15]
    cases a' 0 <;> rfl
  | succ n ih =>
    intro x hx h15 e
    rw [ac_gx_s, ac_gy_s, h x hx h15]
    by_cases z : x = 0
    · subst z
      rw [if_pos rfl, if_pos rfl]
      cases a' 0 <;> rfl
    · rw [if_neg z, if_neg z, ih (f x) (fr x) (ac_it_0 f0 h15) e]

/-! K: pairs counted row by row, and one by one -/
def ac_sm (g : Nat → Nat) : Nat → Nat
  | 0 => 0
  | n + 1 => ac_sm g n + g n
theorem ac_pairs (q : Nat → Nat → Bool) : ∀ n, ac_cn (fun i => q (i / 6) (i % 6)) (6 * n) = ac_sm (fun a => ac_cn (q a) 6) n := by
  intro n
  induction n with
  | zero => rfl
  | succ n ih =>
    show ac_cn (fun i => q (i / 6) (i % 6)) (6 * n + 6) = ac_sm (fun a => ac_cn (q a) 6) n + ac_cn (q n) 6
    rw [← ih]
    have d : ∀ k, k < 6 → (fun i => q (i / 6) (i % 6)) (6 * n + k) = q n k := by
      intro k hk
      show q ((6 * n + k) / 6) ((6 * n + k) % 6) = q n k
      rw [show (6 * n + k) / 6 = n by omega, show (6 * n + k) % 6 = k by omega]
    have st : ∀ k, k ≤ 6 → ac_cn (fun i => q (i / 6) (i % 6)) (6 * n + k) = ac_cn (fun i => q (i / 6) (i % 6)) (6 * n) + ac_cn (q n) k := by
      intro k
      induction k with
      | zero => intro _; rfl
      | succ k ihk =>
        intro hk
        show ac_cn (fun i => q (i / 6) (i % 6)) (6 * n + k + 1) = _
        have dk : q ((6 * n + k) / 6) ((6 * n + k) % 6) = q n k := d k (by omega)
        rw [ac_cn_s, ac_cn_s, ihk (by omega), dk, Nat.add_assoc]
    exact st 6 (by omega)
theorem ac_sm_e {g g' : Nat → Nat} : ∀ n, (∀ i, i < n → g i = g' i) → ac_sm g n = ac_sm g' n := by
  intro n
  induction n with
  | zero => intro _; rfl
  | succ n ih =>
    intro h
    show ac_sm g n + g n = ac_sm g' n + g' n
    rw [ih (fun i hi => h i (by omega)), h n (by omega)]
theorem ac_cn_0 : ∀ n, ac_cn (fun _ => false) n = 0 := by
  intro n
  induction n with
  | zero => rfl
  | succ n ih => rw [ac_cn_f rfl, ih]

/-! L: entries moved up by one -/
def ac_sh {α : Type} (a t : Nat) (w : Nat → α) : Nat → α := fun j => if a ≤ j ∧ j < a + t then w (j + 1) else w j
theorem ac_sh_0 {α : Type} (a : Nat) (w : Nat → α) : ac_sh a 0 w = w := by
  funext j
  exact if_neg (by omega)
theorem ac_sh_s {α : Type} (a t : Nat) (w : Nat → α) : ac_up (ac_sh a t w) (a + t) (w (a + t + 1)) = ac_sh a (t + 1) w := by
  funext j
  by_cases e : j = a + t
  · subst e
    rw [ac_us]
    exact (if_pos (by omega)).symm
  · rw [ac_un e]
    by_cases z : a ≤ j ∧ j < a + t
    · exact (if_pos z).trans (if_pos (by omega)).symm
    · exact (if_neg z).trans (if_neg (by omega)).symm
theorem ac_sh_n {α : Type} (a t : Nat) (w : Nat → α) : ac_sh a t w (a + t + 1) = w (a + t + 1) := if_neg (by omega)
theorem ac_sh_b {N a t : Nat} {w : Nat → Nat} (h : ∀ j, w j < N) : ∀ j, ac_sh a t w j < N := by
  intro j
  unfold ac_sh
  split
  · exact h (j + 1)
  · exact h j
