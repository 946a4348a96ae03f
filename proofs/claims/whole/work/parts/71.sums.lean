/-! sums of integers over all sets; two-by-two transforms thing by thing -/
theorem si_zero : ∀ n, fb_si (fun _ => (0 : Int)) n = 0
  | 0 => rfl
  | n + 1 => by rw [fb_si_succ, si_zero n]; rfl
theorem si_swap (f : Nat → Nat → Int) : ∀ n m, fb_si (fun i => fb_si (fun j => f i j) m) n = fb_si (fun j => fb_si (fun i => f i j) n) m
  | 0, m => by
    rw [show (fun j => fb_si (fun i => f i j) 0) = fun _ => (0 : Int) from rfl, si_zero]; rfl
  | n + 1, m => by
    rw [fb_si_succ, si_swap f n m, ← fb_si_add]
    exact fb_si_cong (fun k _ => rfl)
theorem si_one (v : Nat → Int) {c : Nat} : ∀ {n : Nat}, c < n → fb_si (fun b => if b = c then v b else 0) n = v c
  | 0, h => absurd h (Nat.not_lt_zero _)
  | n + 1, h => by
    rw [fb_si_succ]
    by_cases e : c = n
    · subst e
      rw [if_pos rfl, fb_si_cong (g := fun _ => (0 : Int)) (fun k hk => if_neg (by omega)), si_zero]
      omega
    · rw [if_neg (fun q => e q.symm), si_one v (by omega)]
      omega
theorem si_none {f : Nat → Int} {n : Nat} (h : ∀ k, k < n → f k = 0) : fb_si f n = 0 := by rw [fb_si_cong h, si_zero]
theorem si_mulr (f : Nat → Int) (c : Int) (n : Nat) : fb_si (fun k => f k * c) n = fb_si f n * c := by
  rw [Int.mul_comm, ← fb_si_mul]
  exact fb_si_cong (fun k _ => Int.mul_comm _ _)
theorem si_two (f : Nat → Int) (n : Nat) : fb_si f (2 ^ (n + 1)) = fb_si f (2 ^ n) + fb_si (fun p => f (2 ^ n + p)) (2 ^ n) := by
  rw [show 2 ^ (n + 1) = 2 ^ n + 2 ^ n by omega, fb_si_split]
def t_k (κ : Bool → Bool → Int) (s p : Nat) : Nat → Int
  | 0 => 1
  | n + 1 => t_k κ s p n * κ (s.testBit n) (p.testBit n)
theorem t_k_cong {κ : Bool → Bool → Int} {s s' p p' : Nat} : ∀ {n : Nat}, (∀ i, i < n → s.testBit i = s'.testBit i ∧ p.testBit i = p'.testBit i) → t_k κ s p n = t_k κ s' p' n
  | 0, _ => rfl
  | n + 1, h => by rw [t_k, t_k, t_k_cong (n := n) (fun i hi => h i (by omega)), (h n (by omega)).1, (h n (by omega)).2]
theorem tb_hi {n p : Nat} (hp : p < 2 ^ n) : (2 ^ n + p).testBit n = true ∧ p.testBit n = false ∧ ∀ i, i < n → (2 ^ n + p).testBit i = p.testBit i := by
  have h1 : p.testBit n = false := Nat.testBit_lt_two_pow hp
  refine ⟨by rw [Nat.testBit_two_pow_add_eq, h1]; rfl, h1, fun i hi => Nat.testBit_two_pow_add_gt hi p⟩
/-- a set without the thing j, with it -/
def t_lo (s j : Nat) : Nat := s / 2 ^ (j + 1) * 2 ^ (j + 1) + s % 2 ^ j
def t_hi (s j : Nat) : Nat := t_lo s j + 2 ^ j
/-- the row when the things below j are done -/
def t_y (κ : Bool → Bool → Int) (f : Nat → Int) : Nat → Nat → Int
  | 0, s => f s
  | j + 1, s => κ (s.testBit j) false * t_y κ f j (t_lo s j) + κ (s.testBit j) true * t_y κ f j (t_hi s j)
theorem t_lo_ar (s j : Nat) : t_lo s j / 2 ^ j = 2 * (s / 2 ^ (j + 1)) ∧ t_lo s j % 2 ^ j = s % 2 ^ j ∧ t_hi s j / 2 ^ j = 2 * (s / 2 ^ (j + 1)) + 1 ∧ t_hi s j % 2 ^ j = s % 2 ^ j := by
  have h0 := p2_pos j
  have h1 := Nat.mod_lt s h0
  unfold t_hi t_lo
  have e1 : s / 2 ^ (j + 1) * 2 ^ (j + 1) + s % 2 ^ j = s % 2 ^ j + 2 ^ j * (2 * (s / 2 ^ (j + 1))) := by
    rw [Nat.pow_succ, Nat.mul_comm (2 ^ j) 2, ← Nat.mul_assoc, Nat.mul_comm (s / _) 2, Nat.mul_comm (2 ^ j), Nat.add_comm]
  have e2 : s / 2 ^ (j + 1) * 2 ^ (j + 1) + s % 2 ^ j + 2 ^ j = s % 2 ^ j + 2 ^ j * (2 * (s / 2 ^ (j + 1)) + 1) := by
    rw [e1, Nat.mul_succ, Nat.add_assoc]
  rw [e2, e1]
  refine ⟨?_, ?_, ?_, ?_⟩
  · rw [Nat.add_mul_div_left _ _ h0, Nat.div_eq_of_lt h1, Nat.zero_add]
  · rw [Nat.add_mul_mod_self_left, Nat.mod_mod]
  · rw [Nat.add_mul_div_left _ _ h0, Nat.div_eq_of_lt h1, Nat.zero_add]
  · rw [Nat.add_mul_mod_self_left, Nat.mod_mod]
theorem tb_mod {s s' j : Nat} (h : s % 2 ^ j = s' % 2 ^ j) {i : Nat} (hi : i < j) : s.testBit i = s'.testBit i := by
  have := congrArg (fun x => x.testBit i) h
  simpa [Nat.testBit_mod_two_pow, hi] using this
theorem t_y_sum (κ : Bool → Bool → Int) (f : Nat → Int) : ∀ j s, t_y κ f j s = fb_si (fun p => t_k κ s p j * f (s / 2 ^ j * 2 ^ j + p)) (2 ^ j)
  | 0, s => by
    show f s = fb_si _ 1
    rw [fb_si_succ]
    show f s = 0 + 1 * f (s / 1 * 1 + 0)
    simp
  | j + 1, s => by
    obtain ⟨a1, a2, a3, a4⟩ := t_lo_ar s j
    rw [t_y, t_y_sum κ f j, t_y_sum κ f j, si_two, a1, a3, ← fb_si_mul, ← fb_si_mul]
    have e : 2 * (s / 2 ^ (j + 1)) * 2 ^ j = s / 2 ^ (j + 1) * 2 ^ (j + 1) := by rw [Nat.pow_succ, Nat.mul_comm (2 ^ j) 2, ← Nat.mul_assoc, Nat.mul_comm 2]
    congr 1
    · refine fb_si_cong (fun p hp => ?_)
      rw [t_k, (tb_hi hp).2.1, e, t_k_cong (s' := s) (p' := p) (fun i hi => ⟨tb_mod a2 hi, rfl⟩)]
      rw [← Int.mul_assoc, Int.mul_comm (κ _ _)]
    · refine fb_si_cong (fun p hp => ?_)
      rw [t_k, (tb_hi hp).1, Nat.succ_mul, e, t_k_cong (s := t_hi s j) (s' := s) (p' := 2 ^ j + p) (fun i hi => ⟨tb_mod a4 hi, ((tb_hi hp).2.2 i hi).symm⟩)]
      rw [← Int.mul_assoc, Int.mul_comm (κ _ _), Nat.add_assoc]
theorem t_y_all (κ : Bool → Bool → Int) (f : Nat → Int) {n s : Nat} (hs : s < 2 ^ n) : t_y κ f n s = fb_si (fun p => t_k κ s p n * f p) (2 ^ n) := by
  rw [t_y_sum, Nat.div_eq_of_lt hs]
  exact fb_si_cong (fun p _ => by rw [Nat.zero_mul, Nat.zero_add])
/-- a transform and what undoes it -/
theorem t_kk {κ κ' : Bool → Bool → Int} {E : Int} (hE : ∀ a c, κ' a false * κ false c + κ' a true * κ true c = if a = c then E else 0) (s c : Nat) : ∀ n, fb_si (fun p => t_k κ' s p n * t_k κ p c n) (2 ^ n) = t_k (fun a c => if a = c then E else 0) s c n
  | 0 => rfl
  | n + 1 => by
    rw [si_two, t_k, ← t_kk hE s c n, ← hE, Int.mul_add, ← si_mulr, ← si_mulr]
    congr 1
    · refine fb_si_cong (fun p hp => ?_)
      rw [t_k, t_k, (tb_hi hp).2.1]
      grind
    · refine fb_si_cong (fun p hp => ?_)
      rw [t_k, t_k, (tb_hi hp).1, t_k_cong (κ := κ') (s := s) (s' := s) (p := 2 ^ n + p) (p' := p) (fun i hi => ⟨rfl, (tb_hi hp).2.2 i hi⟩), t_k_cong (κ := κ) (s := 2 ^ n + p) (s' := p) (p := c) (p' := c) (fun i hi => ⟨(tb_hi hp).2.2 i hi, rfl⟩)]
      grind
theorem t_k_id {E : Int} (s : Nat) : ∀ n, t_k (fun a c => if a = c then E else 0) s s n = E ^ n
  | 0 => by rw [Int.pow_zero]; rfl
  | n + 1 => by rw [t_k, t_k_id s n, if_pos rfl, Int.pow_succ]
theorem t_k_ne {E : Int} {s c : Nat} : ∀ {n : Nat}, (∃ i, i < n ∧ s.testBit i ≠ c.testBit i) → t_k (fun a c => if a = c then E else 0) s c n = 0
  | 0, ⟨_, h, _⟩ => absurd h (Nat.not_lt_zero _)
  | n + 1, ⟨i, h, h2⟩ => by
    rw [t_k]
    by_cases e : i = n
    · subst e; rw [if_neg h2, Int.mul_zero]
    · rw [t_k_ne ⟨i, by omega, h2⟩, Int.zero_mul]
theorem t_k_dl {E : Int} {s c n : Nat} (hs : s < 2 ^ n) (hc : c < 2 ^ n) : t_k (fun a c => if a = c then E else 0) s c n = if c = s then E ^ n else 0 := by
  by_cases e : c = s
  · rw [if_pos e, e, t_k_id]
  · rw [if_neg e, t_k_ne]
    apply Classical.byContradiction
    intro q
    apply e
    apply Nat.eq_of_testBit_eq
    intro i
    by_cases hi : i < n
    · apply Classical.byContradiction
      intro q2
      exact q ⟨i, hi, fun z => q2 z.symm⟩
    · have h1 : 2 ^ n ≤ 2 ^ i := Nat.pow_le_pow_right (by decide) (by omega)
      rw [Nat.testBit_lt_two_pow (by omega : c < 2 ^ i), Nat.testBit_lt_two_pow (by omega : s < 2 ^ i)]
theorem t_k_mul {κ : Bool → Bool → Int} {o : Bool → Bool → Bool} (h : ∀ p a b, κ p a * κ p b = κ p (o a b)) {p a b c : Nat} : ∀ {n : Nat}, (∀ i, i < n → c.testBit i = o (a.testBit i) (b.testBit i)) → t_k κ p a n * t_k κ p b n = t_k κ p c n
  | 0, _ => rfl
  | n + 1, hc => by
    rw [t_k, t_k, t_k, ← t_k_mul h (n := n) (fun i hi => hc i (by omega)), hc n (by omega), ← h]
    grind
/-- a product of transforms, undone: the sum over all pairs that make a set -/
theorem t_prod {κ κ' : Bool → Bool → Int} {E : Int} {o : Bool → Bool → Bool} {O : Nat → Nat → Nat} {f g : Nat → Int} {n s : Nat} (hE : ∀ a c, κ' a false * κ false c + κ' a true * κ true c = if a = c then E else 0) (h : ∀ p a b, κ p a * κ p b = κ p (o a b)) (hO : ∀ a b i, (O a b).testBit i = o (a.testBit i) (b.testBit i)) (hOl : ∀ a b, a < 2 ^ n → b < 2 ^ n → O a b < 2 ^ n) (hs : s < 2 ^ n) : t_y κ' (fun p => t_y κ f n p * t_y κ g n p) n s = E ^ n * fb_si (fun a => fb_si (fun b => if O a b = s then f a * g b else 0) (2 ^ n)) (2 ^ n) := by
  rw [t_y_all _ _ hs]
  have e1 : ∀ p, p < 2 ^ n → t_k κ' s p n * (t_y κ f n p * t_y κ g n p) = fb_si (fun a => fb_si (fun b => t_k κ' s p n * t_k κ p (O a b) n * (f a * g b)) (2 ^ n)) (2 ^ n) := fun p hp => by
    rw [t_y_all _ f hp, t_y_all _ g hp, ← si_mulr, ← fb_si_mul]
    refine fb_si_cong (fun a _ => ?_)
    rw [← fb_si_mul, ← fb_si_mul]
    refine fb_si_cong (fun b _ => ?_)
    rw [← t_k_mul h (a := a) (b := b) (fun i _ => hO a b i)]
    grind
  rw [fb_si_cong e1, si_swap, ← fb_si_mul]
  refine fb_si_cong (fun a ha => ?_)
  rw [si_swap, ← fb_si_mul]
  refine fb_si_cong (fun b hb => ?_)
  rw [si_mulr, t_kk hE, t_k_dl hs (hOl a b ha hb)]
  by_cases e : O a b = s
  · rw [if_pos e, if_pos e]
  · rw [if_neg e, if_neg e, Int.zero_mul, Int.mul_zero]
/-- rests modulo the prime -/
theorem red_ex (z : Int) : ∃ q, (g_red z : Int) = z + 1000003 * q := by
  refine ⟨-(z / 1000003), ?_⟩
  unfold g_red
  have := Int.emod_nonneg z (b := 1000003) (by decide)
  have := Int.emod_add_mul_ediv z 1000003
  omega
theorem red_of {x y : Int} (q : Int) (h : x = y + 1000003 * q) : g_red x = g_red y := by
  unfold g_red
  rw [h, Int.add_mul_emod_self_left]
theorem red_lin (a b X Y : Int) : g_red (a * (g_red X : Int) + b * (g_red Y : Int)) = g_red (a * X + b * Y) := by
  obtain ⟨q1, h1⟩ := red_ex X
  obtain ⟨q2, h2⟩ := red_ex Y
  refine red_of (a * q1 + b * q2) ?_
  rw [h1, h2]
  grind
theorem red_add (X Y : Int) : g_red ((g_red X : Int) + (g_red Y : Int)) = g_red (X + Y) := by
  have := red_lin 1 1 X Y
  simpa using this
theorem red_mul (X Y : Int) : g_red ((g_red X : Int) * (g_red Y : Int)) = g_red (X * Y) := by
  obtain ⟨q1, h1⟩ := red_ex X
  obtain ⟨q2, h2⟩ := red_ex Y
  refine red_of (X * q2 + q1 * Y + 1000003 * q1 * q2) ?_
  rw [h1, h2]
  grind
theorem red_red (X : Int) : g_red (g_red X : Int) = g_red X := by
  obtain ⟨q1, h1⟩ := red_ex X
  exact red_of q1 h1
theorem red_one (n : Nat) (X : Int) : g_red ((1000004 : Int) ^ n * X) = g_red X := by
  induction n with
  | zero => rw [Int.pow_zero, Int.one_mul]
  | succ n ih =>
    rw [Int.pow_succ, ← ih]
    exact red_of ((1000004 : Int) ^ n * X) (by grind)
/-- the matrices -/
def k_t (how : Nat) (bw : Bool) (s p : Bool) : Int :=
  if how = 1 then (if s then (if p then 1 else if bw then -1 else 1) else (if p then 0 else 1))
  else if how = 2 then (if s then (if p then 1 else 0) else (if p then (if bw then -1 else 1) else 1))
  else (if bw then 500002 else 1) * (if s && p then -1 else 1)
theorem k_E : (∀ a c, k_t 1 true a false * k_t 1 false false c + k_t 1 true a true * k_t 1 false true c = if a = c then 1 else 0) ∧ (∀ a c, k_t 2 true a false * k_t 2 false false c + k_t 2 true a true * k_t 2 false true c = if a = c then 1 else 0) ∧ ∀ a c, k_t 3 true a false * k_t 3 false false c + k_t 3 true a true * k_t 3 false true c = if a = c then 1000004 else 0 := by decide
theorem k_O : (∀ p a b, k_t 1 false p a * k_t 1 false p b = k_t 1 false p (a || b)) ∧ (∀ p a b, k_t 2 false p a * k_t 2 false p b = k_t 2 false p (a && b)) ∧ ∀ p a b, k_t 3 false p a * k_t 3 false p b = k_t 3 false p (a ^^ b) := by decide
