/-! pairs in a set, from the set without its least thing -/
def b2n (p : Bool) : Nat := if p then 1 else 0
theorem bc_sm (x : Nat) : g_bc x = fb_sm (fun u => b2n (x.testBit u)) 8 := by
  unfold g_bc
  rw [ct_sm]; rfl
def g_lt (x : Nat) : Nat := fa_first (fun t => x.testBit t) 8
/-- a set without its least thing -/
def g_rs (x : Nat) : Nat := x &&& (x - 1)
theorem lt_ok : ∀ x, x < 256 → x ≠ 0 → g_lt x < 8 ∧ x.testBit (g_lt x) = true ∧ g_rs x < x ∧ g_rs x ^^^ 2 ^ g_lt x = x ∧ x ^^^ 2 ^ g_lt x = g_rs x ∧ (∀ u, u < g_lt x → x.testBit u = false) ∧ g_bc x = g_bc (g_rs x) + 1 := by decide +kernel
theorem c_least : ∀ x, x < 256 → x ≠ 0 → fX4_leastThing (nI x) = some (nI (g_lt x)) := by decide +kernel
theorem bc_0 : ∀ x, x < 256 → (g_bc x = 0 ↔ x = 0) := by decide +kernel
theorem rs_tb {x : Nat} (hx : x < 256) (h0 : x ≠ 0) (u : Nat) : (g_rs x).testBit u = (x.testBit u && decide (u ≠ g_lt x)) := by
  obtain ⟨h1, h2, h3, h4, h5, -⟩ := lt_ok x hx h0
  rw [← h5, Nat.testBit_xor, Nat.testBit_two_pow]
  by_cases e : u = g_lt x
  · subst e; simp [h2]
  · have : ¬ (g_lt x = u) := fun q => e q.symm
    simp [e, this]
theorem p2_sm {a : gG} (hw : g_wf a) (s : Nat) : g_p2 a s = fb_sm (fun t => fb_sm (fun u => b2n (s.testBit t && (s.testBit u && (g_j a t).testBit u))) 8) 8 := by
  refine fb_sm_ext hw.1 (fun t _ => ?_) (fun t h1 _ => ?_)
  · show (if s.testBit t then g_bc (g_j a t &&& s) else 0) = _
    cases s.testBit t
    · simp [b2n]
      rw [fb_sm_const]
    · simp only [if_true, Bool.true_and]
      rw [bc_sm]
      refine fb_sm_cong (fun u _ => ?_)
      rw [Nat.testBit_and, Bool.and_comm]
  · show fb_sm _ 8 = 0
    rw [hw.2.2.2.2.1 t h1]
    simp [b2n]
    rw [fb_sm_const]
theorem p2_rec {a : gG} (hw : g_wf a) {s : Nat} (hs : s < 256) (h0 : s ≠ 0) : g_p2 a s = g_p2 a (g_rs s) + 2 * g_bc (g_j a (g_lt s) &&& g_rs s) := by
  obtain ⟨h1, h2, h3, h4, h5, -⟩ := lt_ok s hs h0
  rw [p2_sm hw, p2_sm hw, bc_sm]
  have key : ∀ t u, b2n (s.testBit t && (s.testBit u && (g_j a t).testBit u)) = b2n ((g_rs s).testBit t && ((g_rs s).testBit u && (g_j a t).testBit u)) + ((if t = g_lt s then b2n ((g_j a (g_lt s) &&& g_rs s).testBit u) else 0) + (if u = g_lt s then b2n ((g_j a (g_lt s) &&& g_rs s).testBit t) else 0)) := by
    intro t u
    rw [Nat.testBit_and, Nat.testBit_and, rs_tb hs h0, rs_tb hs h0]
    have sy := hw.2.2.2.2.2.1
    have ir := hw.2.2.2.2.2.2.1
    by_cases et : t = g_lt s
    · subst et
      by_cases eu : u = g_lt s
      · subst eu
        rw [ir]; simp [b2n]
      · simp [h2, eu, b2n, Bool.and_comm]
    · by_cases eu : u = g_lt s
      · subst eu
        rw [sy t (g_lt s)]
        simp [h2, et, b2n, Bool.and_comm]
      · simp [et, eu, b2n]
  have e1 : fb_sm (fun t => fb_sm (fun u => b2n (s.testBit t && (s.testBit u && (g_j a t).testBit u))) 8) 8 = fb_sm (fun t => fb_sm (fun u => b2n ((g_rs s).testBit t && ((g_rs s).testBit u && (g_j a t).testBit u))) 8 + (fb_sm (fun u => if t = g_lt s then b2n ((g_j a (g_lt s) &&& g_rs s).testBit u) else 0) 8 + fb_sm (fun u => if u = g_lt s then b2n ((g_j a (g_lt s) &&& g_rs s).testBit t) else 0) 8)) 8 := by
    refine fb_sm_cong (fun t _ => ?_)
    rw [← fb_sm_add, ← fb_sm_add]
    exact fb_sm_cong (fun u _ => key t u)
  rw [e1, fb_sm_add, fb_sm_add]
  have e2 : fb_sm (fun t => fb_sm (fun u => if t = g_lt s then b2n ((g_j a (g_lt s) &&& g_rs s).testBit u) else 0) 8) 8 = fb_sm (fun u => b2n ((g_j a (g_lt s) &&& g_rs s).testBit u)) 8 := by
    rw [sm_swap]
    exact fb_sm_cong (fun u _ => sm_one (fun _ => b2n ((g_j a (g_lt s) &&& g_rs s).testBit u)) h1)
  have e3 : fb_sm (fun t => fb_sm (fun u => if u = g_lt s then b2n ((g_j a (g_lt s) &&& g_rs s).testBit t) else 0) 8) 8 = fb_sm (fun t => b2n ((g_j a (g_lt s) &&& g_rs s).testBit t)) 8 := fb_sm_cong (fun t _ => sm_one (fun _ => b2n ((g_j a (g_lt s) &&& g_rs s).testBit t)) h1)
  rw [e2, e3]
  omega
theorem p2_zero {a : gG} (hw : g_wf a) : g_p2 a 0 = 0 := by
  rw [p2_sm hw]
  simp [b2n]
  rw [fb_sm_const, fb_sm_const]
/-- how many pairs a set has in it -/
def g_pi (a : gG) (s : Nat) : Nat := g_p2 a s / 2
theorem pi_0 {a : gG} (hw : g_wf a) : g_pi a 0 = 0 := by unfold g_pi; rw [p2_zero hw]
theorem p2_even {a : gG} (hw : g_wf a) : ∀ s, s < 256 → g_p2 a s % 2 = 0 := by
  intro s
  induction s using Nat.strongRecOn with
  | _ s ih =>
    intro hs
    by_cases h0 : s = 0
    · rw [h0, p2_zero hw]
    · have := ih (g_rs s) (lt_ok s hs h0).2.2.1 (by have := (lt_ok s hs h0).2.2.1; omega)
      rw [p2_rec hw hs h0]
      omega
theorem pi_rec {a : gG} (hw : g_wf a) {s : Nat} (hs : s < 256) (h0 : s ≠ 0) : g_pi a s = g_pi a (g_rs s) + g_bc (g_j a (g_lt s) &&& g_rs s) := by
  have := p2_even hw (g_rs s) (by have := (lt_ok s hs h0).2.2.1; omega)
  unfold g_pi
  rw [p2_rec hw hs h0]
  omega
theorem bc_and_le (x y : Nat) : g_bc (x &&& y) ≤ g_bc y := fb_ct_sub (fun k _ h => by
  rw [Nat.testBit_and] at h
  exact (Bool.and_eq_true_iff.mp h).2)
theorem ct_eq {p q : Nat → Bool} {n : Nat} (h : ∀ k, k < n → p k = true → q k = true) (e : fb_ct p n = fb_ct q n) : ∀ k, k < n → p k = q k := by
  have h1 := fb_ct_or (p := p) (q := fun k => q k && !p k) (n := n) (fun k _ hh => by simp [hh.1] at hh)
  have h2 : fb_ct (fun k => p k || (q k && !p k)) n = fb_ct q n := fb_ct_cong (fun k hk => by
    have := h k hk
    cases hp : p k
    · simp
    · simp [this hp])
  have h3 : fb_ct (fun k => q k && !p k) n = 0 := by omega
  intro k hk
  have h4 := fb_ct_zero.mp h3 k hk
  have := h k hk
  cases hp : p k
  · simp [hp] at h4; exact h4.symm
  · exact (this hp).symm
theorem bc_and_eq {x y : Nat} (hy : y < 256) : g_bc (x &&& y) = g_bc y ↔ x &&& y = y := by
  constructor
  · intro e
    have := ct_eq (p := fun t => (x &&& y).testBit t) (q := fun t => y.testBit t) (n := 8) (fun k _ h => by
      rw [Nat.testBit_and] at h
      exact (Bool.and_eq_true_iff.mp h).2) e
    apply Nat.eq_of_testBit_eq
    intro i
    by_cases hi : i < 8
    · exact this i hi
    · have h2 : y < 2 ^ i := Nat.lt_of_lt_of_le hy (show 2 ^ 8 ≤ 2 ^ i from Nat.pow_le_pow_right (by decide) (by omega))
      rw [Nat.testBit_and, Nat.testBit_lt_two_pow h2, Bool.and_false]
  · intro e; rw [e]
theorem pi_le {a : gG} (hw : g_wf a) : ∀ s, s < 256 → g_pi a s ≤ g_bc s * (g_bc s - 1) / 2 ∧ 2 * (g_bc s * (g_bc s - 1) / 2) = g_bc s * (g_bc s - 1) := by
  intro s
  induction s using Nat.strongRecOn with
  | _ s ih =>
    intro hs
    by_cases h0 : s = 0
    · rw [h0, pi_0 hw]; decide
    · obtain ⟨h1, h2, h3, h4, h5, h6, h7⟩ := lt_ok s hs h0
      obtain ⟨i1, i2⟩ := ih (g_rs s) h3 (by omega)
      have hb := bc_and_le (g_j a (g_lt s)) (g_rs s)
      rw [pi_rec hw hs h0, h7]
      have e : (g_bc (g_rs s) + 1) * (g_bc (g_rs s) + 1 - 1) = g_bc (g_rs s) * (g_bc (g_rs s) - 1) + 2 * g_bc (g_rs s) := by
        cases g_bc (g_rs s) with
        | zero => rfl
        | succ k => simp only [Nat.add_sub_cancel]; rw [Nat.succ_mul (k + 1), Nat.mul_succ (k + 1) k]; omega
      rw [e]
      omega
theorem pi_28 {a : gG} (hw : g_wf a) {s : Nat} (hs : s < 256) : g_pi a s ≤ 28 := by
  have h := (pi_le hw s hs).1
  have h2 := g_bc_le s
  have : g_bc s * (g_bc s - 1) ≤ 8 * 7 := Nat.mul_le_mul h2 (by omega)
  omega
