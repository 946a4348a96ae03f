/-! bits of sets and of pairs -/
theorem bit_s : ∀ s, s < 256 → ∀ t, t < 8 → ((nI s >>> (nI t &&& 31)) &&& 1) = (if s.testBit t then 1 else 0) := by decide +kernel
theorem g_pr_tb {j : Nat → Nat} (h : ∀ t, j t < 256) {t u : Nat} (ht : t < 8) (hu : u < 8) : (g_pr j).testBit (8 * t + u) = (j t).testBit u := by
  rw [← g_pr_div h t ht, show (256 : Nat) = 2 ^ 8 from rfl, Nat.testBit_mod_two_pow, Nat.testBit_div_two_pow]
  simp [hu]
  congr 1
  omega
theorem pr_ext {N : Nat} {j : Nat → Nat} (hN : N < 2 ^ 64) (h : ∀ t, j t < 256) (hb : ∀ t u, t < 8 → u < 8 → N.testBit (8 * t + u) = (j t).testBit u) : N = g_pr j := by
  apply Nat.eq_of_testBit_eq
  intro i
  by_cases hi : i < 64
  · have e : i = 8 * (i / 8) + i % 8 := by omega
    rw [e, hb _ _ (by omega) (by omega), g_pr_tb h (by omega) (by omega)]
  · rw [Nat.testBit_lt_two_pow (Nat.lt_of_lt_of_le hN (Nat.pow_le_pow_right (by decide) (by omega))), Nat.testBit_lt_two_pow (Nat.lt_of_lt_of_le (g_pr_lt h) (Nat.pow_le_pow_right (by decide) (by omega)))]
theorem pr_inj {j j' : Nat → Nat} (h : ∀ t, j t < 256) (h' : ∀ t, j' t < 256) (e : ∀ t u, t < 8 → u < 8 → (j t).testBit u = (j' t).testBit u) : g_pr j = g_pr j' := pr_ext (g_pr_lt h) h' (fun t u ht hu => by rw [g_pr_tb h ht hu, e t u ht hu])
/-- two things joined, or parted -/
def g_tj (j : Nat → Nat) (a b : Nat) : Nat → Nat := fun t => if t = a then j t ^^^ 2 ^ b else if t = b then j t ^^^ 2 ^ a else j t
theorem x256 {x b : Nat} (hx : x < 256) (hb : b < 8) : x ^^^ 2 ^ b < 256 := Nat.xor_lt_two_pow (n := 8) hx (Nat.pow_lt_pow_right (by decide) hb)
theorem g_tj_lt {j : Nat → Nat} {a b : Nat} (h : ∀ t, j t < 256) (ha : a < 8) (hb : b < 8) : ∀ t, g_tj j a b t < 256 := by
  intro t
  unfold g_tj
  split
  · exact x256 (h t) hb
  · split
    · exact x256 (h t) ha
    · exact h t
theorem g_tj_tb {j : Nat → Nat} {a b t u : Nat} (hab : a ≠ b) : (g_tj j a b t).testBit u = ((j t).testBit u ^^ (decide ((t = a ∧ u = b) ∨ (t = b ∧ u = a)))) := by
  unfold g_tj
  by_cases e1 : t = a
  · subst e1
    rw [if_pos rfl, Nat.testBit_xor, Nat.testBit_two_pow]
    congr 1
    by_cases e2 : b = u
    · simp [e2]
    · have : ¬ (u = b) := fun q => e2 q.symm
      simp [e2, this, hab]
  · rw [if_neg e1]
    by_cases e2 : t = b
    · subst e2
      rw [if_pos rfl, Nat.testBit_xor, Nat.testBit_two_pow]
      congr 1
      by_cases e3 : a = u
      · simp [e3]
      · have : ¬ (u = a) := fun q => e3 q.symm
        simp [e1, this]
        exact e3
    · rw [if_neg e2]
      simp [e1, e2]
theorem pr_turn {j : Nat → Nat} {a b : Nat} (h : ∀ t, j t < 256) (ha : a < 8) (hb : b < 8) (hab : a ≠ b) : g_pr j ^^^ (2 ^ (a * 8 + b) ||| 2 ^ (b * 8 + a)) = g_pr (g_tj j a b) := by
  apply pr_ext
  · refine Nat.xor_lt_two_pow (g_pr_lt h) (Nat.or_lt_two_pow ?_ ?_) <;> exact Nat.pow_lt_pow_right (by decide) (by omega)
  · exact g_tj_lt h ha hb
  · intro t u ht hu
    rw [Nat.testBit_xor, Nat.testBit_or, Nat.testBit_two_pow, Nat.testBit_two_pow, g_pr_tb h ht hu, g_tj_tb hab]
    congr 1
    by_cases e : (t = a ∧ u = b) ∨ (t = b ∧ u = a)
    · rw [decide_eq_true e]
      rcases e with ⟨rfl, rfl⟩ | ⟨rfl, rfl⟩
      · simp; omega
      · simp; omega
    · rw [decide_eq_false e]
      have e1 : ¬ (a * 8 + b = 8 * t + u) := by omega
      have e2 : ¬ (b * 8 + a = 8 * t + u) := by omega
      simp [e1, e2]
theorem c_turn_of {v : Int64} {j : Nat → Nat} {a b : Nat} (hv : v = lN (g_pr j)) (h : ∀ t, j t < 256) (ha : a < 8) (hb : b < 8) (hab : a ≠ b) : v ^^^ (((1 : Int64) <<< (Int32.toInt64 ((nI a * (8 : Int32)) + nI b) &&& 63)) ||| ((1 : Int64) <<< (Int32.toInt64 ((nI b * (8 : Int32)) + nI a) &&& 63))) = lN (g_pr (g_tj j a b)) := by
  rw [hv, show (1 : Int64) = lN 1 from rfl, nl_8, pk_mul, pk_mul, nI_add, nI_add, wb_shl _ (by omega), wb_shl _ (by omega), Nat.one_mul, Nat.one_mul, fb_orL, fb_xorL, pr_turn h ha hb hab]
theorem c_turnPair {σ : ps_S} {j : Nat → Nat} {a b : Nat} (hv : σ.2 1 1 = lN (g_pr j)) (h : ∀ t, j t < 256) (ha : a < 8) (hb : b < 8) (hab : a ≠ b) : fX1_turnPair (nI a) (nI b) σ = some (ps_ul σ 1 1 (lN (g_pr (g_tj j a b)))) := by
  unfold fX1_turnPair
  simp only [ps_let]
  rw [c_turn_of hv h ha hb hab]
theorem c_mates_j {σ : ps_S} {j : Nat → Nat} {t : Nat} (hv : σ.2 1 1 = lN (g_pr j)) (h : ∀ t, j t < 256) (ht : t < 8) : fX1_mates (nI t) σ = some (nI (j t)) := by
  unfold fX1_mates
  rw [c_mates_of hv h ht]
theorem c_areMates {σ : ps_S} {j : Nat → Nat} {a b : Nat} (hv : σ.2 1 1 = lN (g_pr j)) (h : ∀ t, j t < 256) (ha : a < 8) (hb : b < 8) : fX1_areMates (nI a) (nI b) σ = some (if (j a).testBit b then 1 else 0) := by
  unfold fX1_areMates
  rw [c_mates_j hv h ha, Option.bind_some, bit_s _ (h a) b hb]
  cases (j a).testBit b <;> decide
theorem m_has {s t : Nat} (hs : s < 256) (ht : t < 8) : fX5_has (nI s) (nI t) = some (if s.testBit t then 1 else 0) := by
  unfold fX5_has
  rw [bit_s s hs t ht]
  cases s.testBit t <;> decide
theorem b2i {p q : Bool} : ((if p then (1 : Int32) else 0) = (if q then 1 else 0)) ↔ p = q := by
  cases p <;> cases q <;> decide
theorem sh1' : ∀ n, n < 8 → (1 : Int32) <<< (nI n &&& 31) = nI (2 ^ n) := fun n h => sh1 n (by omega)
/-- names changed in a set -/
def t_sw (a b t : Nat) : Nat := if t = a then b else if t = b then a else t
theorem g_sw_tb {a b s : Nat} (hab : a ≠ b) (t : Nat) : (g_sw a b s).testBit t = s.testBit (t_sw a b t) := by
  unfold g_sw t_sw
  by_cases e : s.testBit a = s.testBit b
  · rw [if_pos e]
    by_cases e1 : t = a
    · subst e1; rw [if_pos rfl, e]
    · rw [if_neg e1]
      by_cases e2 : t = b
      · subst e2; rw [if_pos rfl, e]
      · rw [if_neg e2]
  · rw [if_neg e, Nat.testBit_xor, Nat.testBit_or, Nat.testBit_two_pow, Nat.testBit_two_pow]
    by_cases e1 : t = a
    · subst e1
      rw [if_pos rfl]
      revert e
      cases s.testBit t <;> cases s.testBit b <;> simp
    · rw [if_neg e1]
      have e1' : ¬ (a = t) := fun q => e1 q.symm
      by_cases e2 : t = b
      · subst e2
        rw [if_pos rfl]
        revert e
        cases s.testBit t <;> cases s.testBit a <;> simp [e1']
      · rw [if_neg e2]
        have e2' : ¬ (b = t) := fun q => e2 q.symm
        simp [e1', e2']
theorem t_sw_sw {a b : Nat} (t : Nat) : t_sw a b (t_sw a b t) = t := by
  unfold t_sw
  by_cases e1 : t = a
  · subst e1
    rw [if_pos rfl]
    by_cases e2 : b = t
    · rw [if_pos e2, e2]
    · rw [if_neg e2, if_pos rfl]
  · rw [if_neg e1]
    by_cases e2 : t = b
    · subst e2; rw [if_pos rfl, if_pos rfl]
    · rw [if_neg e2, if_neg e1, if_neg e2]
theorem g_sw_sw {a b : Nat} (hab : a ≠ b) (s : Nat) : g_sw a b (g_sw a b s) = s := by
  apply Nat.eq_of_testBit_eq
  intro i
  rw [g_sw_tb hab, g_sw_tb hab, t_sw_sw]
theorem g_sw_lt {a b n s : Nat} (ha : a < n) (hb : b < n) (hs : s < 2 ^ n) : g_sw a b s < 2 ^ n := by
  unfold g_sw
  split
  · exact hs
  · exact Nat.xor_lt_two_pow hs (Nat.or_lt_two_pow (Nat.pow_lt_pow_right (by decide) ha) (Nat.pow_lt_pow_right (by decide) hb))
theorem g_nm_wf {a b : Nat} {g : gG} (h : g_wf g) (ha : a < g_n g) (hb : b < g_n g) (hab : a ≠ b) : g_wf (g_nm a b g) := by
  obtain ⟨w1, w2, w3, w4, w5, w6, w7, w8, w9⟩ := h
  have hge : ∀ s, g_n g = 0 ∨ 2 ^ g_n g ≤ s → g_n g = 0 ∨ 2 ^ g_n g ≤ g_sw a b s := by
    intro s hs
    refine Or.inr (Nat.not_lt.mp fun q => ?_)
    have := g_sw_lt ha hb q
    rw [g_sw_sw hab] at this
    omega
  refine ⟨w1, fun s => w2 _, fun s hs => w3 _ (hge s hs), fun t => g_sw_lt ha hb (w4 _), fun t ht => ?_, fun t u => ?_, fun t => ?_, fun r s => w8 _ _, fun r s hs => w9 _ _ (hge s hs)⟩
  · have ht' : g_n g ≤ t := ht
    show g_sw a b (g_j g (if t = a then b else if t = b then a else t)) = 0
    rw [if_neg (by omega), if_neg (by omega), w5 t ht']
    simp [g_sw]
  · show (g_sw a b (g_j g (t_sw a b t))).testBit u = (g_sw a b (g_j g (t_sw a b u))).testBit t
    rw [g_sw_tb hab, g_sw_tb hab, w6]
  · show (g_sw a b (g_j g (t_sw a b t))).testBit t = false
    rw [g_sw_tb hab, w7]
theorem g_nm_nm {a b : Nat} {g : gG} (hab : a ≠ b) : g_nm a b (g_nm a b g) = g := by
  obtain ⟨n, w, j, f⟩ := g
  show (n, _, _, _) = (n, w, j, f)
  congr 2
  · funext s
    show w (g_sw a b (g_sw a b s)) = w s
    rw [g_sw_sw hab]
  · congr 1
    · funext t
      show g_sw a b (g_sw a b (j (t_sw a b (t_sw a b t)))) = j t
      rw [g_sw_sw hab, t_sw_sw]
    · funext r s
      show f r (g_sw a b (g_sw a b s)) = f r s
      rw [g_sw_sw hab]
