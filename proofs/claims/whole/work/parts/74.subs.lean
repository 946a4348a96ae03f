/-! the parts of a set, from it down -/
theorem sub_refl (s : Nat) : g_sub s s := fun _ h => h
theorem sub_and (x s : Nat) : g_sub (x &&& s) s := fun t h => by rw [Nat.testBit_and] at h; exact (Bool.and_eq_true_iff.mp h).2
theorem sub_half {p s : Nat} (h : g_sub p s) : g_sub (p / 2) (s / 2) := fun t ht => by
  rw [Nat.testBit_div_two] at ht ⊢
  exact h _ ht
theorem sub_odd {p s : Nat} (h : g_sub p s) : p % 2 ≤ s % 2 := by
  have := h 0
  rw [Nat.testBit_zero, Nat.testBit_zero] at this
  simp only [decide_eq_true_eq] at this
  omega
theorem sub_pred : ∀ a s p, g_sub a s → g_sub p s → p < a → p ≤ (a - 1) &&& s := by
  intro a
  induction a using Nat.strongRecOn with
  | _ a ih =>
    intro s p ha hp hlt
    have e : (a - 1) &&& s = 2 * ((a - 1) / 2 &&& s / 2) + ((a - 1) % 2) * (s % 2) := by
      have h1 := Nat.div_add_mod ((a - 1) &&& s) 2
      have h2 : ((a - 1) &&& s) / 2 = (a - 1) / 2 &&& s / 2 := by rw [Nat.and_div_two]
      have h3 : ((a - 1) &&& s) % 2 = ((a - 1) % 2) * (s % 2) := by
        rcases Nat.mod_two_eq_zero_or_one (a - 1) with q1 | q1 <;> rcases Nat.mod_two_eq_zero_or_one s with q2 | q2 <;> rw [q1, q2]
        · have := Nat.and_mod_two_eq_one (a := a - 1) (b := s); omega
        · have := Nat.and_mod_two_eq_one (a := a - 1) (b := s); omega
        · have := Nat.and_mod_two_eq_one (a := a - 1) (b := s); omega
        · have := Nat.and_mod_two_eq_one (a := a - 1) (b := s); omega
      omega
    have hao := sub_odd ha
    have hpo := sub_odd hp
    rcases Nat.mod_two_eq_zero_or_one a with q | q
    · have h1 : (a - 1) / 2 = a / 2 - 1 := by omega
      have h2 : (a - 1) % 2 = 1 := by omega
      have := ih (a / 2) (by omega) (s / 2) (p / 2) (sub_half ha) (sub_half hp) (by omega)
      rw [e, h1, h2]
      omega
    · have h1 : (a - 1) / 2 = a / 2 := by omega
      have h3 : a / 2 &&& s / 2 = a / 2 := Nat.eq_of_testBit_eq (fun i => by
        have := sub_half ha i
        rw [Nat.testBit_and]
        cases h : (a / 2).testBit i
        · rfl
        · rw [this h]; rfl)
      rw [e, h1, h3]
      omega
theorem pred_lt {a s : Nat} (h : 0 < a) : (a - 1) &&& s < a := Nat.lt_of_le_of_lt Nat.and_le_left (by omega)
theorem ps_subs {S X : Type} {step : S → Option (S ⊕ X)} (s : Nat) (I : Nat → S → Prop) (Q : X → Prop) (hs : ∀ p st, 0 < p → g_sub p s → I p st → ∃ st', step st = some (.inl st') ∧ I ((p - 1) &&& s) st') (hx : ∀ st, I 0 st → ∃ x, step st = some (.inr x) ∧ Q x) {F : Nat} {st : S} (h0 : I s st) (hF : s < F) : ∃ x, ps_lp step F st = some x ∧ Q x := by
  have H : ∀ p, ∀ F st, p < F → g_sub p s → I p st → ∃ x, ps_lp step F st = some x ∧ Q x := by
    intro p
    induction p using Nat.strongRecOn with
    | _ p ih =>
      intro F st hF hp hI
      match F, hF with
      | F + 1, hF =>
        by_cases e : p = 0
        · subst e
          obtain ⟨x, h1, h2⟩ := hx st hI
          exact ⟨x, by simp only [ps_lp, h1, Option.bind_some], h2⟩
        · obtain ⟨st', h1, h2⟩ := hs p st (by omega) hp hI
          have hl := pred_lt (s := s) (show 0 < p by omega)
          obtain ⟨x, a, b⟩ := ih _ hl F st' (by omega) (sub_and _ _) h2
          exact ⟨x, by simp only [ps_lp, h1, Option.bind_some]; exact a, b⟩
  exact H s F st hF (sub_refl s) h0
/-- sums over the parts of a set; over those above one -/
def u_s (s : Nat) (g : Nat → Int) : Int := fb_si (fun q => if g_df q s = 0 then g q else 0) (s + 1)
def u_d (s : Nat) (g : Nat → Int) (p : Nat) : Int := fb_si (fun q => if g_df q s = 0 ∧ p < q then g q else 0) (s + 1)
theorem u_d_top (s : Nat) (g : Nat → Int) : u_d s g s = 0 := si_none (fun k hk => if_neg (fun q => by omega))
theorem u_d_step {s p : Nat} (g : Nat → Int) (hp : g_sub p s) (h0 : 0 < p) : u_d s g ((p - 1) &&& s) = u_d s g p + g p := by
  have hps := sub_le hp
  unfold u_d
  rw [← si_one g (show p < s + 1 by omega), ← fb_si_add]
  refine fb_si_cong (fun q _ => ?_)
  have hl := pred_lt (s := s) h0
  by_cases e : g_df q s = 0
  · by_cases c : q = p
    · rw [if_pos ⟨e, by omega⟩, if_neg (fun z => by omega), if_pos c]; omega
    · rw [if_neg c]
      by_cases d : p < q
      · rw [if_pos ⟨e, by omega⟩, if_pos ⟨e, d⟩]; omega
      · have := sub_pred p s q hp (df_sub.mp e) (by omega)
        rw [if_neg (fun z => by omega), if_neg (fun z => by omega)]; rfl
  · have c : q ≠ p := fun z => e (by rw [z]; exact df_sub.mpr hp)
    rw [if_neg (fun z => e z.1), if_neg (fun z => e z.1), if_neg c]; rfl
theorem df_0 (s : Nat) : g_df 0 s = 0 := df_sub.mpr (fun t h => by rw [Nat.zero_testBit] at h; exact absurd h (by decide))
theorem df_s (s : Nat) : g_df s s = 0 := df_sub.mpr (sub_refl s)
theorem u_d_0 (s : Nat) (g : Nat → Int) : u_s s g = u_d s g 0 + g 0 := by
  unfold u_s u_d
  rw [← si_one g (show 0 < s + 1 by omega), ← fb_si_add]
  refine fb_si_cong (fun q _ => ?_)
  by_cases c : q = 0
  · rw [c, if_pos (df_0 s), if_neg (fun z => by omega), if_pos rfl]; omega
  · rw [if_neg c, Int.add_zero]
    by_cases e : g_df q s = 0
    · rw [if_pos e, if_pos ⟨e, by omega⟩]
    · rw [if_neg e, if_neg (fun z => e z.1)]
theorem u_s_N {s N : Nat} (g : Nat → Int) (h : s < N) : u_s s g = fb_si (fun q => if g_df q s = 0 then g q else 0) N := by
  obtain ⟨d, rfl⟩ : ∃ d, N = s + 1 + d := ⟨N - (s + 1), by omega⟩
  rw [fb_si_split, si_none (f := fun k => if g_df (s + 1 + k) s = 0 then g (s + 1 + k) else 0) (fun k _ => if_neg (fun q => by have := sub_le (df_sub.mp q); omega)), Int.add_zero]
  rfl
theorem u_s_cong {s : Nat} {g g' : Nat → Int} (h : ∀ q, q ≤ s → g_sub q s → g q = g' q) : u_s s g = u_s s g' := fb_si_cong (fun q hq => by
  by_cases e : g_df q s = 0
  · rw [if_pos e, if_pos e, h q (by omega) (df_sub.mp e)]
  · rw [if_neg e, if_neg e])
theorem u_d_bound {s : Nat} {g : Nat → Int} {c : Int} (hc : 0 ≤ c) (h : ∀ q, q ≤ s → -c ≤ g q ∧ g q ≤ c) (p : Nat) : -(((s + 1 : Nat) : Int) * c) ≤ u_d s g p ∧ u_d s g p ≤ ((s + 1 : Nat) : Int) * c := fb_si_bound hc (fun q hq => by
  show -c ≤ (if g_df q s = 0 ∧ p < q then g q else 0) ∧ (if g_df q s = 0 ∧ p < q then g q else 0) ≤ c
  split
  · exact h q (by omega)
  · omega)
/-- parts and what is left -/
theorem df_xor {p s : Nat} (h : g_sub p s) : g_df s p = s ^^^ p := Nat.eq_of_testBit_eq (fun i => by
  rw [df_tb, Nat.testBit_xor]
  have := h i
  cases hp : p.testBit i <;> cases hs : s.testBit i <;> simp_all)
theorem sub_rest {p s : Nat} (h : g_sub p s) : g_sub (s ^^^ p) s := fun t ht => by
  rw [← df_xor h, df_tb] at ht
  exact (Bool.and_eq_true_iff.mp ht).1
