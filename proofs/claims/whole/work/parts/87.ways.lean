/-! ways to part a set into k sets: numbers -/
def w_W (f : Nat → Int) (k S : Nat) : Int := s_H f (fun d => if d = k then 1 else 0) 0 S
theorem w_0 (f : Nat → Int) (k : Nat) : w_W f k 0 = if k = 0 then 1 else 0 := by
  unfold w_W
  rw [s_H0]
  by_cases c : k = 0
  · rw [if_pos c.symm, if_pos c]
  · rw [if_neg (fun q => c q.symm), if_neg c]
theorem dn_eq (f G : Nat → Int) {S : Nat} (hS : S < 256) (h0 : S ≠ 0) : s_dn f G S = u_s S (fun p => if p.testBit (g_lt S) = true then f p * G (S ^^^ p) else 0) := by
  obtain ⟨l1, l2, l3, -⟩ := lt_ok S hS h0
  rw [u_low hS l1 l2, ← rs_eq hS h0]
  unfold s_dn
  refine u_s_cong (fun m hm hsub => ?_)
  show f (m ^^^ 2 ^ g_lt S) * G (g_rs S ^^^ m) = f (m ^^^ 2 ^ g_lt S) * G (S ^^^ (m ^^^ 2 ^ g_lt S))
  rw [x_x, ← rs_eq hS h0]
theorem H_zero (f : Nat → Int) : ∀ S, S < 256 → ∀ d, s_H f (fun _ => 0) d S = 0 := by
  intro S
  induction S using Nat.strongRecOn with
  | _ S ih =>
    intro hS d
    by_cases h0 : S = 0
    · subst h0; rfl
    · rw [s_H1 _ _ _ hS h0, dn_cong (H := fun _ => 0) hS h0 (fun T hT _ => ih T hT (by omega) _)]
      unfold s_dn
      rw [u_s_cong (g' := fun _ => 0) (fun q _ _ => Int.mul_zero _), u_zero]
theorem w_S (f : Nat → Int) (k : Nat) {S : Nat} (hS : S < 256) (h0 : S ≠ 0) : w_W f k S = if k = 0 then 0 else u_s S (fun p => if p.testBit (g_lt S) = true then f p * w_W f (k - 1) (S ^^^ p) else 0) := by
  unfold w_W
  rw [s_H1 _ _ _ hS h0]
  by_cases c : k = 0
  · rw [if_pos c]
    rw [dn_cong (H := fun _ => 0) hS h0 (fun T hT _ => by
      rw [H_shift _ _ T (by omega), show (fun d => if d + 1 = k then (1 : Int) else 0) = fun _ => 0 from funext (fun d => if_neg (by omega))]
      exact H_zero f T (by omega) 0)]
    unfold s_dn
    rw [u_s_cong (g' := fun _ => 0) (fun q _ _ => Int.mul_zero _), u_zero]
  · rw [if_neg c, ← dn_eq f (s_H f (fun d => if d = k - 1 then 1 else 0) 0) hS h0]
    refine dn_cong hS h0 (fun T hT _ => ?_)
    rw [H_shift _ _ T (by omega)]
    congr 1
    funext d
    by_cases e : d = k - 1
    · rw [if_pos e, if_pos (by omega)]
    · rw [if_neg e, if_neg (by omega)]
theorem bc_sub {x y : Nat} (h : g_sub x y) : g_bc x ≤ g_bc y := by
  have := bc_and_le x y
  have e : x &&& y = x := Nat.eq_of_testBit_eq (fun i => by
    rw [Nat.testBit_and]
    have := h i
    cases hx : x.testBit i <;> cases hy : y.testBit i <;> simp_all)
  rw [e] at this
  exact this
/-- how many parts -/
theorem u_const (c : Int) : ∀ R, R < 256 → u_s R (fun _ => c) = 2 ^ g_bc R * c := by
  intro R
  induction R using Nat.strongRecOn with
  | _ R ih =>
    intro hR
    by_cases h0 : R = 0
    · subst h0
      rw [u_nil, g_bc_0]; simp
    · obtain ⟨l1, l2, l3, -, -, -, l7⟩ := lt_ok R hR h0
      rw [u_split hR l1 l2, ← rs_eq hR h0, ih _ l3 (by omega), l7, Int.pow_succ]
      generalize (2 : Int) ^ g_bc (g_rs R) = z
      grind
def w_tri : Nat → Nat
  | 0 => 0
  | c + 1 => c + w_tri c
theorem tri_mono {a : Nat} : ∀ {b : Nat}, a ≤ b → w_tri a ≤ w_tri b
  | 0, h => by have : a = 0 := by omega
               rw [this]; exact Nat.le_refl _
  | b + 1, h => by
    by_cases e : a = b + 1
    · rw [e]; exact Nat.le_refl _
    · have := tri_mono (a := a) (b := b) (by omega)
      rw [show w_tri (b + 1) = b + w_tri b from rfl]
      omega
theorem u_mono {s : Nat} {g h : Nat → Int} (H : ∀ q, q ≤ s → g_sub q s → g q ≤ h q) : u_s s g ≤ u_s s h := by
  have : ∀ n, n ≤ s + 1 → fb_si (fun q => if g_df q s = 0 then g q else 0) n ≤ fb_si (fun q => if g_df q s = 0 then h q else 0) n := by
    intro n
    induction n with
    | zero => intro _; exact Int.le_refl _
    | succ n ih =>
      intro hn
      rw [fb_si_succ, fb_si_succ]
      have h1 := ih (by omega)
      by_cases e : g_df n s = 0
      · rw [if_pos e, if_pos e]
        have := H n (by omega) (df_sub.mp e)
        omega
      · rw [if_neg e, if_neg e]; omega
  exact this (s + 1) (Nat.le_refl _)
theorem w_bound {f : Nat → Int} (hf : ∀ p, p < 256 → 0 ≤ f p ∧ f p ≤ 1) : ∀ S, S < 256 → ∀ k, 0 ≤ w_W f k S ∧ w_W f k S ≤ 2 ^ w_tri (g_bc S) := by
  intro S
  induction S using Nat.strongRecOn with
  | _ S ih =>
    intro hS k
    by_cases h0 : S = 0
    · subst h0
      rw [w_0, g_bc_0]
      split <;> exact ⟨by decide, by decide⟩
    · have hp : (0 : Int) < 2 ^ w_tri (g_bc S) := Int.pow_pos (by decide)
      unfold w_W
      rw [s_H1 _ _ _ hS h0]
      obtain ⟨l1, l2, l3, l4, -, -, l7⟩ := lt_ok S hS h0
      have e : ∀ T, T < 256 → s_H f (fun d => if d = k then 1 else 0) (0 + 1) T = if k = 0 then 0 else w_W f (k - 1) T := fun T hT => by
        rw [H_shift _ _ T hT]
        by_cases c : k = 0
        · rw [if_pos c, show (fun d => if d + 1 = k then (1 : Int) else 0) = fun _ => 0 from funext (fun d => if_neg (by omega))]
          exact H_zero f T hT 0
        · rw [if_neg c]
          unfold w_W
          congr 1
          funext d
          by_cases e : d = k - 1
          · rw [if_pos e, if_pos (by omega)]
          · rw [if_neg e, if_neg (by omega)]
      have hq : ∀ l, l ≤ g_rs S → g_sub l (g_rs S) → 0 ≤ f (l ^^^ 2 ^ g_lt S) * s_H f (fun d => if d = k then 1 else 0) (0 + 1) (g_rs S ^^^ l) ∧ f (l ^^^ 2 ^ g_lt S) * s_H f (fun d => if d = k then 1 else 0) (0 + 1) (g_rs S ^^^ l) ≤ 2 ^ w_tri (g_bc (g_rs S)) := fun l hl hs => by
        have h1 := sub_rest hs
        have h2 := sub_le h1
        have hlt : 2 ^ g_lt S < 256 := Nat.pow_lt_pow_right (by decide) l1
        have hf1 := hf (l ^^^ 2 ^ g_lt S) (xor256 (by omega) hlt)
        have hm : (2 : Int) ^ w_tri (g_bc (g_rs S ^^^ l)) ≤ 2 ^ w_tri (g_bc (g_rs S)) := by
          have := Nat.pow_le_pow_right (n := 2) (by decide) (tri_mono (bc_sub h1))
          exact_mod_cast this
        have hW : 0 ≤ s_H f (fun d => if d = k then 1 else 0) (0 + 1) (g_rs S ^^^ l) ∧ s_H f (fun d => if d = k then 1 else 0) (0 + 1) (g_rs S ^^^ l) ≤ 2 ^ w_tri (g_bc (g_rs S)) := by
          rw [e _ (by omega)]
          split
          · exact ⟨Int.le_refl _, Int.le_of_lt (Int.pow_pos (by decide))⟩
          · have := ih (g_rs S ^^^ l) (by omega) (by omega) (k - 1)
            exact ⟨this.1, Int.le_trans this.2 hm⟩
        generalize s_H f (fun d => if d = k then 1 else 0) (0 + 1) (g_rs S ^^^ l) = W at hW
        generalize (2 : Int) ^ w_tri (g_bc (g_rs S)) = B at hW
        have hc : f (l ^^^ 2 ^ g_lt S) = 0 ∨ f (l ^^^ 2 ^ g_lt S) = 1 := by omega
        rcases hc with hc | hc
        · rw [hc, Int.zero_mul]; omega
        · rw [hc, Int.one_mul]; exact hW
      unfold s_dn
      refine ⟨?_, ?_⟩
      · have := u_mono (g := fun _ => 0) (fun l hl hs => (hq l hl hs).1)
        rw [u_zero] at this
        exact this
      · have := u_mono (h := fun _ => 2 ^ w_tri (g_bc (g_rs S))) (fun l hl hs => (hq l hl hs).2)
        rw [u_const _ _ (by omega)] at this
        refine Int.le_trans this (Int.le_of_eq ?_)
        rw [l7, show w_tri (g_bc (g_rs S) + 1) = g_bc (g_rs S) + w_tri (g_bc (g_rs S)) from rfl, Int.pow_add]
theorem w_small {f : Nat → Int} (hf : ∀ p, p < 256 → 0 ≤ f p ∧ f p ≤ 1) {S : Nat} (hS : S < 256) (k : Nat) : 0 ≤ w_W f k S ∧ w_W f k S ≤ 268435456 := by
  have h1 := w_bound hf S hS k
  have h2 := tri_mono (g_bc_le S)
  have h3 : (2 : Int) ^ w_tri (g_bc S) ≤ 268435456 := by
    have := Nat.pow_le_pow_right (n := 2) (by decide) h2
    have e : 2 ^ w_tri 8 = 268435456 := by decide
    rw [e] at this
    have e2 : ((2 ^ w_tri (g_bc S) : Nat) : Int) = (2 : Int) ^ w_tri (g_bc S) := by rw [Int.natCast_pow]; rfl
    rw [← e2]
    exact Int.ofNat_le.mpr this
  omega
/-- any slopes: the sum over how many sets -/
theorem H_lin (f sl : Nat → Int) {M : Nat} : ∀ S, S < 256 → ∀ d, d + g_bc S < M → s_H f sl d S = fb_si (fun j => sl j * s_H f (fun i => if i = j then 1 else 0) d S) M := by
  intro S
  induction S using Nat.strongRecOn with
  | _ S ih =>
    intro hS d hd
    by_cases h0 : S = 0
    · subst h0
      rw [g_bc_0] at hd
      have e1 : ∀ j, j < M → sl j * s_H f (fun i => if i = j then 1 else 0) d 0 = if j = d then sl j else 0 := fun j _ => by
        rw [s_H0]
        by_cases c : j = d
        · rw [if_pos c, if_pos c.symm, Int.mul_one]
        · rw [if_neg c, if_neg (fun q => c q.symm), Int.mul_zero]
      rw [fb_si_cong e1, si_one sl (by omega), s_H0]
    · obtain ⟨l1, l2, l3, -, -, -, l7⟩ := lt_ok S hS h0
      rw [s_H1 _ _ _ hS h0]
      have e1 : ∀ j, j < M → sl j * s_H f (fun i => if i = j then 1 else 0) d S = u_s (g_rs S) (fun l => sl j * (f (l ^^^ 2 ^ g_lt S) * s_H f (fun i => if i = j then 1 else 0) (d + 1) (g_rs S ^^^ l))) := fun j _ => by
        rw [s_H1 _ _ _ hS h0, u_mul]
        rfl
      rw [fb_si_cong e1]
      unfold s_dn u_s
      rw [si_swap]
      refine fb_si_cong (fun l hl => ?_)
      by_cases c : g_df l (g_rs S) = 0
      · have h1 := sub_rest (df_sub.mp c)
        have h2 := sub_le h1
        have h3 := bc_sub h1
        rw [if_pos c]
        show f (l ^^^ 2 ^ g_lt S) * s_H f sl (d + 1) (g_rs S ^^^ l) = _
        rw [ih (g_rs S ^^^ l) (by omega) (by omega) (d + 1) (by omega), ← fb_si_mul]
        refine fb_si_cong (fun j _ => ?_)
        rw [if_pos c]
        grind
      · rw [if_neg c]
        exact (si_none (fun j _ => if_neg c)).symm
