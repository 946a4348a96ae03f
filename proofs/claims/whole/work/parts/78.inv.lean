/-! what undoes a row, and its roots -/
/-- alike modulo M -/
def pe (M x y : Int) : Prop := ∃ q, x = y + M * q
theorem pe.rf {M x : Int} : pe M x x := ⟨0, by omega⟩
theorem pe.of {M x y : Int} (h : x = y) : pe M x y := h ▸ pe.rf
theorem pe.sy {M x y : Int} (h : pe M x y) : pe M y x := by
  obtain ⟨q, h⟩ := h
  exact ⟨-q, by rw [h]; grind⟩
theorem pe.tr {M x y z : Int} (h1 : pe M x y) (h2 : pe M y z) : pe M x z := by
  obtain ⟨q, h1⟩ := h1
  obtain ⟨r, h2⟩ := h2
  exact ⟨q + r, by rw [h1, h2]; grind⟩
theorem pe.add {M x y z w : Int} (h1 : pe M x y) (h2 : pe M z w) : pe M (x + z) (y + w) := by
  obtain ⟨q, h1⟩ := h1
  obtain ⟨r, h2⟩ := h2
  exact ⟨q + r, by rw [h1, h2]; grind⟩
theorem pe.sub {M x y z w : Int} (h1 : pe M x y) (h2 : pe M z w) : pe M (x - z) (y - w) := by
  obtain ⟨q, h1⟩ := h1
  obtain ⟨r, h2⟩ := h2
  exact ⟨q - r, by rw [h1, h2]; grind⟩
theorem pe.mul {M x y z w : Int} (h1 : pe M x y) (h2 : pe M z w) : pe M (x * z) (y * w) := by
  obtain ⟨q, h1⟩ := h1
  obtain ⟨r, h2⟩ := h2
  exact ⟨y * r + q * w + M * q * r, by rw [h1, h2]; grind⟩
theorem pe.ml {M x y : Int} (c : Int) (h : pe M x y) : pe M (c * x) (c * y) := pe.mul pe.rf h
theorem pe_si {M : Int} {f g : Nat → Int} : ∀ {n : Nat}, (∀ k, k < n → pe M (f k) (g k)) → pe M (fb_si f n) (fb_si g n)
  | 0, _ => pe.rf
  | n + 1, h => by
    rw [fb_si_succ, fb_si_succ]
    exact (pe_si (fun k hk => h k (by omega))).add (h n (by omega))
theorem pe_u {M : Int} {s : Nat} {f g : Nat → Int} (h : ∀ q, q ≤ s → g_sub q s → pe M (f q) (g q)) : pe M (u_s s f) (u_s s g) := pe_si (fun q hq => by
  by_cases c : g_df q s = 0
  · rw [if_pos c, if_pos c]; exact h q (by omega) (df_sub.mp c)
  · rw [if_neg c, if_neg c]; exact pe.rf)
theorem pe_red {x y : Int} : pe 1000003 x y ↔ g_red x = g_red y := by
  constructor
  · rintro ⟨q, h⟩; exact red_of q h
  · intro h
    obtain ⟨q, h1⟩ := red_ex x
    obtain ⟨r, h2⟩ := red_ex y
    rw [h] at h1
    exact ⟨r - q, by rw [h1] at h2; omega⟩
theorem pe_0 {x y : Int} : pe 0 x y ↔ x = y := by
  constructor
  · rintro ⟨q, h⟩; rw [h]; omega
  · exact pe.of
theorem dn_pe {M : Int} {f G H : Nat → Int} {S : Nat} (hS : S < 256) (h0 : S ≠ 0) (h : ∀ T, T < S → g_sub T (g_rs S) → pe M (G T) (H T)) : pe M (s_dn f G S) (s_dn f H S) := pe_u (fun l hl hs => by
  have h1 := sub_rest hs
  have h2 := sub_le h1
  have h3 := (lt_ok S hS h0).2.2.1
  exact pe.ml _ (h _ (by omega) h1))
/-- slopes of what undoes: each is the one ahead, times less its place, times u -/
def s_iv (u : Int) : Nat → Int
  | 0 => u
  | d + 1 => s_iv u d * (-((d : Int) + 1)) * u
theorem H_iv {M : Int} {f : Nat → Int} {u : Int} (hu : pe M (f 0 * u) 1) : ∀ S, S < 256 → (∀ d, pe M (s_cv f (s_H f (s_iv u) (d + 1)) S) (-((d : Int) + 1) * s_H f (s_iv u) d S)) ∧ pe M (s_cv f (s_H f (s_iv u) 0) S) (if S = 0 then 1 else 0) := by
  intro S
  induction S using Nat.strongRecOn with
  | _ S ih =>
    intro hS
    by_cases h0 : S = 0
    · subst h0
      refine ⟨fun d => ?_, ?_⟩
      · rw [cv_nil, s_H0, s_H0, s_iv]
        have := (hu.ml (s_iv u d * (-((d : Int) + 1))))
        refine (pe.of ?_).tr (this.tr (pe.of ?_)) <;> grind
      · rw [cv_nil, s_H0, s_iv, if_pos rfl]; exact hu
    · have hst : ∀ d, s_cv f (s_H f (s_iv u) d) S = s_dn f (s_H f (s_iv u) d) S + s_dn f (s_cv f (s_H f (s_iv u) (d + 1))) S := fun d => cv_step (fun T hT hT0 => s_H1 _ _ _ hT hT0) hS h0
      refine ⟨fun d => ?_, ?_⟩
      · rw [hst, ← s_H1 f (s_iv u) d hS h0]
        have e1 : pe M (s_dn f (s_cv f (s_H f (s_iv u) (d + 1 + 1))) S) (s_dn f (fun T => (-(((d + 1 : Nat) : Int) + 1)) * s_H f (s_iv u) (d + 1) T) S) := dn_pe hS h0 (fun T hT _ => (ih T hT (by omega)).1 (d + 1))
        rw [dn_mul, ← s_H1 f (s_iv u) d hS h0] at e1
        refine (pe.add pe.rf e1).tr (pe.of ?_)
        rw [show (((d + 1 : Nat)) : Int) = (d : Int) + 1 by omega]
        grind
      · rw [hst, if_neg h0]
        have e1 : pe M (s_dn f (s_cv f (s_H f (s_iv u) (0 + 1))) S) (s_dn f (fun T => (-(((0 : Nat) : Int) + 1)) * s_H f (s_iv u) 0 T) S) := dn_pe hS h0 (fun T hT _ => (ih T hT (by omega)).1 0)
        rw [dn_mul] at e1
        refine (pe.add pe.rf e1).tr (pe.of ?_)
        simp
        grind
/-- the model's: by all parts but the empty one -/
theorem iv_uniq {M : Int} {f : Nat → Int} {u : Int} (hu : pe M (f 0 * u) 1) {m : Nat → Int} (h0 : pe M (m 0) u) {S : Nat} (hS : S < 256) (hm : ∀ T, T ≤ S → T ≠ 0 → pe M (m T) (-(u_s T (fun p => if p = 0 then 0 else f p * m (T ^^^ p))) * u)) : ∀ T, T ≤ S → pe M (m T) (s_H f (s_iv u) 0 T) := by
  intro T
  induction T using Nat.strongRecOn with
  | _ T ih =>
    intro hT
    by_cases c : T = 0
    · subst c; rw [s_H0]; exact h0
    · have h1 := (H_iv hu T (by omega)).2
      rw [if_neg c] at h1
      have hs : s_cv f (s_H f (s_iv u) 0) T = u_s T (fun p => if p = 0 then 0 else f p * s_H f (s_iv u) 0 (T ^^^ p)) + f 0 * s_H f (s_iv u) 0 T := by
        have e : u_s T (fun p => if p = 0 then f 0 * s_H f (s_iv u) 0 T else 0) = f 0 * s_H f (s_iv u) 0 T := by
          rw [u_d_0, if_pos rfl]
          have : u_d T (fun p => if p = 0 then f 0 * s_H f (s_iv u) 0 T else 0) 0 = 0 := si_none (fun k _ => by
            by_cases z : g_df k T = 0 ∧ 0 < k
            · rw [if_pos z]; exact if_neg (by omega)
            · rw [if_neg z])
          rw [this, Int.zero_add]
        rw [← e, ← u_add]
        refine u_s_cong (fun p _ _ => ?_)
        by_cases z : p = 0
        · rw [if_pos z, if_pos z, z, Nat.xor_zero, Int.zero_add]
        · rw [if_neg z, if_neg z, Int.add_zero]
      rw [hs] at h1
      have h2 : pe M (u_s T (fun p => if p = 0 then 0 else f p * m (T ^^^ p))) (u_s T (fun p => if p = 0 then 0 else f p * s_H f (s_iv u) 0 (T ^^^ p))) := pe_u (fun p hp hsub => by
        show pe M (if p = 0 then 0 else f p * m (T ^^^ p)) (if p = 0 then 0 else f p * s_H f (s_iv u) 0 (T ^^^ p))
        by_cases z : p = 0
        · rw [if_pos z, if_pos z]; exact pe.rf
        · rw [if_neg z, if_neg z]
          have hl : T ^^^ p < T := by
            have h3 := sub_le (sub_rest hsub)
            have h4 : T ^^^ p ≠ T := fun q => z (by
              have := congrArg (fun y => T ^^^ y) q
              simpa [← Nat.xor_assoc] using this)
            omega
          exact pe.ml _ (ih _ hl (by omega)))
      have h3 := hm T hT c
      generalize u_s T (fun p => if p = 0 then 0 else f p * m (T ^^^ p)) = X at h2 h3
      generalize u_s T (fun p => if p = 0 then 0 else f p * s_H f (s_iv u) 0 (T ^^^ p)) = Y at h1 h2
      generalize s_H f (s_iv u) 0 T = H at h1
      obtain ⟨q1, h1⟩ := h1
      obtain ⟨q2, h2⟩ := h2
      obtain ⟨q3, h3⟩ := h3
      obtain ⟨q4, hu⟩ := hu
      refine ⟨H * q4 - q1 * u - q2 * u + q3, ?_⟩
      rw [h3, h2]
      have hY : Y = M * q1 - f 0 * H := by omega
      rw [hY]
      grind
/-- roots -/
def s_rt : Nat → Int
  | 0 => 0
  | d + 1 => s_iv 1 d
theorem H_shift (f sl : Nat → Int) : ∀ S, S < 256 → ∀ d, s_H f sl (d + 1) S = s_H f (fun d => sl (d + 1)) d S := by
  intro S
  induction S using Nat.strongRecOn with
  | _ S ih =>
    intro hS d
    by_cases h0 : S = 0
    · subst h0; rfl
    · rw [s_H1 _ _ _ hS h0, s_H1 _ _ _ hS h0]
      exact dn_cong hS h0 (fun T hT _ => ih T hT (by omega) (d + 1))
theorem cv_part {f G G' : Nat → Int} (hG : ∀ T, T < 256 → T ≠ 0 → G T = s_dn f G' T) {S : Nat} (hS : S < 256) (h0 : S ≠ 0) : u_s (g_rs S) (fun m => f m * G (S ^^^ m)) = s_dn f (s_cv f G') S := by
  have h1 := cv_step hG hS h0
  have h2 := cv_split (f := f) (G := G) hS h0
  omega
theorem rt_sum {f : Nat → Int} (hf : f 0 = 1) {S : Nat} (hS : S < 256) (h0 : S ≠ 0) : u_s S (fun p => if p.testBit (g_lt S) = true then s_H f s_rt 0 p * f (S ^^^ p) else 0) = f S := by
  obtain ⟨l1, l2, l3, -⟩ := lt_ok S hS h0
  have hr : g_rs S < 256 := by omega
  rw [u_low hS l1 l2, ← rs_eq hS h0, u_comp hr]
  have e1 : u_s (g_rs S) (fun m => s_H f s_rt 0 (g_rs S ^^^ m ^^^ 2 ^ g_lt S) * f (S ^^^ (g_rs S ^^^ m ^^^ 2 ^ g_lt S))) = u_s (g_rs S) (fun m => f m * s_H f s_rt 0 (S ^^^ m)) := u_s_cong (fun m _ _ => by
    have a1 : g_rs S ^^^ m ^^^ 2 ^ g_lt S = S ^^^ m := by rw [Nat.xor_assoc, Nat.xor_comm m, ← Nat.xor_assoc, rs_eq hS h0, Nat.xor_assoc S, Nat.xor_self, Nat.xor_zero]
    rw [a1, ← Nat.xor_assoc, Nat.xor_self, Nat.zero_xor, Int.mul_comm])
  rw [e1, cv_part (fun T hT hT0 => s_H1 _ _ _ hT hT0) hS h0]
  have hu : pe 0 (f 0 * 1) 1 := pe.of (by rw [hf]; rfl)
  have e2 : s_dn f (s_cv f (s_H f s_rt (0 + 1))) S = s_dn f (fun T => if T = 0 then 1 else 0) S := dn_cong hS h0 (fun T hT _ => by
    have h3 := pe_0.mp (H_iv hu T (by omega)).2
    rw [← h3]
    refine u_s_cong (fun p hp _ => ?_)
    show f p * s_H f s_rt (0 + 1) (T ^^^ p) = f p * s_H f (s_iv 1) 0 (T ^^^ p)
    rw [H_shift f s_rt (T ^^^ p) (xor256 (by omega) (by omega)) 0]; rfl)
  rw [e2]
  unfold s_dn
  have e3 : u_s (g_rs S) (fun l => f (l ^^^ 2 ^ g_lt S) * (if g_rs S ^^^ l = 0 then 1 else 0)) = fb_si (fun l => if l = g_rs S then f (l ^^^ 2 ^ g_lt S) else 0) 256 := by
    rw [u_256 _ hr]
    refine fb_si_cong (fun l _ => ?_)
    by_cases c : l = g_rs S
    · rw [if_pos c, c, if_pos (df_s _), Nat.xor_self, if_pos rfl, Int.mul_one]
    · rw [if_neg c]
      have : g_rs S ^^^ l ≠ 0 := fun q => c (by
        have := congrArg (fun y => g_rs S ^^^ y) q
        simpa [← Nat.xor_assoc] using this)
      rw [if_neg this, Int.mul_zero]
      split <;> rfl
  rw [e3, si_one (fun l => f (l ^^^ 2 ^ g_lt S)) hr]
  show f (g_rs S ^^^ 2 ^ g_lt S) = f S
  rw [rs_eq hS h0, Nat.xor_assoc, Nat.xor_self, Nat.xor_zero]
theorem u_but (S : Nat) (g : Nat → Int) (P : Nat → Prop) [DecidablePred P] (hP : P S) : u_s S (fun p => if P p ∧ p ≠ S then g p else 0) = u_s S (fun p => if P p then g p else 0) - g S := by
  have e : fb_si (fun p => if p = S then g p else 0) (S + 1) = g S := si_one g (by omega)
  unfold u_s
  rw [← e, ← fb_si_sub]
  refine fb_si_cong (fun p _ => ?_)
  show (if g_df p S = 0 then (if P p ∧ p ≠ S then g p else 0) else 0) = (if g_df p S = 0 then (if P p then g p else 0) else 0) - (if p = S then g p else 0)
  by_cases c : p = S
  · subst c
    rw [if_pos (df_s p), if_pos (df_s p), if_neg (show ¬ (P p ∧ p ≠ p) from fun q => q.2 rfl), if_pos hP, if_pos rfl]; omega
  · rw [if_neg c]
    by_cases d : P p
    · rw [if_pos d, if_pos (show P p ∧ p ≠ S from ⟨d, c⟩)]; omega
    · rw [if_neg d, if_neg (show ¬ (P p ∧ p ≠ S) from fun q => d q.1)]; omega
theorem rt_uniq {M : Int} {f L : Nat → Int} (hf : f 0 = 1) {S : Nat} (hS : S < 256) (hL : ∀ T, T ≤ S → T ≠ 0 → pe M (L T) (f T - u_s T (fun p => if p.testBit (g_lt T) = true ∧ p ≠ T then L p * f (T ^^^ p) else 0))) : ∀ T, T ≤ S → T ≠ 0 → pe M (L T) (s_H f s_rt 0 T) := by
  intro T
  induction T using Nat.strongRecOn with
  | _ T ih =>
    intro hT h0
    obtain ⟨l1, l2, l3, -⟩ := lt_ok T (by omega) h0
    have h1 := rt_sum hf (S := T) (by omega) h0
    have h2 := u_but T (fun p => s_H f s_rt 0 p * f (T ^^^ p)) (fun p => p.testBit (g_lt T) = true) l2
    rw [h1, Nat.xor_self, hf, Int.mul_one] at h2
    have h3 : pe M (u_s T (fun p => if p.testBit (g_lt T) = true ∧ p ≠ T then L p * f (T ^^^ p) else 0)) (u_s T (fun p => if p.testBit (g_lt T) = true ∧ p ≠ T then s_H f s_rt 0 p * f (T ^^^ p) else 0)) := pe_u (fun p hp hsub => by
      show pe M (if p.testBit (g_lt T) = true ∧ p ≠ T then L p * f (T ^^^ p) else 0) (if p.testBit (g_lt T) = true ∧ p ≠ T then s_H f s_rt 0 p * f (T ^^^ p) else 0)
      by_cases c : p.testBit (g_lt T) = true ∧ p ≠ T
      · rw [if_pos c, if_pos c]
        exact (ih p (by omega) (by omega) (bit_ne c.1)).mul pe.rf
      · rw [if_neg c, if_neg c]; exact pe.rf)
    rw [h2] at h3
    refine (hL T hT h0).tr ((pe.rf.sub h3).tr (pe.of (by omega)))
/-- all ways -/
theorem aw_uniq {M : Int} {f E : Nat → Int} (h1 : pe M (E 0) 1) {S : Nat} (hS : S < 256) (hE : ∀ T, T ≤ S → T ≠ 0 → pe M (E T) (u_s T (fun p => if p.testBit (g_lt T) = true then f p * E (T ^^^ p) else 0))) : ∀ T, T ≤ S → ∀ d, pe M (E T) (s_H f (fun _ => 1) d T) := by
  intro T
  induction T using Nat.strongRecOn with
  | _ T ih =>
    intro hT d
    by_cases h0 : T = 0
    · subst h0; exact h1
    · obtain ⟨l1, l2, l3, -⟩ := lt_ok T (by omega) h0
      refine (hE T hT h0).tr ?_
      rw [s_H1 _ _ _ (by omega) h0, u_low (by omega) l1 l2, ← rs_eq (by omega) h0]
      refine pe_u (fun m hm hsub => ?_)
      show pe M (f (m ^^^ 2 ^ g_lt T) * E (T ^^^ (m ^^^ 2 ^ g_lt T))) (f (m ^^^ 2 ^ g_lt T) * s_H f (fun _ => 1) (d + 1) (g_rs T ^^^ m))
      rw [x_x, ← rs_eq (by omega) h0]
      have := sub_le (sub_rest hsub)
      exact pe.ml _ (ih _ (by omega) (by omega) (d + 1))
