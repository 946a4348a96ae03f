/-! series of sets: what is summed over the parts with the least thing -/
theorem si_inv {N : Nat} {φ : Nat → Nat} (h1 : ∀ x, x < N → φ x < N) (h2 : ∀ x, x < N → φ (φ x) = x) (F : Nat → Int) : fb_si F N = fb_si (fun m => F (φ m)) N := by
  have e1 : fb_si F N = fb_si (fun p => fb_si (fun m => if m = φ p then F p else 0) N) N := fb_si_cong (fun p hp => (si_one (fun _ => F p) (h1 p hp)).symm)
  rw [e1, si_swap]
  refine fb_si_cong (fun m hm => ?_)
  rw [← si_one (fun p => F p) (h1 m hm)]
  refine fb_si_cong (fun p hp => ?_)
  by_cases c : p = φ m
  · rw [if_pos c, if_pos (by rw [c, h2 m hm])]
  · rw [if_neg c, if_neg (fun q => c (by rw [q, h2 p hp]))]
theorem u_256 {s : Nat} (g : Nat → Int) (h : s < 256) : u_s s g = fb_si (fun q => if g_df q s = 0 then g q else 0) 256 := u_s_N g h
theorem u_add (s : Nat) (g h : Nat → Int) : u_s s (fun q => g q + h q) = u_s s g + u_s s h := by
  unfold u_s
  rw [← fb_si_add]
  refine fb_si_cong (fun q _ => ?_)
  by_cases c : g_df q s = 0
  · rw [if_pos c, if_pos c, if_pos c]
  · rw [if_neg c, if_neg c, if_neg c]; rfl
theorem u_mul (s : Nat) (c : Int) (g : Nat → Int) : u_s s (fun q => c * g q) = c * u_s s g := by
  unfold u_s
  rw [← fb_si_mul]
  refine fb_si_cong (fun q _ => ?_)
  by_cases e : g_df q s = 0
  · rw [if_pos e, if_pos e]
  · rw [if_neg e, if_neg e, Int.mul_zero]
theorem u_zero (s : Nat) : u_s s (fun _ => 0) = 0 := si_none (fun q _ => by split <;> rfl)
theorem u_nil (g : Nat → Int) : u_s 0 g = g 0 := by
  rw [u_d_0, u_d_top, Int.zero_add]
theorem xor256 {a b : Nat} (ha : a < 256) (hb : b < 256) : a ^^^ b < 256 := xor_lt (n := 8) ha hb
theorem u_comp {R : Nat} (hR : R < 256) (g : Nat → Int) : u_s R g = u_s R (fun m => g (R ^^^ m)) := by
  rw [u_256 _ hR, u_256 _ hR, si_inv (φ := fun m => R ^^^ m) (fun x hx => xor256 hR hx) (fun x _ => by show R ^^^ (R ^^^ x) = x; rw [← Nat.xor_assoc, Nat.xor_self, Nat.zero_xor])]
  refine fb_si_cong (fun m _ => ?_)
  have : g_df (R ^^^ m) R = 0 ↔ g_df m R = 0 := by
    rw [df_sub, df_sub]
    constructor
    · intro h t ht
      have := h t
      rw [Nat.testBit_xor, ht] at this
      cases q : R.testBit t
      · rw [q] at this; exact (this rfl).symm ▸ rfl
      · rfl
    · intro h t ht
      rw [Nat.testBit_xor] at ht
      have := h t
      cases q : R.testBit t
      · cases q2 : m.testBit t
        · rw [q, q2] at ht; exact absurd ht (by decide)
        · rw [this q2] at q; exact absurd q (by decide)
      · rfl
  by_cases c : g_df m R = 0
  · rw [if_pos c, if_pos (this.mpr c)]
  · rw [if_neg c, if_neg (mt this.mp c)]
theorem u_swap {R : Nat} (hR : R < 256) (F : Nat → Nat → Int) : u_s R (fun m => u_s (R ^^^ m) (fun l => F m l)) = u_s R (fun l => u_s (R ^^^ l) (fun m => F m l)) := by
  have key : ∀ m l, (g_df m R = 0 ∧ g_df l (R ^^^ m) = 0) ↔ (g_df l R = 0 ∧ g_df m (R ^^^ l) = 0) := by
    have one : ∀ m l, (g_df m R = 0 ∧ g_df l (R ^^^ m) = 0) → (g_df l R = 0 ∧ g_df m (R ^^^ l) = 0) := by
      intro m l ⟨h1, h2⟩
      have h1 := df_sub.mp h1
      have h2 := df_sub.mp h2
      have hl : g_sub l R := fun t ht => sub_rest h1 t (h2 t ht)
      refine ⟨df_sub.mpr hl, df_sub.mpr (fun t ht => ?_)⟩
      rw [Nat.testBit_xor, h1 t ht]
      cases q : l.testBit t
      · rfl
      · have := h2 t q
        rw [Nat.testBit_xor, h1 t ht, ht] at this
        exact absurd this (by decide)
    exact fun m l => ⟨one m l, one l m⟩
  have ex : ∀ (G : Nat → Nat → Int), u_s R (fun m => u_s (R ^^^ m) (fun l => G m l)) = fb_si (fun m => fb_si (fun l => if g_df m R = 0 ∧ g_df l (R ^^^ m) = 0 then G m l else 0) 256) 256 := fun G => by
    rw [u_256 _ hR]
    refine fb_si_cong (fun m hm => ?_)
    by_cases c : g_df m R = 0
    · rw [if_pos c, u_256 _ (xor256 hR hm)]
      refine fb_si_cong (fun l _ => ?_)
      by_cases d : g_df l (R ^^^ m) = 0
      · rw [if_pos d, if_pos ⟨c, d⟩]
      · rw [if_neg d, if_neg (fun q => d q.2)]
    · rw [if_neg c]
      exact (si_none (fun l _ => if_neg (fun q => c q.1))).symm
  rw [ex, ex (fun l m => F m l), si_swap]
  refine fb_si_cong (fun l _ => fb_si_cong (fun m _ => ?_))
  by_cases c : g_df m R = 0 ∧ g_df l (R ^^^ m) = 0
  · rw [if_pos c, if_pos ((key m l).mp c)]
  · rw [if_neg c, if_neg (mt (key m l).mpr c)]
/-- with a thing and without it -/
theorem sub_with {S x m : Nat} (hx : S.testBit x = true) : (g_sub (m ^^^ 2 ^ x) S ∧ (m ^^^ 2 ^ x).testBit x = true) ↔ g_sub m (S ^^^ 2 ^ x) := by
  constructor
  · rintro ⟨h1, h2⟩ t ht
    rw [fb_bit_flip] at h2 ⊢
    by_cases e : t = x
    · subst e; rw [ht] at h2; simp at h2
    · have := h1 t (by rw [fb_bit_flip, ht]; simp [e])
      rw [this]; simp [e]
  · intro h
    have h0 : m.testBit x = false := by
      cases q : m.testBit x
      · rfl
      · have := h x q
        rw [fb_bit_flip, hx] at this; simp at this
    refine ⟨fun t ht => ?_, by rw [fb_bit_flip, h0]; simp⟩
    rw [fb_bit_flip] at ht
    by_cases e : t = x
    · subst e; exact hx
    · have := h t (by simpa [e] using ht)
      rw [fb_bit_flip] at this
      simpa [e] using this
theorem sub_wo {S x m : Nat} (hx : S.testBit x = true) : (g_sub m S ∧ m.testBit x = false) ↔ g_sub m (S ^^^ 2 ^ x) := by
  constructor
  · rintro ⟨h1, h2⟩ t ht
    rw [fb_bit_flip]
    by_cases e : t = x
    · subst e; rw [h2] at ht; exact absurd ht (by decide)
    · rw [h1 t ht]; simp [e]
  · intro h
    refine ⟨fun t ht => ?_, ?_⟩
    · have := h t ht
      rw [fb_bit_flip] at this
      by_cases e : t = x
      · subst e; exact hx
      · simpa [e] using this
    · cases q : m.testBit x
      · rfl
      · have := h x q
        rw [fb_bit_flip, hx] at this; simp at this
theorem u_low {S x : Nat} (hS : S < 256) (hx8 : x < 8) (hx : S.testBit x = true) (h : Nat → Int) : u_s S (fun p => if p.testBit x = true then h p else 0) = u_s (S ^^^ 2 ^ x) (fun m => h (m ^^^ 2 ^ x)) := by
  have h2 : 2 ^ x < 256 := Nat.pow_lt_pow_right (by decide) hx8
  rw [u_256 _ hS, u_256 _ (xor256 hS h2), si_inv (φ := fun m => m ^^^ 2 ^ x) (fun y hy => xor256 hy h2) (fun y _ => by show y ^^^ 2 ^ x ^^^ 2 ^ x = y; rw [Nat.xor_assoc, Nat.xor_self, Nat.xor_zero])]
  refine fb_si_cong (fun m _ => ?_)
  have := sub_with (m := m) hx
  by_cases c : g_df m (S ^^^ 2 ^ x) = 0
  · obtain ⟨c1, c2⟩ := this.mpr (df_sub.mp c)
    rw [if_pos c, if_pos (df_sub.mpr c1), if_pos c2]
  · rw [if_neg c]
    by_cases d : g_df (m ^^^ 2 ^ x) S = 0
    · rw [if_pos d, if_neg (fun q => c (df_sub.mpr (this.mp ⟨df_sub.mp d, q⟩)))]
    · rw [if_neg d]
theorem u_split {S x : Nat} (hS : S < 256) (hx8 : x < 8) (hx : S.testBit x = true) (h : Nat → Int) : u_s S h = u_s (S ^^^ 2 ^ x) (fun m => h (m ^^^ 2 ^ x)) + u_s (S ^^^ 2 ^ x) h := by
  have h2 : 2 ^ x < 256 := Nat.pow_lt_pow_right (by decide) hx8
  rw [← u_low hS hx8 hx h]
  have e : u_s (S ^^^ 2 ^ x) h = u_s S (fun p => if p.testBit x = true then 0 else h p) := by
    rw [u_256 _ hS, u_256 _ (xor256 hS h2)]
    refine fb_si_cong (fun m _ => ?_)
    have := sub_wo (m := m) hx
    by_cases c : g_df m (S ^^^ 2 ^ x) = 0
    · obtain ⟨c1, c2⟩ := this.mpr (df_sub.mp c)
      rw [if_pos c, if_pos (df_sub.mpr c1), if_neg (by rw [c2]; decide)]
    · rw [if_neg c]
      by_cases d : g_df m S = 0
      · rw [if_pos d]
        by_cases q : m.testBit x = true
        · rw [if_pos q]
        · exact absurd (df_sub.mpr (this.mp ⟨df_sub.mp d, by simpa using q⟩)) c
      · rw [if_neg d]
  rw [e, ← u_add]
  refine u_s_cong (fun q _ _ => ?_)
  by_cases c : q.testBit x = true
  · rw [if_pos c, if_pos c, Int.add_zero]
  · rw [if_neg c, if_neg c, Int.zero_add]
/-- the least thing of what is left -/
theorem rs_eq {S : Nat} (hS : S < 256) (h0 : S ≠ 0) : g_rs S = S ^^^ 2 ^ g_lt S := ((lt_ok S hS h0).2.2.2.2.1).symm
theorem lt_uniq {S t : Nat} (hS : S < 256) (h1 : S.testBit t = true) (h2 : ∀ u, u < t → S.testBit u = false) : g_lt S = t := by
  obtain ⟨l1, l2, -, -, -, l6, -⟩ := lt_ok S hS (bit_ne h1)
  rcases Nat.lt_trichotomy (g_lt S) t with h | h | h
  · rw [h2 _ h] at l2; exact absurd l2 (by decide)
  · exact h
  · rw [l6 _ h] at h1; exact absurd h1 (by decide)
theorem lt_rest {S m : Nat} (hS : S < 256) (h0 : S ≠ 0) (hm : g_sub m (g_rs S)) : (S ^^^ m).testBit (g_lt S) = true ∧ S ^^^ m ≠ 0 ∧ g_lt (S ^^^ m) = g_lt S ∧ g_rs (S ^^^ m) = g_rs S ^^^ m ∧ S ^^^ m < 256 ∧ S ^^^ m ≤ S := by
  obtain ⟨l1, l2, -, -, -, l6, -⟩ := lt_ok S hS h0
  rw [rs_eq hS h0] at hm
  obtain ⟨w1, w2⟩ := (sub_wo l2).mpr hm
  have hm8 : m < 256 := by have := sub_le w1; omega
  have hx := xor256 hS hm8
  have b1 : (S ^^^ m).testBit (g_lt S) = true := by rw [Nat.testBit_xor, l2, w2]; rfl
  have b2 : ∀ u, u < g_lt S → (S ^^^ m).testBit u = false := fun u hu => by
    rw [Nat.testBit_xor, l6 u hu]
    cases q : m.testBit u
    · rfl
    · have := w1 u q
      rw [l6 u hu] at this; exact absurd this (by decide)
  have b3 := lt_uniq hx b1 b2
  refine ⟨b1, bit_ne b1, b3, ?_, hx, sub_le (sub_rest w1)⟩
  rw [rs_eq hx (bit_ne b1), b3, rs_eq hS h0, Nat.xor_assoc, Nat.xor_assoc, Nat.xor_comm m]
/-- a product apart -/
def s_cv (f G : Nat → Int) (S : Nat) : Int := u_s S (fun p => f p * G (S ^^^ p))
/-- a set's number from those of the sets without its least thing -/
def s_dn (f G' : Nat → Int) (S : Nat) : Int := u_s (g_rs S) (fun l => f (l ^^^ 2 ^ g_lt S) * G' (g_rs S ^^^ l))
theorem x_x (S m x : Nat) : S ^^^ (m ^^^ x) = (S ^^^ x) ^^^ m := by rw [Nat.xor_comm m x, Nat.xor_assoc]
theorem cv_split {f G : Nat → Int} {S : Nat} (hS : S < 256) (h0 : S ≠ 0) : s_cv f G S = s_dn f G S + u_s (g_rs S) (fun m => f m * G (S ^^^ m)) := by
  obtain ⟨l1, l2, -⟩ := lt_ok S hS h0
  unfold s_cv s_dn
  rw [u_split hS l1 l2, rs_eq hS h0]
  congr 1
  refine u_s_cong (fun m _ _ => ?_)
  rw [x_x]
theorem cv_step {f G G' : Nat → Int} (hG : ∀ T, T < 256 → T ≠ 0 → G T = s_dn f G' T) {S : Nat} (hS : S < 256) (h0 : S ≠ 0) : s_cv f G S = s_dn f G S + s_dn f (s_cv f G') S := by
  have hr : g_rs S < 256 := by have := (lt_ok S hS h0).2.2.1; omega
  rw [cv_split hS h0]
  congr 1
  have e : ∀ m, m ≤ g_rs S → g_sub m (g_rs S) → f m * G (S ^^^ m) = u_s (g_rs S ^^^ m) (fun l => f m * (f (l ^^^ 2 ^ g_lt S) * G' (g_rs S ^^^ m ^^^ l))) := fun m _ hm => by
    obtain ⟨-, r2, r3, r4, r5, -⟩ := lt_rest hS h0 hm
    rw [hG _ r5 r2, s_dn, r3, r4, u_mul]
  rw [u_s_cong e, u_swap hr]
  unfold s_dn
  refine u_s_cong (fun l _ hl => ?_)
  rw [s_cv, ← u_mul]
  refine u_s_cong (fun m _ _ => ?_)
  rw [show g_rs S ^^^ m ^^^ l = g_rs S ^^^ l ^^^ m by rw [Nat.xor_assoc, Nat.xor_assoc, Nat.xor_comm m]]
  grind
theorem cv_mul (f G : Nat → Int) (c : Int) (S : Nat) : s_cv f (fun T => c * G T) S = c * s_cv f G S := by
  unfold s_cv
  rw [← u_mul]
  exact u_s_cong (fun p _ _ => by grind)
theorem dn_mul (f G : Nat → Int) (c : Int) (S : Nat) : s_dn f (fun T => c * G T) S = c * s_dn f G S := by
  unfold s_dn
  rw [← u_mul]
  exact u_s_cong (fun p _ _ => by grind)
theorem dn_cong {f G H : Nat → Int} {S : Nat} (hS : S < 256) (h0 : S ≠ 0) (h : ∀ T, T < S → g_sub T (g_rs S) → G T = H T) : s_dn f G S = s_dn f H S := u_s_cong (fun l hl hs => by
  have h1 := sub_rest hs
  have h2 := sub_le h1
  have h3 := (lt_ok S hS h0).2.2.1
  rw [h _ (by omega) h1])
theorem cv_nil (f G : Nat → Int) : s_cv f G 0 = f 0 * G 0 := by
  unfold s_cv
  rw [u_nil, Nat.xor_zero]
/-- the class's series: slopes at the empty set -/
def s_F (f sl : Nat → Int) : Nat → Nat → Nat → Int
  | 0, d, _ => sl d
  | k + 1, d, S => if S = 0 then sl d else s_dn f (s_F f sl k (d + 1)) S
theorem s_F_st (f sl : Nat → Int) : ∀ S, S < 256 → ∀ k d, S ≤ k → s_F f sl k d S = s_F f sl S d S := by
  intro S
  induction S using Nat.strongRecOn with
  | _ S ih =>
    intro hS k d hk
    by_cases h0 : S = 0
    · subst h0
      cases k with
      | zero => rfl
      | succ k =>
        show (if (0 : Nat) = 0 then sl d else s_dn f (s_F f sl k (d + 1)) 0) = sl d
        rw [if_pos rfl]
    · obtain ⟨j, rfl⟩ : ∃ j, S = j + 1 := ⟨S - 1, by omega⟩
      obtain ⟨k', rfl⟩ : ∃ k', k = k' + 1 := ⟨k - 1, by omega⟩
      rw [s_F, if_neg h0, s_F, if_neg h0]
      refine dn_cong hS h0 (fun T hT _ => ?_)
      rw [ih T hT (by omega) k' (d + 1) (by omega), ih T hT (by omega) j (d + 1) (by omega)]
def s_H (f sl : Nat → Int) (d S : Nat) : Int := s_F f sl S d S
theorem s_H0 (f sl : Nat → Int) (d : Nat) : s_H f sl d 0 = sl d := rfl
theorem s_H1 (f sl : Nat → Int) (d : Nat) {S : Nat} (hS : S < 256) (h0 : S ≠ 0) : s_H f sl d S = s_dn f (s_H f sl (d + 1)) S := by
  obtain ⟨j, rfl⟩ : ∃ j, S = j + 1 := ⟨S - 1, by omega⟩
  rw [s_H, s_F, if_neg h0]
  refine dn_cong hS h0 (fun T hT _ => ?_)
  rw [s_F_st f sl T (by omega) j (d + 1) (by omega)]; rfl
/-- powers -/
def s_pw (f : Nat → Int) : Nat → Nat → Int
  | 0, S => if S = 0 then 1 else 0
  | j + 1, S => s_cv f (s_pw f j) S
theorem pw_dn (f : Nat → Int) : ∀ j S, S < 256 → S ≠ 0 → s_pw f j S = (j : Int) * s_dn f (s_pw f (j - 1)) S
  | 0, S, _, h0 => by rw [s_pw, if_neg h0]; simp
  | j + 1, S, hS, h0 => by
    have hG : ∀ T, T < 256 → T ≠ 0 → s_pw f j T = s_dn f (fun U => (j : Int) * s_pw f (j - 1) U) T := fun T hT hT0 => by rw [dn_mul]; exact pw_dn f j T hT hT0
    rw [s_pw, cv_step hG hS h0]
    have e : s_dn f (s_cv f (fun U => (j : Int) * s_pw f (j - 1) U)) S = s_dn f (fun U => (j : Int) * s_pw f j U) S := dn_cong hS h0 (fun T _ _ => by
      rw [cv_mul]
      cases j with
      | zero => simp
      | succ i => rfl)
    rw [e, dn_mul, show j + 1 - 1 = j from rfl]
    rw [show (((j + 1 : Nat)) : Int) = (j : Int) + 1 by omega]
    grind
def s_ff (k : Int) : Nat → Int
  | 0 => 1
  | d + 1 => s_ff k d * (k - d)
theorem ff_zero {k : Nat} : ∀ {d : Nat}, k < d → s_ff (k : Int) d = 0
  | 0, h => absurd h (Nat.not_lt_zero _)
  | d + 1, h => by
    rw [s_ff]
    by_cases e : k = d
    · rw [e, Int.sub_self, Int.mul_zero]
    · rw [ff_zero (by omega), Int.zero_mul]
theorem pw_nil (f : Nat → Int) : ∀ j, s_pw f j 0 = f 0 ^ j
  | 0 => by rw [s_pw, if_pos rfl, Int.pow_zero]
  | j + 1 => by rw [s_pw, cv_nil, pw_nil f j, Int.pow_succ, Int.mul_comm]
theorem H_pw (f : Nat → Int) (k : Nat) : ∀ S, S < 256 → ∀ d, s_H f (fun d => s_ff (k : Int) d * f 0 ^ (k - d)) d S = s_ff (k : Int) d * s_pw f (k - d) S := by
  intro S
  induction S using Nat.strongRecOn with
  | _ S ih =>
    intro hS d
    by_cases h0 : S = 0
    · subst h0; rw [s_H0, pw_nil]
    · rw [s_H1 _ _ _ hS h0, dn_cong hS h0 (H := fun T => s_ff (k : Int) (d + 1) * s_pw f (k - (d + 1)) T) (fun T hT _ => ih T hT (by omega) (d + 1)), dn_mul]
      by_cases c : d < k
      · rw [pw_dn f (k - d) S hS h0, s_ff, show k - d - 1 = k - (d + 1) by omega, show ((k - d : Nat) : Int) = (k : Int) - d by omega, Int.mul_assoc]
      · rw [ff_zero (by omega), Int.zero_mul]
        by_cases e : d = k
        · rw [e, Nat.sub_self, s_pw, if_neg h0, Int.mul_zero]
        · rw [ff_zero (by omega), Int.zero_mul]
