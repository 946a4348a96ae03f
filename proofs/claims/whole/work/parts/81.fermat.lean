/-! the little theorem -/
def bin : Nat → Nat → Nat
  | _, 0 => 1
  | 0, _ + 1 => 0
  | n + 1, k + 1 => bin n k + bin n (k + 1)
theorem bin_big : ∀ n k, n < k → bin n k = 0
  | _, 0, h => absurd h (Nat.not_lt_zero _)
  | 0, _ + 1, _ => rfl
  | n + 1, k + 1, h => by rw [bin, bin_big n k (by omega), bin_big n (k + 1) (by omega)]
theorem bin_n0 (n : Nat) : bin n 0 = 1 := by cases n <;> rfl
theorem bin_nn : ∀ n, bin n n = 1
  | 0 => rfl
  | n + 1 => by rw [bin, bin_nn n, bin_big n (n + 1) (by omega)]
theorem bin_mul : ∀ n k, (k + 1) * bin (n + 1) (k + 1) = (n + 1) * bin n k
  | 0, k => by
    cases k with
    | zero => rfl
    | succ k =>
      show (k + 1 + 1) * (bin 0 (k + 1) + bin 0 (k + 1 + 1)) = (0 + 1) * bin 0 (k + 1)
      rw [bin_big 0 (k + 1) (by omega), bin_big 0 (k + 1 + 1) (by omega)]; simp
  | n + 1, 0 => by
    have h := bin_mul n 0
    rw [bin_n0] at h ⊢
    rw [bin, bin_n0]
    omega
  | n + 1, k + 1 => by
    have h1 := bin_mul n k
    have h2 := bin_mul n (k + 1)
    rw [bin]
    have e : bin (n + 1) (k + 1) = bin n k + bin n (k + 1) := rfl
    rw [Nat.mul_add, h2, e]
    rw [e] at h1
    grind
theorem bin_sum (a : Nat) : ∀ n, (a + 1) ^ n = fb_sm (fun k => bin n k * a ^ k) (n + 1)
  | 0 => by rw [fb_sm_succ]; simp [bin, fb_sm]
  | n + 1 => by
    have e1 : fb_sm (fun k => bin (n + 1) k * a ^ k) (n + 1 + 1) = bin (n + 1) 0 * a ^ 0 + fb_sm (fun k => bin (n + 1) (k + 1) * a ^ (k + 1)) (n + 1) := by
      rw [show n + 1 + 1 = 1 + (n + 1) by omega, fb_sm_split]
      congr 1
      exact fb_sm_cong (fun k _ => by rw [Nat.add_comm 1 k])
    have e2 : fb_sm (fun k => bin (n + 1) (k + 1) * a ^ (k + 1)) (n + 1) = fb_sm (fun k => a * (bin n k * a ^ k)) (n + 1) + fb_sm (fun k => bin n (k + 1) * a ^ (k + 1)) (n + 1) := by
      rw [← fb_sm_add]
      refine fb_sm_cong (fun k _ => ?_)
      rw [bin, Nat.pow_succ]
      grind
    have e3 : ∀ m (f : Nat → Nat), fb_sm (fun k => a * f k) m = a * fb_sm f m := fun m f => by
      induction m with
      | zero => rfl
      | succ m ih => rw [fb_sm_succ, fb_sm_succ, ih, Nat.mul_add]
    have e4 : fb_sm (fun k => bin n k * a ^ k) (n + 1 + 1) = bin n 0 * a ^ 0 + fb_sm (fun k => bin n (k + 1) * a ^ (k + 1)) (n + 1) := by
      rw [show n + 1 + 1 = 1 + (n + 1) by omega, fb_sm_split]
      congr 1
      · rw [fb_sm_succ]; simp [fb_sm]
      · exact fb_sm_cong (fun k _ => by rw [Nat.add_comm 1 k])
    have e5 : fb_sm (fun k => bin n k * a ^ k) (n + 1 + 1) = fb_sm (fun k => bin n k * a ^ k) (n + 1) := by
      rw [fb_sm_succ, bin_big n (n + 1) (by omega), Nat.zero_mul, Nat.add_zero]
    rw [Nat.pow_succ, bin_sum a n, e1, e2, e3]
    have h0 : bin (n + 1) 0 * a ^ 0 = bin n 0 * a ^ 0 := by rw [bin_n0, bin_n0]
    rw [h0]
    rw [e5] at e4
    generalize fb_sm (fun k => bin n k * a ^ k) (n + 1) = X at e4
    rw [Nat.mul_succ, Nat.mul_comm X a]
    omega
/-- a prime -/
def prm (p : Nat) : Prop := 1 < p ∧ ∀ d, d ∣ p → d = 1 ∨ d = p
theorem prm_cop {p k : Nat} (h : prm p) (h0 : 0 < k) (hk : k < p) : Nat.Coprime k p := by
  have h1 : Nat.gcd k p ∣ p := Nat.gcd_dvd_right k p
  have h2 : Nat.gcd k p ∣ k := Nat.gcd_dvd_left k p
  rcases h.2 _ h1 with e | e
  · exact e
  · rw [e] at h2
    have := Nat.le_of_dvd h0 h2
    omega
theorem bin_dvd {p k : Nat} (h : prm p) (h0 : 0 < k) (hk : k < p) : p ∣ bin p k := by
  obtain ⟨n, rfl⟩ : ∃ n, p = n + 1 := ⟨p - 1, by omega⟩
  obtain ⟨j, rfl⟩ : ∃ j, k = j + 1 := ⟨k - 1, by omega⟩
  have e := bin_mul n j
  have hc := prm_cop h h0 hk
  exact Nat.Coprime.dvd_of_dvd_mul_left hc.symm ⟨bin n j, e⟩
theorem sm_dvd {p : Nat} {f : Nat → Nat} : ∀ {n : Nat}, (∀ k, k < n → p ∣ f k) → p ∣ fb_sm f n
  | 0, _ => ⟨0, rfl⟩
  | n + 1, h => by
    rw [fb_sm_succ]
    exact Nat.dvd_add (sm_dvd (fun k hk => h k (by omega))) (h n (by omega))
theorem fermat1 {p : Nat} (h : prm p) : ∀ a, ∃ q, a ^ p = a + p * q ∨ a = 0
  | 0 => ⟨0, Or.inr rfl⟩
  | a + 1 => by
    obtain ⟨n, rfl⟩ : ∃ n, p = n + 2 := ⟨p - 2, by have := h.1; omega⟩
    have e1 := bin_sum a (n + 2)
    rw [fb_sm_succ, show n + 2 = 1 + (n + 1) by omega, fb_sm_split] at e1
    have hd : (n + 2) ∣ fb_sm (fun k => bin (1 + (n + 1)) (1 + k) * a ^ (1 + k)) (n + 1) := sm_dvd (fun k hk => by
      rw [show 1 + (n + 1) = n + 2 by omega]
      exact Nat.dvd_trans (bin_dvd h (by omega) (by omega)) (Nat.dvd_mul_right _ _))
    obtain ⟨z, hz⟩ := hd
    rw [hz, bin_nn, fb_sm_succ, bin_n0] at e1
    rw [show 1 + (n + 1) = n + 2 by omega] at e1
    obtain ⟨q, hq⟩ := fermat1 h a
    have hs0 : fb_sm (fun k => bin (n + 2) k * a ^ k) 0 = 0 := rfl
    rw [hs0, Nat.pow_zero] at e1
    rcases hq with hq | hq
    · refine ⟨z + q, Or.inl ?_⟩
      have e6 : (n + 2) * (z + q) = (n + 2) * z + (n + 2) * q := Nat.mul_add _ _ _
      rw [e1, hq, e6]
      omega
    · refine ⟨z, Or.inl ?_⟩
      have h7 : a ^ (n + 2) = 0 := by rw [hq]; exact Nat.zero_pow (Nat.succ_pos _)
      rw [e1, h7, hq]
      omega
theorem fermat2 {p c : Nat} (h : prm p) (h0 : 0 < c) (hc : c < p) : ∃ q, c * c ^ (p - 2) = 1 + p * q := by
  obtain ⟨n, rfl⟩ : ∃ n, p = n + 2 := ⟨p - 2, by have := h.1; omega⟩
  obtain ⟨q, hq⟩ := fermat1 h c
  rcases hq with hq | hq
  · have hcop := prm_cop h h0 hc
    have e : c ^ (n + 2) = c * (c * c ^ n) := by rw [Nat.pow_succ, Nat.pow_succ]; grind
    rw [e] at hq
    have h1 : 0 < c * c ^ n := Nat.mul_pos h0 (Nat.pow_pos h0)
    have h2 : c * (c * c ^ n - 1) = (n + 2) * q := by rw [Nat.mul_sub, hq]; omega
    have h3 : (n + 2) ∣ c * c ^ n - 1 := Nat.Coprime.dvd_of_dvd_mul_left hcop.symm ⟨q, h2⟩
    obtain ⟨z, hz⟩ := h3
    exact ⟨z, by rw [show n + 2 - 2 = n by omega]; omega⟩
  · omega
theorem prm_small : ∀ d, d < 1001 → 2 ≤ d → 1000003 % d ≠ 0 := by decide +kernel
theorem prm_P {p : Nat} (hp : p = 1000003) : prm p := by
  refine ⟨by omega, fun d hd => ?_⟩
  obtain ⟨e, he⟩ := hd
  have hd0 : d ≠ 0 := fun q => by rw [q, Nat.zero_mul] at he; omega
  have he0 : e ≠ 0 := fun q => by rw [q, Nat.mul_zero] at he; omega
  by_cases h1 : d = 1
  · exact Or.inl h1
  by_cases h2 : e = 1
  · right; rw [h2, Nat.mul_one] at he; exact he.symm
  exfalso
  by_cases h3 : d < 1001
  · exact prm_small d h3 (by omega) (by rw [← hp, he]; exact Nat.mul_mod_right _ _)
  · by_cases h4 : e < 1001
    · exact prm_small e h4 (by omega) (by rw [← hp, he]; exact Nat.mul_mod_left _ _)
    · have : 1001 * 1001 ≤ d * e := Nat.mul_le_mul (by omega) (by omega)
      omega
/-- what undoes a number modulo the prime -/
theorem turn_ok {c : Nat} (h0 : 0 < c) (hc : c < 1000003) : pe 1000003 ((c : Int) * (g_red ((c : Int) ^ 1000001) : Int)) 1 := by
  have key : ∀ p, p = 1000003 → ∃ q, c * c ^ (p - 2) = 1 + p * q := fun p hp => fermat2 (prm_P hp) h0 (by omega)
  have key2 : ∀ e, e = 1000001 → pe 1000003 ((c : Int) * (g_red ((c : Int) ^ e) : Int)) 1 := fun e he => by
    obtain ⟨q, hq⟩ := key (e + 2) (by omega)
    rw [show e + 2 - 2 = e by omega] at hq
    have h1 : pe 1000003 (g_red ((c : Int) ^ e) : Int) ((c : Int) ^ e) := pe_red.mpr (red_red _)
    refine (h1.ml (c : Int)).tr ⟨(q : Int), ?_⟩
    have := congrArg (fun n : Nat => (n : Int)) hq
    simp only [Int.natCast_mul, Int.natCast_add, Int.natCast_pow] at this
    rw [this]
    have : ((e : Int) + ((2 : Nat) : Int)) = 1000003 := by omega
    rw [this]; rfl
  exact key2 _ rfl
/-- the number that undoes another -/
def g_iv (b : Nat) : Nat := g_red ((b : Int) ^ 1000001)
theorem iv_lt (b : Nat) : g_iv b < 1000003 := g_red_lt _
theorem iv_ok {c : Nat} (h0 : 0 < c) (hc : c < 1000003) : pe 1000003 ((c : Int) * (g_iv c : Int)) 1 := turn_ok h0 hc
theorem iv_c {b : Nat} (hb : b < 1000003) : fX4_raise (nI b) 1000001 = some (nI (g_iv b)) := c_raise hb (Nat.le_of_ble_eq_true rfl)
theorem iv_m {b : Nat} (hb : b < 1000003) : fX5_turned (lN b) = some (lN (g_iv b)) := m_turned hb
