/-! slopes -/
theorem fill_sl {step : Int32 × ps_S → Option ((Int32 × ps_S) ⊕ ps_S)} {σ : ps_S} {N d0 : Nat} {v : Nat → Int64} (hd : d0 ≤ N) (hN : N < 1000)
    (h0 : ∀ x, x < d0 → σ.2 41 x = v x)
    (hs : ∀ i τ, d0 ≤ i → i < N → ps_fr (fun q => q = 41) σ τ → τ.1 = σ.1 → (∀ x, x < i → τ.2 41 x = v x) → (∀ x, i ≤ x → τ.2 41 x = σ.2 41 x) → step (nI i, τ) = some (.inl (nI (i + 1), ps_ul τ 41 i (v i))))
    (hx : ∀ τ, step (nI N, τ) = some (.inr τ)) : ∃ τ, ps_lp step 100000 (nI d0, σ) = some τ ∧ ps_fr (fun q => q = 41) σ τ ∧ τ.1 = σ.1 ∧ (∀ x, x < N → τ.2 41 x = v x) := by
  obtain ⟨x, h1, h2, h3, h4⟩ := ps_for (step := step) (N - d0)
    (fun i s => s.1 = nI (d0 + i) ∧ ps_fr (fun q => q = 41) σ s.2 ∧ s.2.1 = σ.1 ∧ (∀ x, x < d0 + i → s.2.2 41 x = v x) ∧ ∀ x, d0 + i ≤ x → s.2.2 41 x = σ.2 41 x)
    (fun s => ps_fr (fun q => q = 41) σ s ∧ s.1 = σ.1 ∧ ∀ x, x < N → s.2 41 x = v x)
    (F := 100000) (s := (nI d0, σ)) (by
      rintro i ⟨a, τ⟩ hi ⟨e, hf, h5, hv, ho⟩
      simp only at e hf h5 hv ho
      subst e
      refine ⟨_, hs (d0 + i) τ (by omega) (by omega) hf h5 hv ho, rfl, hf.tr (ps_fr_ul rfl), h5, fun x hx => ?_, fun x hx => ?_⟩
      · show (ps_ul τ 41 (d0 + i) (v (d0 + i))).2 41 x = _
        rw [pu_l]
        by_cases e : x = d0 + i
        · rw [if_pos ⟨rfl, e⟩, e]
        · rw [if_neg (fun q => e q.2)]; exact hv x (by omega)
      · show (ps_ul τ 41 (d0 + i) (v (d0 + i))).2 41 x = _
        rw [pu_l, if_neg (fun q => by omega)]; exact ho x (by omega)) (by
      rintro ⟨a, τ⟩ ⟨e, hf, h5, hv, ho⟩
      simp only at e hf h5 hv ho
      subst e
      rw [show d0 + (N - d0) = N by omega] at hv ⊢
      exact ⟨τ, hx τ, hf, h5, hv⟩) ⟨by rw [Nat.add_zero], ps_fr.rf, rfl, fun x hx => h0 x (by omega), fun _ _ => rfl⟩ (by omega)
  exact ⟨x, h1, h2, h3, h4⟩
theorem lP : (1000003 : Int64) = lN 1000003 := rfl
theorem lP_to : (1000003 : Int64).toInt = 1000003 := pk_lT (n := 1000003) (Nat.le_of_ble_eq_true rfl)
/-- a rest as Java takes it -/
theorem j_rem (x : Int64) : pe 1000003 (x - x / 1000003 * 1000003).toInt x.toInt ∧ -1000003 ≤ (x - x / 1000003 * 1000003).toInt ∧ (x - x / 1000003 * 1000003).toInt ≤ 1000003 ∧ (0 ≤ x.toInt → (x - x / 1000003 * 1000003).toInt = (g_red x.toInt : Int)) := by
  have ht := lrem_toInt x 1000003
  rw [lP_to] at ht
  have hb := tmod_bounds (a := x.toInt) (M := 1000003) (by decide)
  rw [ht]
  refine ⟨⟨-(x.toInt.tdiv 1000003), ?_⟩, by omega, by omega, fun h => ?_⟩
  · rw [Int.tmod_def]; grind
  · rw [Int.tmod_eq_emod_of_nonneg h]
    unfold g_red
    have := Int.emod_nonneg x.toInt (b := 1000003) (by decide)
    omega
theorem oi_sm {z : Int} (h1 : -9223372036854775808 ≤ z) (h2 : z < 9223372036854775808) : (Int64.ofInt z).toInt = z := by
  rw [Int64.toInt_ofInt]
  exact fb_bmodL h1 h2
/-- raise -/
theorem rem_n {a : Nat} (h : a < 2 ^ 63) : lN a - lN a / 1000003 * 1000003 = lN (a % 1000003) := by
  rw [lP]
  exact pk_lRem h (by decide) (Nat.le_of_ble_eq_true rfl)
theorem pe_mod (a : Nat) : pe 1000003 ((a % 1000003 : Nat) : Int) (a : Int) := ⟨-((a / 1000003 : Nat) : Int), by omega⟩
theorem odd_int : ∀ e, e < 2 ^ 31 → nI e &&& 1 = nI (e % 2) := fun e _ => by
  rw [show (1 : Int32) = nI (2 ^ 1 - 1) from rfl, fa_mask]
theorem half_int {e : Nat} (h : e < 2 ^ 31) : nI e >>> ((1 : Int32) &&& 31) = nI (e / 2) := pk_shrN h _ 1 rfl
theorem raise_lp : ∀ (k r q e F : Nat), e < 2 ^ k → e < 2 ^ 31 → k < F → r < 1000003 → q < 1000003 → ∃ r', ps_lp (fun s => fX4_raise_S9 s.1 s.2.1 s.2.2) F (lN r, lN q, nI e) = some (lN r') ∧ r' < 1000003 ∧ pe 1000003 (r' : Int) ((r : Int) * (q : Int) ^ e) := by
  intro k
  induction k with
  | zero =>
    intro r q e F he _ hF hr hq
    have e0 : e = 0 := by simp at he; omega
    subst e0
    match F, hF with
    | F + 1, _ =>
      refine ⟨r, ?_, hr, by rw [Int.pow_zero, Int.mul_one]; exact pe.rf⟩
      simp only [ps_lp, fX4_raise_S9]
      rw [if_pos (by decide), Option.bind_some]
  | succ k ih =>
    intro r q e F he he2 hF hr hq
    match F, hF with
    | F + 1, hF =>
      by_cases e0 : e = 0
      · subst e0
        refine ⟨r, ?_, hr, by rw [Int.pow_zero, Int.mul_one]; exact pe.rf⟩
        simp only [ps_lp, fX4_raise_S9]
        rw [if_pos (by decide), Option.bind_some]
      · have hqq : q * q < 2 ^ 63 := by
          have : q * q ≤ 1000003 * 1000003 := Nat.mul_le_mul (by omega) (by omega)
          omega
        have hrq : r * q < 2 ^ 63 := by
          have : r * q ≤ 1000003 * 1000003 := Nat.mul_le_mul (by omega) (by omega)
          omega
        have hq2 : q * q % 1000003 < 1000003 := Nat.mod_lt _ (by decide)
        have hr2 : r * q % 1000003 < 1000003 := Nat.mod_lt _ (by decide)
        have h2 : e / 2 < 2 ^ k := by rw [Nat.pow_succ] at he; omega
        have hpow : ∀ x : Int, (x * x) ^ (e / 2) * x ^ (e % 2) = x ^ e := fun x => by
          have h3 : x ^ e = x ^ (2 * (e / 2) + e % 2) := by rw [Nat.div_add_mod]
          rw [h3, Int.pow_add, Int.pow_mul]
          congr 1
          rw [show x * x = x ^ 2 by rw [Int.pow_succ, Int.pow_succ, Int.pow_zero, Int.one_mul]]
        simp only [ps_lp, fX4_raise_S9, fX4_raise_J31, ps_let]
        rw [if_neg (nI_nle (by omega) (by omega)), odd_int e he2, lN_mul, lN_mul, rem_n hqq, rem_n hrq, half_int he2]
        have hsq : pe 1000003 (((q * q % 1000003 : Nat) : Int) ^ (e / 2)) (((q : Int) * (q : Int)) ^ (e / 2)) := by
          have h3 : pe 1000003 ((q * q % 1000003 : Nat) : Int) ((q : Int) * (q : Int)) := (pe_mod (q * q)).tr (pe.of (by rw [Int.natCast_mul]))
          have : ∀ j, pe 1000003 (((q * q % 1000003 : Nat) : Int) ^ j) (((q : Int) * (q : Int)) ^ j) := fun j => by
            induction j with
            | zero => rw [Int.pow_zero, Int.pow_zero]; exact pe.rf
            | succ j ih => rw [Int.pow_succ, Int.pow_succ]; exact ih.mul h3
          exact this _
        rcases Nat.mod_two_eq_zero_or_one e with c | c
        · rw [if_neg (by rw [c]; decide), Option.bind_some]
          obtain ⟨r', a1, a2, a3⟩ := ih r (q * q % 1000003) (e / 2) F h2 (by omega) (by omega) hr hq2
          refine ⟨r', a1, a2, a3.tr ((hsq.ml _).tr (pe.of ?_))⟩
          rw [← hpow, c, Int.pow_zero, Int.mul_one]
        · rw [if_pos (by rw [c]; rfl), Option.bind_some]
          obtain ⟨r', a1, a2, a3⟩ := ih (r * q % 1000003) (q * q % 1000003) (e / 2) F h2 (by omega) (by omega) hr2 hq2
          refine ⟨r', a1, a2, a3.tr (((pe_mod (r * q)).mul hsq).tr (pe.of ?_))⟩
          rw [← hpow, c, Int.pow_succ, Int.pow_zero, Int.natCast_mul]
          grind
theorem c_raise {b e : Nat} (hb : b < 1000003) (he : e < 2 ^ 31) : fX4_raise (nI b) (nI e) = some (nI (g_red ((b : Int) ^ e))) := by
  unfold fX4_raise
  simp only [ps_let]
  obtain ⟨r', h1, h2, h3⟩ := raise_lp 31 1 b e 100000 he he (by decide) (by decide) hb
  rw [nI_l (by omega), show (1 : Int64) = lN 1 from rfl, h1, Option.bind_some, lN_i]
  congr 2
  have := pe_red.mp h3
  rw [show ((1 : Nat) : Int) = 1 from rfl, Int.one_mul, red_small h2] at this
  exact this
theorem turned_same (F : Nat) : ∀ (a2 a4 : Int64) (a6 : Int32), ps_lp (fun s => fX5_turned_S9 s.1 s.2.1 s.2.2) F (a2, a4, a6) = ps_lp (fun s => fX4_raise_S9 s.1 s.2.1 s.2.2) F (a4, a2, a6) := by
  induction F with
  | zero => intro _ _ _; simp only [ps_lp]
  | succ F ih =>
    intro a2 a4 a6
    simp only [ps_lp, fX5_turned_S9, fX4_raise_S9, fX5_turned_J32, fX4_raise_J31, ps_let]
    by_cases c : a6 ≤ 0
    · rw [if_pos c, if_pos c, Option.bind_some, Option.bind_some]
    · rw [if_neg c, if_neg c]
      by_cases d : a6 &&& 1 = 1
      · rw [if_pos d, if_pos d, Option.bind_some, Option.bind_some]; exact ih _ _ _
      · rw [if_neg d, if_neg d, Option.bind_some, Option.bind_some]; exact ih _ _ _
theorem m_turned {b : Nat} (hb : b < 1000003) : fX5_turned (lN b) = some (lN (g_red ((b : Int) ^ 1000001))) := by
  unfold fX5_turned
  obtain ⟨r', h1, h2, h3⟩ := raise_lp 31 1 b 1000001 100000 (Nat.le_of_ble_eq_true rfl) (Nat.le_of_ble_eq_true rfl) (by decide) (by decide) hb
  rw [turned_same, show (1 : Int64) = lN 1 from rfl, nl_1000001, h1, Option.bind_some]
  congr 2
  have := pe_red.mp h3
  rw [show ((1 : Nat) : Int) = 1 from rfl, Int.one_mul, red_small h2] at this
  exact this
