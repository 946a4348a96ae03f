/-! colours: the calls -/
theorem sm_zero {f : Nat → Nat} : ∀ {n : Nat}, fb_sm f n = 0 ↔ ∀ k, k < n → f k = 0
  | 0 => ⟨fun _ k hk => absurd hk (Nat.not_lt_zero _), fun _ => rfl⟩
  | n + 1 => by
    rw [fb_sm_succ, Nat.add_eq_zero_iff, sm_zero (n := n)]
    refine ⟨fun h k hk => ?_, fun h => ⟨fun k hk => h k (by omega), h n (by omega)⟩⟩
    by_cases c : k = n
    · rw [c]; exact h.2
    · exact h.1 k (by omega)
theorem pi0_iff {a : gG} (hw : g_wf a) {p : Nat} (hp : p < 256) : g_pi a p = 0 ↔ ∀ t u, p.testBit t = true → p.testBit u = true → (g_j a t).testBit u = false := by
  have he := p2_even hw p hp
  have h1 : g_pi a p = 0 ↔ g_p2 a p = 0 := by unfold g_pi; omega
  rw [h1, p2_sm hw, sm_zero]
  refine ⟨fun h t u ht hu => ?_, fun h t _ => ?_⟩
  · have t8 := bit_in_lt (n := 8) (by omega) ht
    have u8 := bit_in_lt (n := 8) (by omega) hu
    have h2 := sm_zero.mp (h t t8) u u8
    rw [ht, hu] at h2
    cases hj : (g_j a t).testBit u
    · rfl
    · rw [hj] at h2; exact absurd h2 (by decide)
  · refine sm_zero.mpr (fun u _ => ?_)
    cases ht : p.testBit t
    · rfl
    · cases hu : p.testBit u
      · rfl
      · rw [h t u ht hu]; rfl
theorem u_ne {s : Nat} {g : Nat → Int} (h : u_s s g ≠ 0) : ∃ q, g_sub q s ∧ g q ≠ 0 := by
  refine Classical.byContradiction (fun hn => h ?_)
  rw [u_s_cong (g' := fun _ => 0) (fun q _ hs => ?_), u_zero]
  exact Classical.byContradiction (fun c => hn ⟨q, hs, c⟩)
theorem u_pos {s p : Nat} {g : Nat → Int} (h0 : ∀ q, g_sub q s → 0 ≤ g q) (hp : g_sub p s) (h : 0 < g p) : 0 < u_s s g := by
  have h1 := u_mono (s := s) (g := fun q => if q = p then g p else 0) (h := g) (fun q _ hs => by
    skip
    split
    · rename_i c; rw [c]; exact Int.le_refl _
    · exact h0 q hs)
  have h2 : u_s s (fun q => if q = p then g p else 0) = g p := by
    unfold u_s
    have e1 : ∀ q, q < s + 1 → (if g_df q s = 0 then (fun q => if q = p then g p else 0) q else 0) = if q = p then g p else 0 := fun q _ => by
      dsimp only
      by_cases c : q = p
      · rw [if_pos c, c, if_pos (df_sub.mpr hp)]
      · rw [if_neg c]; split <;> rfl
    rw [fb_si_cong e1]
    exact si_one (fun _ => g p) (by have := sub_le hp; omega)
  omega
theorem ms2 (a : gG) (p : Nat) : g_ms a 2 p = if g_pi a p = 0 then 1 else 0 := rfl
theorem ms2_b (a : gG) : ∀ p, p < 256 → (0 : Int) ≤ (g_ms a 2 p : Int) ∧ (g_ms a 2 p : Int) ≤ 1 := fun p _ => by
  rw [ms2]
  split <;> decide
theorem x_bit {S p t : Nat} (h : g_sub p S) : (S ^^^ p).testBit t = true ↔ S.testBit t = true ∧ ¬ p.testBit t = true := by
  rw [Nat.testBit_xor]
  have := h t
  cases hs : S.testBit t <;> cases hp : p.testBit t <;> simp_all
theorem W_pr {a : gG} (hw : g_wf a) : ∀ S, S < 256 → ∀ k, w_W (fun p => (g_ms a 2 p : Int)) k S ≠ 0 → ∃ ψ, k_pr a S k ψ := by
  intro S
  induction S using Nat.strongRecOn with
  | _ S ih =>
    intro hS k hW
    by_cases h0 : S = 0
    · subst h0
      exact ⟨fun _ => 0, fun t ht => by rw [Nat.zero_testBit] at ht; exact absurd ht (by decide), fun t u ht => by rw [Nat.zero_testBit] at ht; exact absurd ht (by decide)⟩
    · rw [w_S _ k hS h0] at hW
      by_cases c : k = 0
      · rw [if_pos c] at hW; exact absurd rfl hW
      · rw [if_neg c] at hW
        obtain ⟨p, hp, hg⟩ := u_ne hW
        skip
        by_cases hl : p.testBit (g_lt S) = true
        · rw [if_pos hl] at hg
          have hle := sub_le hp
          have hlt := x_lt hp (bit_pos hl)
          have h1 : g_pi a p = 0 := by
            refine Classical.byContradiction (fun q => hg ?_)
            rw [ms2, if_neg q]
            exact Int.zero_mul _
          have h2 : w_W (fun p => (g_ms a 2 p : Int)) (k - 1) (S ^^^ p) ≠ 0 := fun q => hg (by rw [q, Int.mul_zero])
          obtain ⟨ψ, p1, p2⟩ := ih _ hlt (by omega) (k - 1) h2
          have hind := (pi0_iff hw (by omega)).mp h1
          refine ⟨fun u => if p.testBit u = true then k - 1 else ψ u, fun t ht => ?_, fun t u ht hu hj => ?_⟩
          · dsimp only
            by_cases d : p.testBit t = true
            · rw [if_pos d]; omega
            · rw [if_neg d]
              have := p1 t ((x_bit hp).mpr ⟨ht, d⟩)
              omega
          · dsimp only
            by_cases d : p.testBit t = true
            · by_cases e : p.testBit u = true
              · rw [hind t u d e] at hj; exact absurd hj (by decide)
              · rw [if_pos d, if_neg e]
                have := p1 u ((x_bit hp).mpr ⟨hu, e⟩)
                omega
            · by_cases e : p.testBit u = true
              · rw [if_neg d, if_pos e]
                have := p1 t ((x_bit hp).mpr ⟨ht, d⟩)
                omega
              · rw [if_neg d, if_neg e]
                exact p2 t u ((x_bit hp).mpr ⟨ht, d⟩) ((x_bit hp).mpr ⟨hu, e⟩) hj
        · rw [if_neg hl] at hg; exact absurd rfl hg
def k_mk (P : Nat → Bool) : Nat → Nat
  | 0 => 0
  | n + 1 => k_mk P n ||| (if P n = true then 2 ^ n else 0)
theorem mk_bit (P : Nat → Bool) (i : Nat) : ∀ n, (k_mk P n).testBit i = (decide (i < n) && P i)
  | 0 => by rw [k_mk, Nat.zero_testBit]; simp
  | n + 1 => by
    rw [k_mk, Nat.testBit_or, mk_bit P i n]
    by_cases c : i = n
    · subst c
      cases hP : P i
      · simp
      · simp
    · have e1 : decide (i < n + 1) = decide (i < n) := by
        by_cases d : i < n
        · rw [decide_eq_true d, decide_eq_true (by omega)]
        · rw [decide_eq_false d, decide_eq_false (by omega)]
      rw [e1]
      cases hP : P n
      · simp
      · have : (2 ^ n).testBit i = false := Nat.testBit_two_pow_of_ne (fun q => c q.symm)
        simp [this]
theorem pr_W {a : gG} (hw : g_wf a) : ∀ S, S < 256 → ∀ k ψ, k_pr a S k ψ → ∃ k', k' ≤ k ∧ 0 < w_W (fun p => (g_ms a 2 p : Int)) k' S := by
  intro S
  induction S using Nat.strongRecOn with
  | _ S ih =>
    intro hS k ψ hψ
    by_cases h0 : S = 0
    · subst h0
      exact ⟨0, Nat.zero_le _, by rw [w_0]; decide⟩
    · obtain ⟨l1, l2, -⟩ := lt_ok S hS h0
      have hi := hψ.1 _ l2
      have hpb : ∀ t, (k_mk (fun t => S.testBit t && decide (ψ t = ψ (g_lt S))) 8).testBit t = true ↔ S.testBit t = true ∧ ψ t = ψ (g_lt S) := fun t => by
        rw [mk_bit]
        constructor
        · intro q
          have := Bool.and_eq_true_iff.mp q
          have h3 := Bool.and_eq_true_iff.mp this.2
          exact ⟨h3.1, of_decide_eq_true h3.2⟩
        · intro q
          have t8 := bit_in_lt (n := 8) (by omega) q.1
          rw [decide_eq_true t8, q.1, decide_eq_true q.2]; rfl
      generalize k_mk (fun t => S.testBit t && decide (ψ t = ψ (g_lt S))) 8 = p at hpb
      have hp : g_sub p S := fun t ht => ((hpb t).mp ht).1
      have hle := sub_le hp
      have hlow : p.testBit (g_lt S) = true := (hpb _).mpr ⟨l2, rfl⟩
      have hlt := x_lt hp (bit_pos hlow)
      have hpi : g_pi a p = 0 := (pi0_iff hw (by omega)).mpr (fun t u ht hu => by
        have h1 := (hpb t).mp ht
        have h2 := (hpb u).mp hu
        cases hj : (g_j a t).testBit u
        · rfl
        · exact absurd (h1.2.trans h2.2.symm) (hψ.2 t u h1.1 h2.1 hj))
      have hrest : k_pr a (S ^^^ p) (k - 1) (fun u => t_sw (ψ (g_lt S)) (k - 1) (ψ u)) := by
        refine ⟨fun t ht => ?_, fun t u ht hu hj q => ?_⟩
        · have h1 := (x_bit hp).mp ht
          have h2 : ψ t ≠ ψ (g_lt S) := fun q => h1.2 ((hpb t).mpr ⟨h1.1, q⟩)
          have h3 := hψ.1 t h1.1
          show t_sw (ψ (g_lt S)) (k - 1) (ψ t) < k - 1
          unfold t_sw
          rw [if_neg h2]
          split
          · omega
          · omega
        · have h1 := (x_bit hp).mp ht
          have h2 := (x_bit hp).mp hu
          have := congrArg (t_sw (ψ (g_lt S)) (k - 1)) q
          simp only [t_sw_sw] at this
          exact hψ.2 t u h1.1 h2.1 hj this
      obtain ⟨k', k1, k2⟩ := ih _ hlt (by omega) (k - 1) _ hrest
      refine ⟨k' + 1, by omega, ?_⟩
      rw [w_S _ (k' + 1) hS h0, if_neg (by omega)]
      refine u_pos (p := p) (fun q hq => ?_) hp ?_
      · skip
        split
        · have hq1 := sub_le hq
          have hq2 := sub_le (sub_rest hq)
          exact Int.mul_nonneg (ms2_b a q (by omega)).1 (w_small (ms2_b a) (by omega) _).1
        · exact Int.le_refl _
      · skip
        rw [if_pos hlow, ms2, if_pos hpi]
        show 0 < 1 * _
        rw [Int.one_mul]
        exact k2
theorem K_ok {a : gG} (hw : g_wf a) {S : Nat} (hS : S < 256) : ∃ K, K ≤ 8 ∧ (∃ ψ, k_pr a S K ψ) ∧ (∀ j, j < K → ¬ ∃ ψ, k_pr a S j ψ) ∧ w_W (fun p => (g_ms a 2 p : Int)) K S ≠ 0 ∧ ∀ j, j < K → w_W (fun p => (g_ms a 2 p : Int)) j S = 0 := by
  have h8 : ∃ ψ, k_pr a S 8 ψ := ⟨fun t => t, fun t ht => bit_in_lt (n := 8) (by omega) ht, fun t u _ _ hj q => by
    dsimp only at q
    subst q
    rw [hw.2.2.2.2.2.2.1 t] at hj
    exact absurd hj (by decide)⟩
  obtain ⟨K, K1, K2⟩ := n_least (P := fun k => ∃ ψ, k_pr a S k ψ) 8 h8
  have hK8 : K ≤ 8 := by
    rcases Nat.lt_or_ge 8 K with c | c
    · exact absurd h8 (K2 8 c)
    · exact c
  obtain ⟨ψ, hψ⟩ := K1
  obtain ⟨k', k1, k2⟩ := pr_W hw S hS K ψ hψ
  have hk : k' = K := by
    rcases Nat.lt_or_ge k' K with c | c
    · exact absurd (W_pr hw S hS k' (by omega)) (K2 k' c)
    · omega
  subst hk
  refine ⟨k', hK8, ⟨ψ, hψ⟩, K2, by omega, fun j hj => ?_⟩
  exact Classical.byContradiction (fun c => K2 j hj (W_pr hw S hS j c))
/-- the class -/
theorem c_clear {σ : ps_S} {a1 a2 : Int32} : ∃ τ, ps_lp (fun s => fX4_paintFewest_S10 a1 a2 s.1 s.2) 100000 ((0 : Int32), σ) = some τ ∧ ps_fr (fun q => q = 44) σ τ ∧ ∀ c, c < 8 → τ.1 44 c = nI 0 := by
  refine ps_for (step := fun s => fX4_paintFewest_S10 a1 a2 s.1 s.2) 8 (fun i q => q.1 = nI i ∧ ps_fr (fun q => q = 44) σ q.2 ∧ ∀ c, c < i → q.2.1 44 c = nI 0) (fun τ => ps_fr (fun q => q = 44) σ τ ∧ ∀ c, c < 8 → τ.1 44 c = nI 0) ?_ ?_ ⟨rfl, ps_fr.rf, fun c hc => absurd hc (Nat.not_lt_zero _)⟩ (by decide)
  · rintro i ⟨x, τ⟩ hi ⟨q1, hf, hv⟩
    simp only at q1 hf hv
    subst q1
    refine ⟨(nI (i + 1), ps_ui τ 44 i 0), ?_, rfl, hf.tr (ps_fr_ui rfl), fun c hc => ?_⟩
    · show fX4_paintFewest_S10 a1 a2 (nI i) τ = _
      unfold fX4_paintFewest_S10
      simp only [ps_let]
      rw [nl_8, if_neg (nI_ge hi (by decide)), pk_ok hi (by decide), nI_clamp (by omega), nI_1]
    · show (ps_ui τ 44 i 0).1 44 c = _
      rw [pu_i]
      by_cases d : c = i
      · rw [if_pos ⟨rfl, d⟩]; rfl
      · rw [if_neg (fun q => d q.2)]; exact hv c (by omega)
  · rintro ⟨x, τ⟩ ⟨q1, hf, hv⟩
    simp only at q1 hf hv
    subst q1
    refine ⟨τ, ?_, hf, hv⟩
    show fX4_paintFewest_S10 a1 a2 (nI 8) τ = _
    unfold fX4_paintFewest_S10
    rw [if_pos (by decide)]
theorem c_paint0 {σ : ps_S} {a : gG} {S k : Nat} (h : c_G σ 1 a) (hw : g_wf a) (hS : S < 2 ^ g_n a) (hk : k ≤ 8) (hz : ∀ c, c < 8 → σ.1 44 c = nI 0) : ∃ (r : Int32) (τ : ps_S), fX4_paintFrom 10 44 (nI S) (nI k) 0 σ = some (r, τ) ∧ ps_fr (fun q => q = 44) σ τ ∧ ((r = 1 ∧ ∃ ψ, k_lf a S k 0 (fun _ => 0) ψ ∧ k_cm τ S (g_n a) ψ) ∨ (r = 0 ∧ ¬ ∃ ψ, k_pr a S k ψ)) := by
  have h8 := hw.1
  obtain ⟨r, τ, r1, r2, r3⟩ := c_paint hw hS hk 10 0 (fun _ => 0) σ h (Nat.zero_le _) (by omega) ⟨fun u hu => absurd hu (Nat.not_lt_zero _), fun u v hu => absurd hu (Nat.not_lt_zero _)⟩ (fun c hc => ⟨0, hz c hc, fun u => ⟨fun q => by rw [Nat.zero_testBit] at q; exact absurd q (by decide), fun q => absurd q.1 (Nat.not_lt_zero _)⟩⟩) (fun c c' _ ⟨u, hu, _⟩ => absurd hu (Nat.not_lt_zero _))
  refine ⟨r, τ, r1, r2, ?_⟩
  rcases r3 with q | ⟨q, p1, -⟩
  · exact Or.inl q
  · exact Or.inr ⟨q, fun ⟨ψ, hψ⟩ => p1 ⟨ψ, hψ, fun u hu => absurd hu (Nat.not_lt_zero _)⟩⟩
theorem c_fewest {σ : ps_S} {a : gG} {S K : Nat} (h : c_G σ 1 a) (hw : g_wf a) (hS : S < 2 ^ g_n a) (hK : K ≤ 8) (k1 : ∃ ψ, k_pr a S K ψ) (k2 : ∀ j, j < K → ¬ ∃ ψ, k_pr a S j ψ) : ∃ τ ψ, fX4_paintFewest (nI S) σ = some (nI K, τ) ∧ ps_fr (fun q => q = 44) σ τ ∧ k_lf a S K 0 (fun _ => 0) ψ ∧ k_cm τ S (g_n a) ψ := by
  obtain ⟨e, e1, τ, ψ, e2, e3, e4, e5⟩ := ps_for (step := fun s => fX4_paintFewest_S2 (nI S) s.1 s.2) K (fun i q => q.1 = nI i ∧ ps_fr (fun q => q = 44) σ q.2) (fun e => ∃ τ ψ, e = .inl (nI K, τ) ∧ ps_fr (fun q => q = 44) σ τ ∧ k_lf a S K 0 (fun _ => 0) ψ ∧ k_cm τ S (g_n a) ψ) (F := 100000) (s := ((0 : Int32), σ)) (by
      rintro i ⟨x, τ⟩ hi ⟨q1, hf⟩
      simp only at q1 hf
      subst q1
      obtain ⟨ρ, c1, c2, c3⟩ := c_clear (σ := τ) (a1 := nI S) (a2 := nI i)
      have hG : c_G ρ 1 a := (h.fr hf (fun k h1 h2 => by omega)).fr c2 (fun k h1 h2 => by omega)
      obtain ⟨r, ω, r1, r2, r3⟩ := c_paint0 (k := i) hG hw hS (by omega) c3
      rcases r3 with ⟨q, ψ, p1, -⟩ | ⟨q, -⟩
      · exact absurd ⟨ψ, p1.1⟩ (k2 i hi)
      · subst q
        refine ⟨(nI (i + 1), ω), ?_, rfl, (hf.tr c2).tr r2⟩
        show fX4_paintFewest_S2 (nI S) (nI i) τ = _
        unfold fX4_paintFewest_S2
        rw [nl_8, if_neg (nI_nlt (by omega) (by decide)), c1, Option.bind_some, r1, Option.bind_some, if_pos (by rfl)]
        simp only [ps_let]
        rw [nI_1]) (by
      rintro ⟨x, τ⟩ ⟨q1, hf⟩
      simp only at q1 hf
      subst q1
      obtain ⟨ρ, c1, c2, c3⟩ := c_clear (σ := τ) (a1 := nI S) (a2 := nI K)
      have hG : c_G ρ 1 a := (h.fr hf (fun k h1 h2 => by omega)).fr c2 (fun k h1 h2 => by omega)
      obtain ⟨r, ω, r1, r2, r3⟩ := c_paint0 (k := K) hG hw hS (by omega) c3
      rcases r3 with ⟨q, ψ, p1, p2⟩ | ⟨q, p1⟩
      · subst q
        refine ⟨.inl (nI K, ω), ?_, ω, ψ, rfl, (hf.tr c2).tr r2, p1, p2⟩
        show fX4_paintFewest_S2 (nI S) (nI K) τ = _
        unfold fX4_paintFewest_S2
        rw [nl_8, if_neg (nI_nlt (by omega) (by decide)), c1, Option.bind_some, r1, Option.bind_some, if_neg (show ¬ (1 : Int32) = 0 by decide)]
      · exact absurd k1 p1) ⟨rfl, ps_fr.rf⟩ (by omega)
  refine ⟨τ, ψ, ?_, e3, e4, e5⟩
  unfold fX4_paintFewest
  rw [e1, Option.bind_some, e2]
/-- the model -/
theorem oi_n {z : Int} (h0 : 0 ≤ z) (h1 : z ≤ 268435456) : Int32.ofInt z = 0 ↔ z = 0 := by
  obtain ⟨n, rfl⟩ := Int.eq_ofNat_of_zero_le h0
  have : Int32.ofInt (n : Int) = nI n := rfl
  rw [this, nI0_iff (by omega)]
  omega
theorem m_fewest {σ : ps_S} {a : gG} {S K : Nat} (h : m_G σ 47 0 a) (hw : g_wf a) (hn : g_n a ≠ 0) (hS : S < 2 ^ g_n a) (hK : K ≤ 8) (k1 : w_W (fun p => (g_ms a 2 p : Int)) K S ≠ 0) (k2 : ∀ j, j < K → w_W (fun p => (g_ms a 2 p : Int)) j S = 0) : ∃ τ, fX5_fewest (nI S) σ = some (nI K, τ) ∧ ps_fr (fun q => q = 56) σ τ := by
  have h2 := p2_le _ hw.1
  obtain ⟨τ, t1, t2, t3⟩ := m_laysPlain h hw hn
  obtain ⟨e, e1, e2⟩ := ps_for (step := fun s => fX5_fewest_S6 (nI S) τ s) K (fun i s => s = nI i) (fun e => e = nI K) (F := 100000) (s := (0 : Int32)) (by
      rintro i s hi rfl
      refine ⟨nI (i + 1), ?_, rfl⟩
      show fX5_fewest_S6 (nI S) τ (nI i) = _
      unfold fX5_fewest_S6
      rw [nl_9, fa_mul, nI_add, pk_ok (by omega) (by decide), nI_clamp (by omega), t3 S i hS (by omega), k2 i hi, if_pos (by rfl)]
      simp only [ps_let]
      rw [nI_1]) (by
      rintro s rfl
      refine ⟨_, ?_, rfl⟩
      have hb := w_small (ms2_b a) (show S < 256 by omega) K
      show fX5_fewest_S6 (nI S) τ (nI K) = _
      unfold fX5_fewest_S6
      rw [nl_9, fa_mul, nI_add, pk_ok (by omega) (by decide), nI_clamp (by omega), t3 S K hS (by omega), if_neg (fun q => k1 ((oi_n hb.1 hb.2).mp q))]) rfl (by omega)
  refine ⟨τ, ?_, t2⟩
  unfold fX5_fewest
  rw [t1, Option.bind_some, e1, Option.bind_some, e2]
theorem op_colours {σ : ps_S} (x : Int32) (h : b_R σ) : ∃ (r : Int32) (τ υ : ps_S), fX4_colours x σ = some (r, τ) ∧ fX5_colours x τ = some (r, υ) ∧ b_R υ := by
  obtain ⟨A, hw, hc, hm⟩ := h
  have hm' := thr_R hm
  have hN := g_N_le hw.1
  rcases set_cases (a_g A) hw.1 x with hx | ⟨S, hS, rfl⟩
  · refine ⟨-1, σ, thr σ, ?_, ?_, b_keep hw hc hm' (thr_fr σ)⟩
    · unfold fX4_colours
      rw [c_hasSet_no hc.1 hw.1 hx]; rfl
    · unfold fX5_colours
      rw [ps_let, show ps_ui σ 45 0 0 = thr σ from rfl, m_isSet_no hm'.1 hw.1 hx]; rfl
  have hn : g_n (a_g A) ≠ 0 := fun q => by unfold g_N at hS; rw [if_pos q] at hS; omega
  have hNp := g_N_pos hn
  have h2 := p2_le _ hw.1.1
  obtain ⟨K, K1, K2, K3, K4, K5⟩ := K_ok hw.1 (S := S) (by omega)
  obtain ⟨τ, ψ, a1, a2, -, -⟩ := c_fewest hc.1 hw.1 (by omega) K1 K2 K3
  have fc : ps_fr c_scr σ τ := a2.wk (fun k q => by unfold c_scr; omega)
  have hcτ : c_R τ A := c_R_scr hc fc
  have hmω : m_R (thr τ) A := thr_R (m_R_c hm (fc.wk (fun k q => by unfold c_scr at q; unfold c_own; omega)))
  obtain ⟨χ, y1, y2⟩ := m_fewest hmω.1 hw.1 hn (by omega) K1 K4 K5
  have f52 : ps_fr m_scr (thr τ) χ := y2.wk (fun k q => by unfold m_scr; omega)
  refine ⟨nI K, τ, χ, ?_, ?_, b_keep hw hcτ (m_R_scr hmω f52) ((thr_fr τ).tr (scr_m f52))⟩
  · unfold fX4_colours
    rw [c_hasSet_yes hc.1 hw.1 hS, Option.bind_some, if_neg (by decide), a1, Option.bind_some]
  · unfold fX5_colours
    rw [ps_let, show ps_ui τ 45 0 0 = thr τ from rfl, m_isSet_yes hmω.1 hw.1 hS, Option.bind_some, if_neg (by decide), y1, Option.bind_some]
theorem op_colour {σ : ps_S} (x y : Int32) (h : b_R σ) : ∃ (r : Int32) (τ υ : ps_S), fX4_colour x y σ = some (r, τ) ∧ fX5_colour x y τ = some (r, υ) ∧ b_R υ := by
  obtain ⟨A, hw, hc, hm⟩ := h
  have hm' := thr_R hm
  have hN := g_N_le hw.1
  have h8 := hw.1.1
  have bad : (fX4_colour x y σ = some (-1, σ) ∧ fX5_colour x y σ = some (-1, thr σ)) → ∃ (r : Int32) (τ υ : ps_S), fX4_colour x y σ = some (r, τ) ∧ fX5_colour x y τ = some (r, υ) ∧ b_R υ := fun q => ⟨-1, σ, thr σ, q.1, q.2, b_keep hw hc hm' (thr_fr σ)⟩
  rcases set_cases (a_g A) hw.1 x with hx | ⟨S, hS, rfl⟩
  · refine bad ⟨?_, ?_⟩
    · unfold fX4_colour
      rw [c_hasSet_no hc.1 hw.1 hx]; rfl
    · unfold fX5_colour
      rw [ps_let, show ps_ui σ 45 0 0 = thr σ from rfl, m_isSet_no hm'.1 hw.1 hx]; rfl
  have hn : g_n (a_g A) ≠ 0 := fun q => by unfold g_N at hS; rw [if_pos q] at hS; omega
  have hNp := g_N_pos hn
  have h2 := p2_le _ hw.1.1
  rcases thing_cases (a_g A) hw.1 y with hy | ⟨t, ht, rfl⟩
  · refine bad ⟨?_, ?_⟩
    · unfold fX4_colour
      rw [c_hasSet_yes hc.1 hw.1 hS, Option.bind_some, if_neg (by decide), c_hasThing_no hc.1 hy]; rfl
    · unfold fX5_colour
      rw [ps_let, show ps_ui σ 45 0 0 = thr σ from rfl, m_isSet_yes hm'.1 hw.1 hS, Option.bind_some, if_neg (by decide), m_isThing_no hm'.1 hw.1 hy]; rfl
  cases hb : S.testBit t
  · refine bad ⟨?_, ?_⟩
    · unfold fX4_colour
      rw [c_hasSet_yes hc.1 hw.1 hS, Option.bind_some, if_neg (by decide), c_hasThing_yes hc.1 hw.1 ht, Option.bind_some, if_neg (by decide), bit_s S (by omega) t (by omega), hb, if_pos (by rfl)]
    · unfold fX5_colour
      rw [ps_let, show ps_ui σ 45 0 0 = thr σ from rfl, m_isSet_yes hm'.1 hw.1 hS, Option.bind_some, if_neg (by decide), m_isThing_yes hm'.1 hw.1 ht, Option.bind_some, if_neg (by decide), m_has (by omega) (by omega), hb, Option.bind_some, if_pos (by rfl)]
  obtain ⟨K, K1, K2, K3, K4, K5⟩ := K_ok hw.1 (S := S) (by omega)
  obtain ⟨τ, ψ, a1, a2, a3, a4⟩ := c_fewest hc.1 hw.1 (by omega) K1 K2 K3
  have fc : ps_fr c_scr σ τ := a2.wk (fun k q => by unfold c_scr; omega)
  have hcτ : c_R τ A := c_R_scr hc fc
  have hmω : m_R (thr τ) A := thr_R (m_R_c hm (fc.wk (fun k q => by unfold c_scr at q; unfold c_own; omega)))
  obtain ⟨χ, y1, y2⟩ := m_fewest hmω.1 hw.1 hn (by omega) K1 K4 K5
  have hGχ := hmω.1.fr y2 (by decide)
  obtain ⟨r, ω, r1, r2, r3⟩ := m_paint hw.1 (show S < 2 ^ g_n (a_g A) by omega) K1 10 0 (fun _ => 0) χ hGχ (Nat.zero_le _) (by omega) ⟨fun u hu => absurd hu (Nat.not_lt_zero _), fun u v hu => absurd hu (Nat.not_lt_zero _)⟩ (fun u hu => absurd hu (Nat.not_lt_zero _))
  rcases r3 with ⟨q, ψ', p1, p2⟩ | ⟨q, p1, -⟩
  · subst q
    have heq := lf_uniq a3 p1 t hb
    have hlt := a3.1.1 t hb
    have f52 : ps_fr m_scr (thr τ) ω := (y2.wk (fun k q => by unfold m_scr; omega)).tr (r2.wk (fun k q => by unfold m_scr; omega))
    refine ⟨nI (ψ t), τ, ω, ?_, ?_, b_keep hw hcτ (m_R_scr hmω f52) ((thr_fr τ).tr (scr_m f52))⟩
    · obtain ⟨e, e1, e2⟩ := ps_for (step := fun s => fX4_colour_S41 (nI t) (nI K) τ s) (ψ t) (fun i s => s = nI i) (fun e => e = .inl (nI (ψ t))) (F := 100000) (s := (0 : Int32)) (by
          rintro i s hi rfl
          refine ⟨nI (i + 1), ?_, rfl⟩
          obtain ⟨m, m1, m2⟩ := a4 i (by omega)
          have hm256 : m < 256 := by
            have := sub_le (b := m) (s := S) (fun u hu => ((m2 u).mp hu).2.1)
            omega
          have hmt : m.testBit t = false := by
            cases hq : m.testBit t
            · rfl
            · have := ((m2 t).mp hq).2.2; omega
          show fX4_colour_S41 (nI t) (nI K) τ (nI i) = _
          unfold fX4_colour_S41
          rw [if_neg (nI_ge (by omega) (by omega)), nl_8, if_neg (nI_ge (by omega) (by decide)), pk_ok (by omega) (by decide), nI_clamp (by omega), m1, bit_s m hm256 t (by omega), hmt, if_neg (by decide)]
          simp only [ps_let]
          rw [nI_1]) (by
          rintro s rfl
          refine ⟨_, ?_, rfl⟩
          obtain ⟨m, m1, m2⟩ := a4 (ψ t) (by omega)
          have hm256 : m < 256 := by
            have := sub_le (b := m) (s := S) (fun u hu => ((m2 u).mp hu).2.1)
            omega
          have hmt : m.testBit t = true := (m2 t).mpr ⟨ht, hb, rfl⟩
          show fX4_colour_S41 (nI t) (nI K) τ (nI (ψ t)) = _
          unfold fX4_colour_S41
          rw [if_neg (nI_ge (by omega) (by omega)), nl_8, if_neg (nI_ge (by omega) (by decide)), pk_ok (by omega) (by decide), nI_clamp (by omega), m1, bit_s m hm256 t (by omega), hmt, if_pos (by rfl)]) rfl (by omega)
      unfold fX4_colour
      rw [c_hasSet_yes hc.1 hw.1 hS, Option.bind_some, if_neg (by decide), c_hasThing_yes hc.1 hw.1 ht, Option.bind_some, if_neg (by decide), bit_s S (by omega) t (by omega), hb, if_neg (by decide), a1, Option.bind_some]
      simp only [ps_let]
      rw [e1, Option.bind_some, e2]
    · unfold fX5_colour
      rw [ps_let, show ps_ui τ 45 0 0 = thr τ from rfl, m_isSet_yes hmω.1 hw.1 hS, Option.bind_some, if_neg (by decide), m_isThing_yes hmω.1 hw.1 ht, Option.bind_some, if_neg (by decide), m_has (by omega) (by omega), hb, Option.bind_some, if_neg (by decide), y1, Option.bind_some, n0, r1, Option.bind_some, pk_ok (by omega) (by decide), nI_clamp (by omega), p2 t ht hb, heq]
  · obtain ⟨φ, hφ⟩ := K2
    exact absurd ⟨φ, hφ, fun u hu => absurd hu (Nat.not_lt_zero _)⟩ p1
