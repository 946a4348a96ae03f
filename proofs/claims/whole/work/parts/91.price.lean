/-! the cheapest parting -/
def p_mn (g : Nat → Nat) : Nat → Nat
  | 0 => 1000000
  | n + 1 => if g n < p_mn g n then g n else p_mn g n
def p_is (P : Nat → Prop) (g : Nat → Nat) (x : Nat) : Prop := x ≤ 1000000 ∧ (∀ q, P q → x ≤ g q) ∧ (x = 1000000 ∨ ∃ q, P q ∧ x = g q)
theorem is_step {P P' : Nat → Prop} {g : Nat → Nat} {x b : Nat} (h : p_is P g x) (h1 : ∀ q, P' q → P q ∨ q = b) (h2 : ∀ q, P q → P' q) (h3 : P' b) : p_is P' g (if g b < x then g b else x) := by
  obtain ⟨a1, a2, a3⟩ := h
  by_cases c : g b < x
  · rw [if_pos c]
    refine ⟨by omega, fun q hq => ?_, Or.inr ⟨b, h3, rfl⟩⟩
    rcases h1 q hq with d | d
    · have := a2 q d; omega
    · rw [d]; exact Nat.le_refl _
  · rw [if_neg c]
    refine ⟨a1, fun q hq => ?_, ?_⟩
    · rcases h1 q hq with d | d
      · exact a2 q d
      · rw [d]; omega
    · rcases a3 with d | ⟨q, d, e⟩
      · exact Or.inl d
      · exact Or.inr ⟨q, h2 q d, e⟩
theorem is_iff {P P' : Nat → Prop} {g : Nat → Nat} {x : Nat} (h : p_is P g x) (h1 : ∀ q, P q ↔ P' q) : p_is P' g x := by
  obtain ⟨a1, a2, a3⟩ := h
  refine ⟨a1, fun q hq => a2 q ((h1 q).mpr hq), ?_⟩
  rcases a3 with d | ⟨q, d, e⟩
  · exact Or.inl d
  · exact Or.inr ⟨q, (h1 q).mp d, e⟩
theorem is_uniq {P : Nat → Prop} {g : Nat → Nat} {x y : Nat} (hx : p_is P g x) (hy : p_is P g y) : x = y := by
  obtain ⟨a1, a2, a3⟩ := hx
  obtain ⟨b1, b2, b3⟩ := hy
  have h1 : x ≤ y := by
    rcases b3 with d | ⟨q, d, e⟩
    · omega
    · rw [e]; exact a2 q d
  have h2 : y ≤ x := by
    rcases a3 with d | ⟨q, d, e⟩
    · omega
    · rw [e]; exact b2 q d
  omega
theorem mn_is (g : Nat → Nat) : ∀ n, p_is (fun q => q < n) g (p_mn g n)
  | 0 => ⟨Nat.le_refl _, fun q hq => absurd hq (Nat.not_lt_zero _), Or.inl rfl⟩
  | n + 1 => is_step (b := n) (mn_is g n) (fun q hq => by omega) (fun q hq => by omega) (by omega)
theorem mn_cong {g g' : Nat → Nat} : ∀ {n : Nat}, (∀ k, k < n → g k = g' k) → p_mn g n = p_mn g' n
  | 0, _ => rfl
  | n + 1, h => by rw [p_mn, p_mn, mn_cong (fun k hk => h k (by omega)), h n (by omega)]
theorem x_lt {p s : Nat} (hsub : g_sub p s) (hp : 0 < p) : s ^^^ p < s := by
  have h3 := sub_le (sub_rest hsub)
  have h4 : s ^^^ p ≠ s := fun q => by
    have := congrArg (fun y => s ^^^ y) q
    simp [← Nat.xor_assoc] at this
    omega
  omega
theorem bit_pos {p t : Nat} (h : p.testBit t = true) : 0 < p := by
  refine Nat.pos_of_ne_zero (fun q => ?_)
  rw [q, Nat.zero_testBit] at h
  exact absurd h (by decide)
def p_c (a : gG) (v : Nat → Nat) (T p : Nat) : Nat := if g_w a p = 0 then 1000000 else if v (T ^^^ p) < 1000000 then g_w a p + v (T ^^^ p) else 1000000
def p_F (a : gG) : Nat → Nat → Nat
  | 0, _ => 0
  | k + 1, T => if T = 0 then 0 else p_mn (fun p => if g_df p T = 0 ∧ p.testBit (g_lt T) = true then p_c a (p_F a k) T p else 1000000) (T + 1)
theorem p_F_0 (a : gG) (k : Nat) : p_F a k 0 = 0 := by
  cases k with
  | zero => rfl
  | succ k => rw [p_F, if_pos rfl]
theorem p_F_eq (a : gG) : ∀ T k k', T ≤ k → T ≤ k' → p_F a k T = p_F a k' T := by
  intro T
  induction T using Nat.strongRecOn with
  | _ T ih =>
    intro k k' h1 h2
    by_cases h0 : T = 0
    · rw [h0, p_F_0, p_F_0]
    · cases k with
      | zero => omega
      | succ k =>
        cases k' with
        | zero => omega
        | succ k' =>
          rw [p_F, p_F, if_neg h0, if_neg h0]
          refine mn_cong (fun p hp => ?_)
          by_cases c : g_df p T = 0 ∧ p.testBit (g_lt T) = true
          · rw [if_pos c, if_pos c]
            have hlt := x_lt (df_sub.mp c.1) (bit_pos c.2)
            unfold p_c
            rw [ih (T ^^^ p) hlt k k' (by omega) (by omega)]
          · rw [if_neg c, if_neg c]
def p_pr (a : gG) (T : Nat) : Nat := p_F a T T
theorem p_ok (a : gG) {T : Nat} (h0 : T ≠ 0) : p_is (fun p => g_sub p T ∧ p.testBit (g_lt T) = true) (p_c a (p_pr a) T) (p_pr a T) := by
  have hu : p_pr a T = p_mn (fun p => if g_df p T = 0 ∧ p.testBit (g_lt T) = true then p_c a (p_F a (T - 1)) T p else 1000000) (T + 1) := by
    unfold p_pr
    cases T with
    | zero => exact absurd rfl h0
    | succ t => rw [p_F, if_neg h0]; rfl
  have hc : ∀ p, g_sub p T → p.testBit (g_lt T) = true → p_c a (p_F a (T - 1)) T p = p_c a (p_pr a) T p := fun p h1 h2 => by
    have hlt := x_lt h1 (bit_pos h2)
    unfold p_c p_pr
    rw [p_F_eq a (T ^^^ p) (T - 1) (T ^^^ p) (by omega) (Nat.le_refl _)]
  obtain ⟨a1, a2, a3⟩ := mn_is (fun p => if g_df p T = 0 ∧ p.testBit (g_lt T) = true then p_c a (p_F a (T - 1)) T p else 1000000) (T + 1)
  rw [← hu] at a1 a2 a3
  refine ⟨a1, fun q hq => ?_, ?_⟩
  · have h1 := a2 q (by have := sub_le hq.1; omega)
    dsimp only at h1
    rw [if_pos ⟨df_sub.mpr hq.1, hq.2⟩, hc q hq.1 hq.2] at h1
    exact h1
  · rcases a3 with d | ⟨q, d, e⟩
    · exact Or.inl d
    · dsimp only at e
      by_cases c : g_df q T = 0 ∧ q.testBit (g_lt T) = true
      · rw [if_pos c, hc q (df_sub.mp c.1) c.2] at e
        exact Or.inr ⟨q, ⟨df_sub.mp c.1, c.2⟩, e⟩
      · rw [if_neg c] at e
        exact Or.inl e
theorem p_b {a : gG} (hw : g_wf a) : ∀ T, p_pr a T ≤ 999 * T ∨ p_pr a T = 1000000 := by
  intro T
  induction T using Nat.strongRecOn with
  | _ T ih =>
    by_cases h0 : T = 0
    · subst h0; left; exact Nat.le_of_eq (p_F_0 a 0)
    · rcases (p_ok a h0).2.2 with d | ⟨q, d, e⟩
      · exact Or.inr d
      · have hlt := x_lt d.1 (bit_pos d.2)
        have hwq := hw.2.1 q
        unfold p_c at e
        by_cases c : g_w a q = 0
        · rw [if_pos c] at e; exact Or.inr e
        · rw [if_neg c] at e
          by_cases c2 : p_pr a (T ^^^ q) < 1000000
          · rw [if_pos c2] at e
            have := ih _ hlt
            left
            omega
          · rw [if_neg c2] at e; exact Or.inr e
theorem p_le {a : gG} (hw : g_wf a) {T : Nat} (hT : T < 256) : p_pr a T ≤ 254745 ∨ p_pr a T = 1000000 := by
  have := p_b hw T
  omega
theorem p_c_le {a : gG} (hw : g_wf a) {T p : Nat} (h : T ^^^ p < 256) : p_c a (p_pr a) T p ≤ 1000000 := by
  have h1 := p_le hw h
  have h2 := hw.2.1 p
  unfold p_c
  split
  · omega
  · split
    · omega
    · omega
/-- the class -/
theorem c_priceWith {σ : ps_S} {a : gG} {T p : Nat} (h : c_G σ 1 a) (hw : g_wf a) (hT : T < 256) (hp : p < 256) (hv : σ.1 42 (T ^^^ p) = nI (p_pr a (T ^^^ p))) : fX4_priceWith (nI T) (nI p) σ = some (nI (p_c a (p_pr a) T p)) := by
  have hx := xor256 hT hp
  have h1 := p_le hw hx
  have h2 := hw.2.1 p
  have e7 : σ.1 (2 + 1 + 4) p = nI (g_w a p) := h.2.2.1 p hp
  unfold fX4_priceWith fX4_priceWith_J33
  simp only [ps_let]
  rw [nl_4, pk_ok (by decide) (by decide), pk_ok (by omega) (by decide), nI_clamp (by decide), nI_clamp (by omega), e7, nx_xor, pk_ok (by omega) (by decide), nI_clamp (by omega), hv, nl_1000000]
  unfold p_c
  by_cases c : g_w a p = 0
  · rw [if_pos ((nI0_iff (by omega)).mpr c), if_pos c]
  · rw [if_neg (fun q => c ((nI0_iff (by omega)).mp q)), if_neg c]
    by_cases c2 : p_pr a (T ^^^ p) < 1000000
    · rw [if_pos (nI_lt c2 (by omega)), if_pos c2, nI_add]
    · rw [if_neg (nI_nlt (by omega) (by omega)), if_neg c2]
theorem nI_min {x y : Nat} (hx : x < 2 ^ 31) (hy : y < 2 ^ 31) : (if nI x < nI y then nI x else nI y) = nI (if x < y then x else y) := by
  by_cases c : x < y
  · rw [if_pos (nI_lt c hy), if_pos c]
  · rw [if_neg (nI_nlt (by omega) hx), if_neg c]
theorem t_low {T : Nat} (hT : T < 256) (h0 : T ≠ 0) : T ^^^ g_rs T = 2 ^ g_lt T := by
  rw [rs_eq hT h0, ← Nat.xor_assoc, Nat.xor_self, Nat.zero_xor]
theorem or_low {T m : Nat} (hT : T < 256) (h0 : T ≠ 0) (hm : g_sub m (g_rs T)) : 2 ^ g_lt T ||| m = m ^^^ 2 ^ g_lt T := by
  obtain ⟨l1, l2, -, -, l5, -⟩ := lt_ok T hT h0
  have hr : (g_rs T).testBit (g_lt T) = false := by
    rw [← l5, Nat.testBit_xor, l2, Nat.testBit_two_pow_self]; rfl
  refine Nat.eq_of_testBit_eq (fun i => ?_)
  rw [Nat.testBit_or, Nat.testBit_xor]
  have h1 := hm i
  by_cases c : i = g_lt T
  · subst c
    rw [hr] at h1
    cases hb : m.testBit (g_lt T)
    · rw [Nat.testBit_two_pow_self]; rfl
    · exact absurd (h1 hb) (by decide)
  · rw [Nat.testBit_two_pow_of_ne (fun q => c q.symm)]
    cases m.testBit i <;> rfl
theorem c_leastPrice {σ : ps_S} {a : gG} {T : Nat} (h : c_G σ 1 a) (hw : g_wf a) (hT : T < 256) (h0 : T ≠ 0) (hv : ∀ U, g_sub U T → U < T → σ.1 42 U = nI (p_pr a U)) : fX4_leastPrice (nI T) σ = some (nI (p_pr a T)) := by
  obtain ⟨l1, l2, l3, l4, l5, -⟩ := lt_ok T hT h0
  have hlow : 2 ^ g_lt T < 256 := Nat.pow_lt_pow_right (n := 8) (by decide) l1
  have hpw : ∀ m, g_sub m (g_rs T) → fX4_priceWith (nI T) (nI (m ^^^ 2 ^ g_lt T)) σ = some (nI (p_c a (p_pr a) T (m ^^^ 2 ^ g_lt T))) ∧ p_c a (p_pr a) T (m ^^^ 2 ^ g_lt T) ≤ 1000000 := fun m hm => by
    have hs := (sub_with (S := T) (x := g_lt T) (m := m) l2).mpr (by rw [l5]; exact hm)
    have hle := sub_le hs.1
    have hlt := x_lt hs.1 (bit_pos hs.2)
    exact ⟨c_priceWith h hw hT (by omega) (hv _ (sub_rest hs.1) hlt), p_c_le hw (by omega)⟩
  have hz : g_sub 0 (g_rs T) := fun t ht => by rw [Nat.zero_testBit] at ht; exact absurd ht (by decide)
  have p0 := hpw 0 hz
  rw [Nat.zero_xor] at p0
  obtain ⟨e, e1, x, e2, e3⟩ := ps_subs (step := fun s => fX4_leastPrice_S18 (nI T) (nI (g_rs T)) σ s.1 s.2) (g_rs T) (fun p q => q.2 = nI p ∧ ∃ x, q.1 = nI x ∧ p_is (fun q => ∃ m, g_sub m (g_rs T) ∧ (m = 0 ∨ p < m) ∧ q = m ^^^ 2 ^ g_lt T) (p_c a (p_pr a) T) x) (fun e => ∃ x, e = nI x ∧ p_is (fun q => ∃ m, g_sub m (g_rs T) ∧ (m = 0 ∨ 0 < m) ∧ q = m ^^^ 2 ^ g_lt T) (p_c a (p_pr a) T) x) (by
      rintro p ⟨a3, a4⟩ hp hsub ⟨q1, x, q2, q3⟩
      simp only at q1 q2
      subst q1 q2
      have hple := sub_le hsub
      obtain ⟨w1, w2⟩ := hpw p hsub
      have hx := q3.1
      refine ⟨(nI (if p_c a (p_pr a) T (p ^^^ 2 ^ g_lt T) < x then p_c a (p_pr a) T (p ^^^ 2 ^ g_lt T) else x), nI ((p - 1) &&& g_rs T)), ?_, rfl, _, rfl, is_step q3 ?_ ?_ ?_⟩
      · show fX4_leastPrice_S18 (nI T) (nI (g_rs T)) σ (nI x) (nI p) = _
        unfold fX4_leastPrice_S18
        simp only [ps_let]
        rw [if_neg (nI_nle hp (by omega)), nx_xor, t_low hT h0, fa_or, or_low hT h0 hsub, w1, Option.bind_some, nI_min (by omega) (by omega), n1, pk_sub (by omega), fa_and]
      · rintro q ⟨m, m1, m2, m3⟩
        rcases m2 with m2 | m2
        · exact Or.inl ⟨m, m1, Or.inl m2, m3⟩
        · by_cases c : p < m
          · exact Or.inl ⟨m, m1, Or.inr c, m3⟩
          · by_cases c2 : m < p
            · have := sub_pred p (g_rs T) m hsub m1 c2
              omega
            · have : m = p := by omega
              subst this
              exact Or.inr m3
      · rintro q ⟨m, m1, m2, m3⟩
        have := pred_lt (s := g_rs T) hp
        exact ⟨m, m1, by omega, m3⟩
      · exact ⟨p, hsub, Or.inr (pred_lt hp), rfl⟩) (by
      rintro ⟨a3, a4⟩ ⟨q1, x, q2, q3⟩
      simp only at q1 q2
      subst q1 q2
      refine ⟨nI x, ?_, x, rfl, q3⟩
      show fX4_leastPrice_S18 (nI T) (nI (g_rs T)) σ (nI x) (nI 0) = _
      unfold fX4_leastPrice_S18
      rw [if_pos (by decide)]) (F := 100000) (st := (nI (p_c a (p_pr a) T (2 ^ g_lt T)), nI (g_rs T))) ⟨rfl, _, rfl, p0.2, by
        rintro q ⟨m, m1, m2, m3⟩
        have := sub_le m1
        have hm : m = 0 := by omega
        subst hm
        rw [m3, Nat.zero_xor]
        exact Nat.le_refl _, Or.inr ⟨2 ^ g_lt T, ⟨0, hz, Or.inl rfl, (Nat.zero_xor _).symm⟩, rfl⟩⟩ (by omega)
  have hxe : x = p_pr a T := is_uniq (is_iff e3 (fun q => ⟨fun ⟨m, m1, _, m3⟩ => by
      rw [m3]
      exact (sub_with (S := T) (x := g_lt T) (m := m) l2).mpr (by rw [l5]; exact m1), fun hq => by
      have he : (q ^^^ 2 ^ g_lt T) ^^^ 2 ^ g_lt T = q := by rw [Nat.xor_assoc, Nat.xor_self, Nat.xor_zero]
      refine ⟨q ^^^ 2 ^ g_lt T, ?_, by omega, he.symm⟩
      have := (sub_with (S := T) (x := g_lt T) (m := q ^^^ 2 ^ g_lt T) l2).mp (by rw [he]; exact hq)
      rw [l5] at this
      exact this⟩)) (p_ok a h0)
  have e0 : nI T &&& (nI T - 1) = nI (g_rs T) := by rw [n1, pk_sub (by omega), fa_and]; rfl
  unfold fX4_leastPrice
  rw [e0]
  simp only [ps_let]
  rw [nx_xor, t_low hT h0, p0.1, Option.bind_some, e1, Option.bind_some, e2, hxe]
theorem c_priceParts {σ : ps_S} {a : gG} {S : Nat} (h : c_G σ 1 a) (hw : g_wf a) (hS : S < 256) : ∃ τ, fX4_priceParts (nI S) σ = some τ ∧ ps_fr (fun q => q = 42) σ τ ∧ ∀ U, g_sub U S → τ.1 42 U = nI (p_pr a U) := by
  obtain ⟨τ, t1, t2, t3⟩ := ps_for (step := fun s => fX4_priceParts_S9 (nI S) s.1 s.2) S (fun i q => q.1 = nI (i + 1) ∧ ps_fr (fun q => q = 42) σ q.2 ∧ ∀ U, U ≤ i → g_sub U S → q.2.1 42 U = nI (p_pr a U)) (fun τ => ps_fr (fun q => q = 42) σ τ ∧ ∀ U, U ≤ S → g_sub U S → τ.1 42 U = nI (p_pr a U)) (F := 100000) (s := (nI 1, ps_ui σ 42 0 0)) (by
      rintro i ⟨c, τ⟩ hi ⟨e, hf, hv⟩
      simp only at e hf hv
      subst e
      have hG := c_G_fr42 h hf
      have hdl := df_le (i + 1) S
      by_cases c : g_df (i + 1) S = 0
      · have hl := c_leastPrice (T := i + 1) hG hw (by omega) (by omega) (fun U h1 h2 => hv U (by omega) (fun t ht => df_sub.mp c t (h1 t ht)))
        refine ⟨(nI (i + 1 + 1), ps_ui τ 42 (i + 1) (nI (p_pr a (i + 1)))), ?_, rfl, hf.tr (ps_fr_ui rfl), fun U h1 h2 => ?_⟩
        · show fX4_priceParts_S9 (nI S) (nI (i + 1)) τ = _
          unfold fX4_priceParts_S9 fX4_priceParts_J33
          simp only [ps_let]
          rw [if_neg (nI_nlt (by omega) (by omega)), df_int, c, if_pos (by decide), hl, Option.bind_some, pk_ok (by omega) (by decide), nI_clamp (by omega), nI_1]
        · show (ps_ui τ 42 (i + 1) _).1 42 U = _
          rw [pu_i]
          by_cases d : U = i + 1
          · rw [if_pos ⟨rfl, d⟩, d]
          · rw [if_neg (fun q => d q.2)]
            exact hv U (by omega) h2
      · refine ⟨(nI (i + 1 + 1), τ), ?_, rfl, hf, fun U h1 h2 => ?_⟩
        · show fX4_priceParts_S9 (nI S) (nI (i + 1)) τ = _
          unfold fX4_priceParts_S9 fX4_priceParts_J33
          simp only [ps_let]
          rw [if_neg (nI_nlt (by omega) (by omega)), df_int, if_neg (fun q => c ((nI0_iff (by omega)).mp q)), nI_1]
        · by_cases d : U = i + 1
          · subst d; exact absurd (df_sub.mpr h2) c
          · exact hv U (by omega) h2) (by
      rintro ⟨c, τ⟩ ⟨e, hf, hv⟩
      simp only at e hf hv
      subst e
      refine ⟨τ, ?_, hf, hv⟩
      show fX4_priceParts_S9 (nI S) (nI (S + 1)) τ = _
      unfold fX4_priceParts_S9
      rw [if_pos (nI_lt (by omega) (by omega))]) ⟨rfl, ps_fr_ui rfl, fun U h1 _ => by
        have : U = 0 := by omega
        subst this
        show (ps_ui σ 42 0 0).1 42 0 = _
        rw [pu_i, if_pos ⟨rfl, rfl⟩]
        exact congrArg nI (p_F_0 a 0).symm⟩ (by omega)
  refine ⟨τ, ?_, t2, fun U h1 => t3 U (sub_le h1) h1⟩
  have o0 : ∀ {α : Type} {y : Option α}, ps_ck (0 : Int32) 256 y = y := fun {_ _} => pk_ok (i := 0) (by decide) (by decide)
  unfold fX4_priceParts
  rw [o0, show Int32.toNatClampNeg 0 = 0 from rfl]
  simp only [ps_let]
  rw [n1, t1, Option.bind_some]
/-- the model -/
def p_e (x : Nat) : Int32 := if x < 1000000 then nI x else -1
theorem nI_n1 {x : Nat} (h : x < 2 ^ 31) : nI x ≠ -1 := fun q => by
  have := congrArg Int32.toInt q
  rw [nI_toInt h] at this
  have e : (-1 : Int32).toInt = -1 := by decide
  rw [e] at this
  omega
theorem p_e_no {x : Nat} (h : ¬ x < 1000000) : p_e x = -1 := if_neg h
theorem p_e_yes {x : Nat} (h : x < 1000000) : p_e x = nI x := if_pos h
theorem m_price1 {σ : ps_S} {a : gG} {T : Nat} (h : m_G σ 47 0 a) (hw : g_wf a) (hT : T < 256) (h0 : T ≠ 0) (hv : ∀ U, U < T → σ.1 55 U = p_e (p_pr a U)) (hz : σ.1 55 T = -1) : ∃ τ, ps_lp (fun q => fX5_laysPrices_S26 (nI T) q.1 q.2) 100000 (nI T, σ) = some τ ∧ ps_fr (fun q => q = 55) σ τ ∧ τ.1 55 T = p_e (p_pr a T) ∧ ∀ x, x ≠ T → τ.1 55 x = σ.1 55 x := by
  have key : ∃ τ, ps_lp (fun q => fX5_laysPrices_S26 (nI T) q.1 q.2) 100000 (nI T, σ) = some τ ∧ ps_fr (fun q => q = 55) σ τ ∧ (∃ x, τ.1 55 T = p_e x ∧ p_is (fun q => g_sub q T ∧ q.testBit (g_lt T) = true ∧ 0 < q) (p_c a (p_pr a) T) x) ∧ ∀ x, x ≠ T → τ.1 55 x = σ.1 55 x := by
    refine ps_subs (step := fun q => fX5_laysPrices_S26 (nI T) q.1 q.2) T (fun p q => q.1 = nI p ∧ ps_fr (fun q => q = 55) σ q.2 ∧ (∃ x, q.2.1 55 T = p_e x ∧ p_is (fun q => g_sub q T ∧ q.testBit (g_lt T) = true ∧ p < q) (p_c a (p_pr a) T) x) ∧ ∀ x, x ≠ T → q.2.1 55 x = σ.1 55 x) (fun τ => ps_fr (fun q => q = 55) σ τ ∧ (∃ x, τ.1 55 T = p_e x ∧ p_is (fun q => g_sub q T ∧ q.testBit (g_lt T) = true ∧ 0 < q) (p_c a (p_pr a) T) x) ∧ ∀ x, x ≠ T → τ.1 55 x = σ.1 55 x) ?_ ?_ ⟨rfl, ps_fr.rf, ⟨1000000, by rw [hz]; rfl, Nat.le_refl _, fun q hq => by
        have := sub_le hq.1
        omega, Or.inl rfl⟩, fun _ _ => rfl⟩ (by omega)
    · rintro p ⟨c, τ⟩ hp hsub ⟨e, hf, ⟨x, hx, hi⟩, ho⟩
      simp only at e hf hx ho
      subst e
      have hps := sub_le hsub
      have hG := h.fr hf (by decide)
      have hlow := low_test (S := T) (p := p) hT h0
      have hlt := x_lt hsub hp
      have hxl := hi.1
      have hnext : ∀ q, g_sub q T → (p - 1) &&& T < q → p < q ∨ q = p := fun q h1 h2 => by
        by_cases c : q < p
        · have := sub_pred p T q hsub h1 c
          omega
        · omega
      have hprev : ∀ q, p < q → (p - 1) &&& T < q := fun q hq => by have := pred_lt (s := T) hp; omega
      have w55 : τ.1 55 (T ^^^ p) = p_e (p_pr a (T ^^^ p)) := by rw [ho _ (by omega)]; exact hv _ hlt
      have hple := p_le hw (T := T ^^^ p) (by omega)
      have hwp := hw.2.1 p
      cases hb : p.testBit (g_lt T)
      · refine ⟨(nI ((p - 1) &&& T), τ), ?_, rfl, hf, ⟨x, hx, is_iff hi (fun q => ⟨fun hq => ⟨hq.1, hq.2.1, hprev q hq.2.2⟩, fun hq => ⟨hq.1, hq.2.1, ?_⟩⟩)⟩, ho⟩
        · show fX5_laysPrices_S26 (nI T) (nI p) τ = _
          unfold fX5_laysPrices_S26 fX5_laysPrices_J111
          simp only [ps_let]
          rw [if_neg (nI_nle hp (by omega)), if_pos (hlow.mpr hb), n1, pk_sub (by omega), fa_and]
        · rcases hnext q hq.1 hq.2.2 with c | c
          · exact c
          · subst c; rw [hb] at hq; exact absurd hq.2.1 (by decide)
      · have hnl : ¬ ((nI p &&& nI T) &&& (-nI T)) = 0 := fun q => by rw [hlow.mp q] at hb; exact absurd hb (by decide)
        have hi' : p_is (fun q => g_sub q T ∧ q.testBit (g_lt T) = true ∧ (p - 1) &&& T < q) (p_c a (p_pr a) T) (if p_c a (p_pr a) T p < x then p_c a (p_pr a) T p else x) := is_step hi (fun q hq => by
            rcases hnext q hq.1 hq.2.2 with c | c
            · exact Or.inl ⟨hq.1, hq.2.1, c⟩
            · exact Or.inr c) (fun q hq => ⟨hq.1, hq.2.1, hprev q hq.2.2⟩) ⟨hsub, hb, pred_lt hp⟩
        have skip : p_c a (p_pr a) T p = 1000000 → (if p_c a (p_pr a) T p < x then p_c a (p_pr a) T p else x) = x := fun q => if_neg (by omega)
        by_cases t0 : 0 < g_w a p
        · by_cases t1 : p_pr a (T ^^^ p) < 1000000
          · have hc : p_c a (p_pr a) T p = g_w a p + p_pr a (T ^^^ p) := by
              unfold p_c
              rw [if_neg (by omega), if_pos t1]
            have w47 : τ.1 47 (1 + p) = nI (g_w a p) := by
              have := hG.2.1 p (by omega)
              rw [show 0 + 1 + p = 1 + p by omega] at this
              exact this
            have hne : ¬ p_e (p_pr a (T ^^^ p)) = -1 := by rw [p_e_yes t1]; exact nI_n1 (by omega)
            have pre : fX5_laysPrices_S26 (nI T) (nI p) τ = if p_e x = -1 then fX5_laysPrices_J104 (nI T) (nI p) (nI (g_w a p + p_pr a (T ^^^ p))) τ else if p_e x ≤ nI (g_w a p + p_pr a (T ^^^ p)) then fX5_laysPrices_J111 (nI T) (nI p) τ else fX5_laysPrices_J104 (nI T) (nI p) (nI (g_w a p + p_pr a (T ^^^ p))) τ := by
              unfold fX5_laysPrices_S26
              simp only [ps_let]
              rw [if_neg (nI_nle hp (by omega)), if_neg hnl, m_isTold hG hw (by omega), Option.bind_some, if_pos t0, if_neg (by decide), df_int, df_xor hsub, pk_ok (by omega) (by decide), nI_clamp (by omega), w55, if_neg hne, n1, nI_add, pk_ok (by omega) (by decide), pk_ok (by omega) (by decide), nI_clamp (show 1 + p < 2 ^ 31 by omega), w47, p_e_yes t1, nI_add, pk_ok (by omega) (by decide), nI_clamp (by omega), hx, pk_ok (by omega) (by decide)]
            have set : p_c a (p_pr a) T p < x → ∃ s', fX5_laysPrices_J104 (nI T) (nI p) (nI (g_w a p + p_pr a (T ^^^ p))) τ = some (.inl s') ∧ s'.1 = nI ((p - 1) &&& T) ∧ ps_fr (fun q => q = 55) σ s'.2 ∧ (∃ x, s'.2.1 55 T = p_e x ∧ p_is (fun q => g_sub q T ∧ q.testBit (g_lt T) = true ∧ (p - 1) &&& T < q) (p_c a (p_pr a) T) x) ∧ ∀ x, x ≠ T → s'.2.1 55 x = σ.1 55 x := fun hcx => by
              refine ⟨(nI ((p - 1) &&& T), ps_ui τ 55 T (nI (g_w a p + p_pr a (T ^^^ p)))), ?_, rfl, hf.tr (ps_fr_ui rfl), ⟨_, ?_, hi'⟩, fun y hy => ?_⟩
              · unfold fX5_laysPrices_J104 fX5_laysPrices_J111
                simp only [ps_let]
                rw [pk_ok (by omega) (by decide), nI_clamp (by omega), n1, pk_sub (by omega), fa_and]
              · show (ps_ui τ 55 T _).1 55 T = _
                rw [pu_i, if_pos ⟨rfl, rfl⟩, if_pos hcx, hc, p_e_yes (by omega)]
              · show (ps_ui τ 55 T _).1 55 y = _
                rw [pu_i, if_neg (fun q => hy q.2)]
                exact ho y hy
            show ∃ s', fX5_laysPrices_S26 (nI T) (nI p) τ = some (.inl s') ∧ _
            rw [pre]
            by_cases t2 : x < 1000000
            · rw [p_e_yes t2, if_neg (nI_n1 (by omega))]
              by_cases t3 : x ≤ g_w a p + p_pr a (T ^^^ p)
              · rw [if_pos (nI_le t3 (by omega))]
                refine ⟨(nI ((p - 1) &&& T), τ), ?_, rfl, hf, ⟨_, ?_, hi'⟩, ho⟩
                · unfold fX5_laysPrices_J111
                  simp only [ps_let]
                  rw [n1, pk_sub (by omega), fa_and]
                · show τ.1 55 T = _
                  rw [hx, if_neg (by omega)]
              · rw [if_neg (nI_ge (by omega) (by omega))]
                exact set (by omega)
            · rw [p_e_no t2, if_pos rfl]
              exact set (by omega)
          · have hc : p_c a (p_pr a) T p = 1000000 := by
              unfold p_c
              rw [if_neg (by omega), if_neg t1]
            rw [skip hc] at hi'
            refine ⟨(nI ((p - 1) &&& T), τ), ?_, rfl, hf, ⟨x, hx, hi'⟩, ho⟩
            show fX5_laysPrices_S26 (nI T) (nI p) τ = _
            unfold fX5_laysPrices_S26 fX5_laysPrices_J111
            simp only [ps_let]
            rw [if_neg (nI_nle hp (by omega)), if_neg hnl, m_isTold hG hw (by omega), Option.bind_some, if_pos t0, if_neg (by decide), df_int, df_xor hsub, pk_ok (by omega) (by decide), nI_clamp (by omega), w55, p_e_no t1, if_pos rfl, n1, pk_sub (by omega), fa_and]
        · have hc : p_c a (p_pr a) T p = 1000000 := by
            unfold p_c
            rw [if_pos (by omega)]
          rw [skip hc] at hi'
          refine ⟨(nI ((p - 1) &&& T), τ), ?_, rfl, hf, ⟨x, hx, hi'⟩, ho⟩
          show fX5_laysPrices_S26 (nI T) (nI p) τ = _
          unfold fX5_laysPrices_S26 fX5_laysPrices_J111
          simp only [ps_let]
          rw [if_neg (nI_nle hp (by omega)), if_neg hnl, m_isTold hG hw (by omega), Option.bind_some, if_neg t0, if_pos rfl, n1, pk_sub (by omega), fa_and]
    · rintro ⟨c, τ⟩ ⟨e, hf, hx, ho⟩
      simp only at e hf hx ho
      subst e
      refine ⟨τ, ?_, hf, hx, ho⟩
      show fX5_laysPrices_S26 (nI T) (nI 0) τ = _
      unfold fX5_laysPrices_S26
      rw [if_pos (by decide)]
  obtain ⟨τ, t1, t2, ⟨x, t3, t4⟩, t5⟩ := key
  refine ⟨τ, t1, t2, ?_, t5⟩
  rw [t3, is_uniq (is_iff t4 (fun q => ⟨fun hq => ⟨hq.1, hq.2.1⟩, fun hq => ⟨hq.1, hq.2, bit_pos hq.2⟩⟩)) (p_ok a h0)]
theorem m_laysPrices {σ : ps_S} {a : gG} (h : m_G σ 47 0 a) (hw : g_wf a) (hn : g_n a ≠ 0) : ∃ τ, fX5_laysPrices σ = some τ ∧ ps_fr (fun q => q = 55) σ τ ∧ ∀ T, T < 2 ^ g_n a → τ.1 55 T = p_e (p_pr a T) := by
  have h8 := hw.1
  have h2 := p2_le _ h8
  have h3 := p2_pos (g_n a)
  obtain ⟨τ, t1, t2, t3⟩ := ps_for (step := fun q => fX5_laysPrices_S9 q.1 q.2) (2 ^ g_n a - 1) (fun i q => q.1 = nI (i + 1) ∧ ps_fr (fun q => q = 55) σ q.2 ∧ ∀ T, T ≤ i → q.2.1 55 T = p_e (p_pr a T)) (fun τ => ps_fr (fun q => q = 55) σ τ ∧ ∀ T, T ≤ 2 ^ g_n a - 1 → τ.1 55 T = p_e (p_pr a T)) (F := 100000) (s := (nI 1, ps_ui σ 55 0 0)) (by
      rintro i ⟨c, τ⟩ hi ⟨e, hf, hv⟩
      simp only at e hf hv
      subst e
      have hG := h.fr hf (by decide)
      obtain ⟨υ, u1, u2, u3, u4⟩ := m_price1 (σ := ps_ui τ 55 (i + 1) (-1)) (T := i + 1) (m_G_ui hG (by decide)) hw (by omega) (by omega) (fun U hU => by
        rw [pu_i, if_neg (fun q => by omega)]; exact hv U (by omega)) (by rw [pu_i, if_pos ⟨rfl, rfl⟩])
      refine ⟨(nI (i + 1 + 1), υ), ?_, rfl, (hf.tr (ps_fr_ui rfl)).tr u2, fun T hT => ?_⟩
      · show fX5_laysPrices_S9 (nI (i + 1)) τ = _
        unfold fX5_laysPrices_S9
        rw [m_all hG hw, Option.bind_some, if_neg (nI_nlt (by omega) (by omega)), pk_ok (by omega) (by decide), nI_clamp (by omega)]
        simp only [ps_let]
        rw [u1, Option.bind_some, nI_1]
      · show υ.1 55 T = _
        by_cases c : T = i + 1
        · rw [c]; exact u3
        · rw [u4 T c, pu_i, if_neg (fun q => c q.2)]
          exact hv T (by omega)) (by
      rintro ⟨c, τ⟩ ⟨e, hf, hv⟩
      simp only at e hf hv
      subst e
      have hG := h.fr hf (by decide)
      refine ⟨τ, ?_, hf, hv⟩
      show fX5_laysPrices_S9 (nI (2 ^ g_n a - 1 + 1)) τ = _
      unfold fX5_laysPrices_S9
      rw [m_all hG hw, Option.bind_some, if_pos (nI_lt (by omega) (by omega))]) ⟨rfl, ps_fr_ui rfl, fun T hT => by
        have : T = 0 := by omega
        subst this
        show (ps_ui σ 55 0 0).1 55 0 = _
        rw [pu_i, if_pos ⟨rfl, rfl⟩, show p_pr a 0 = 0 from p_F_0 a 0]
        rfl⟩ (by omega)
  refine ⟨τ, ?_, t2, fun T hT => t3 T (by omega)⟩
  have o0 : ∀ {α : Type} {y : Option α}, ps_ck (0 : Int32) 256 y = y := fun {_ _} => pk_ok (i := 0) (by decide) (by decide)
  unfold fX5_laysPrices
  rw [o0, show Int32.toNatClampNeg 0 = 0 from rfl]
  simp only [ps_let]
  rw [n1, t1, Option.bind_some]
theorem op_cheapest {σ : ps_S} (x : Int32) (h : b_R σ) : ∃ (r : Int32) (τ υ : ps_S), fX4_cheapest x σ = some (r, τ) ∧ fX5_cheapest x τ = some (r, υ) ∧ b_R υ := by
  obtain ⟨A, hw, hc, hm⟩ := h
  have hm' := thr_R hm
  have hN := g_N_le hw.1
  rcases set_cases (a_g A) hw.1 x with hx | ⟨S, hS, rfl⟩
  · refine ⟨-1, σ, thr σ, ?_, ?_, b_keep hw hc hm' (thr_fr σ)⟩
    · unfold fX4_cheapest
      rw [c_hasSet_no hc.1 hw.1 hx]; rfl
    · unfold fX5_cheapest
      rw [ps_let, show ps_ui σ 45 0 0 = thr σ from rfl, m_isSet_no hm'.1 hw.1 hx]; rfl
  have hn : g_n (a_g A) ≠ 0 := fun q => by unfold g_N at hS; rw [if_pos q] at hS; omega
  have hNp := g_N_pos hn
  have h2 := p2_le _ hw.1.1
  obtain ⟨τ4, a1, a2, a3⟩ := c_priceParts (S := S) hc.1 hw.1 (by omega)
  have fc : ps_fr c_scr σ τ4 := a2.wk (fun k q => by unfold c_scr; omega)
  have hc4 : c_R τ4 A := c_R_scr hc fc
  have hmω : m_R (thr τ4) A := thr_R (m_R_c hm (fc.wk (fun k q => by unfold c_scr at q; unfold c_own; omega)))
  obtain ⟨ψ, y1, y2, y3⟩ := m_laysPrices hmω.1 hw.1 hn
  have f52 : ps_fr m_scr (thr τ4) ψ := y2.wk (fun k q => by unfold m_scr; omega)
  have hmψ : m_R ψ A := m_R_scr hmω f52
  have hle := p_le hw.1 (T := S) (by omega)
  refine ⟨p_e (p_pr (a_g A) S), τ4, ψ, ?_, ?_, b_keep hw hc4 hmψ ((thr_fr τ4).tr (scr_m f52))⟩
  · unfold fX4_cheapest
    rw [c_hasSet_yes hc.1 hw.1 hS, Option.bind_some, if_neg (by decide), a1, Option.bind_some, pk_ok (by omega) (by decide), pk_ok (by omega) (by decide), nI_clamp (by omega), a3 S (sub_refl S), nl_1000000]
    by_cases c : p_pr (a_g A) S < 1000000
    · rw [if_neg (nI_ge c (by omega)), p_e_yes c]
    · rw [if_pos (nI_le (by omega) (by omega)), p_e_no c]
  · unfold fX5_cheapest
    rw [ps_let, show ps_ui τ4 45 0 0 = thr τ4 from rfl, m_isSet_yes hmω.1 hw.1 hS, Option.bind_some, if_neg (by decide), y1, Option.bind_some, pk_ok (by omega) (by decide), nI_clamp (by omega), y3 S (by omega)]
