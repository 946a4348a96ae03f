/-! part: the sets of the cheapest parting -/
def p_f (a : gG) (T p : Nat) : Prop := (g_sub p T ∧ p.testBit (g_lt T) = true ∧ p_c a (p_pr a) T p = p_pr a T) ∧ ∀ q, q < p → ¬ (g_sub q T ∧ q.testBit (g_lt T) = true ∧ p_c a (p_pr a) T q = p_pr a T)
theorem n_least {P : Nat → Prop} : ∀ n, P n → ∃ m, P m ∧ ∀ q, q < m → ¬ P q := by
  intro n
  induction n using Nat.strongRecOn with
  | _ n ih =>
    intro hn
    rcases Classical.em (∃ q, q < n ∧ P q) with ⟨q, h1, h2⟩ | c
    · exact ih q h1 h2
    · exact ⟨n, hn, fun q h1 h2 => c ⟨q, h1, h2⟩⟩
noncomputable def p_1 (a : gG) (T : Nat) : Nat := @dite Nat (∃ p, p_f a T p) (Classical.propDecidable _) (fun h => Classical.choose h) (fun _ => 0)
theorem p_1_ok {a : gG} {T : Nat} (h0 : T ≠ 0) (hv : p_pr a T < 1000000) : p_f a T (p_1 a T) := by
  have h : ∃ p, p_f a T p := by
    rcases (p_ok a h0).2.2 with d | ⟨q, d, e⟩
    · omega
    · exact n_least (P := fun p => g_sub p T ∧ p.testBit (g_lt T) = true ∧ p_c a (p_pr a) T p = p_pr a T) q ⟨d.1, d.2, e.symm⟩
  unfold p_1
  rw [dif_pos h]
  exact Classical.choose_spec h
theorem p_1_0 (a : gG) : p_1 a 0 = 0 := by
  have h : ¬ ∃ p, p_f a 0 p := by
    rintro ⟨p, ⟨h1, h2, -⟩, -⟩
    have := sub_le h1
    have := bit_pos h2
    omega
  unfold p_1
  rw [dif_neg h]
/-- what is left when j sets are taken -/
noncomputable def p_R (a : gG) (S : Nat) : Nat → Nat
  | 0 => S
  | j + 1 => p_R a S j ^^^ p_1 a (p_R a S j)
theorem p_take {a : gG} {T : Nat} (hT : T < 256) (h0 : T ≠ 0) (hv : p_pr a T < 1000000) : g_sub (T ^^^ p_1 a T) T ∧ p_pr a (T ^^^ p_1 a T) < 1000000 ∧ g_bc (T ^^^ p_1 a T) + 1 ≤ g_bc T ∧ p_1 a T ≤ T ∧ 2 ^ g_lt T ≤ p_1 a T ∧ g_w a (p_1 a T) ≠ 0 ∧ g_w a (p_1 a T) + p_pr a (T ^^^ p_1 a T) = p_pr a T := by
  obtain ⟨⟨h1, h2, h3⟩, -⟩ := p_1_ok h0 hv
  obtain ⟨l1, l2, l3, l4, l5, -, l7⟩ := lt_ok T hT h0
  have hr : g_sub (T ^^^ p_1 a T) (g_rs T) := fun t ht => by
    rw [← l5, Nat.testBit_xor]
    have h5 := sub_rest h1 t ht
    by_cases c : t = g_lt T
    · subst c
      rw [Nat.testBit_xor, h2, l2] at ht
      exact absurd ht (by decide)
    · rw [h5, Nat.testBit_two_pow_of_ne (fun q => c q.symm)]; rfl
  have hb := bc_sub hr
  unfold p_c at h3
  by_cases c : g_w a (p_1 a T) = 0
  · rw [if_pos c] at h3; omega
  · rw [if_neg c] at h3
    by_cases c2 : p_pr a (T ^^^ p_1 a T) < 1000000
    · rw [if_pos c2] at h3
      exact ⟨sub_rest h1, c2, by omega, sub_le h1, Nat.ge_two_pow_of_testBit h2, c, h3⟩
    · rw [if_neg c2] at h3; omega
theorem p_R_ok {a : gG} {S : Nat} (hS : S < 256) (hv : p_pr a S < 1000000) : ∀ j, g_sub (p_R a S j) S ∧ p_pr a (p_R a S j) < 1000000 ∧ (p_R a S j ≠ 0 → g_bc (p_R a S j) + j ≤ 8) ∧ (p_R a S j = 0 → p_R a S (j + 1) = 0)
  | 0 => ⟨sub_refl S, hv, fun _ => g_bc_le S, fun h => by
      rw [p_R, h, p_1_0]; rfl⟩
  | j + 1 => by
    obtain ⟨h1, h2, h3, h4⟩ := p_R_ok hS hv j
    have hz : p_R a S (j + 1) = 0 → p_R a S (j + 1 + 1) = 0 := fun h => by
      rw [p_R, h, p_1_0]; rfl
    by_cases c : p_R a S j = 0
    · have h5 := h4 c
      rw [h5] at hz ⊢
      refine ⟨fun t ht => ?_, ?_, fun q => absurd rfl q, hz⟩
      · rw [Nat.zero_testBit] at ht; exact absurd ht (by decide)
      · rw [show p_pr a 0 = 0 from p_F_0 a 0]; omega
    · have hle := sub_le h1
      obtain ⟨k1, k2, k3, -⟩ := p_take (a := a) (by omega) c h2
      refine ⟨fun t ht => h1 t (k1 t ht), k2, fun _ => ?_, hz⟩
      have := h3 c
      show g_bc (p_R a S j ^^^ p_1 a (p_R a S j)) + (j + 1) ≤ 8
      omega
theorem p_R_z {a : gG} {S : Nat} (hS : S < 256) (hv : p_pr a S < 1000000) {j : Nat} (h : p_R a S j = 0) : ∀ i, j ≤ i → p_R a S i = 0 := by
  intro i hi
  obtain ⟨d, rfl⟩ := Nat.exists_eq_add_of_le hi
  clear hi
  induction d with
  | zero => exact h
  | succ d ih => exact (p_R_ok hS hv (j + d)).2.2.2 ih
theorem p_R_8 {a : gG} {S : Nat} (hS : S < 256) (hv : p_pr a S < 1000000) : p_R a S 8 = 0 := by
  obtain ⟨h1, h2, h3, h4⟩ := p_R_ok hS hv 8
  rcases Classical.em (p_R a S 8 = 0) with c | c
  · exact c
  · have := h3 c
    have hle := sub_le h1
    exact (bc_0 _ (by omega)).mp (by omega)
/-- the class -/
theorem c_firstPart {σ : ps_S} {a : gG} {T : Nat} (h : c_G σ 1 a) (hw : g_wf a) (hT : T < 256) (hp : p_pr a T < 1000000) (hv : ∀ U, g_sub U T → σ.1 42 U = nI (p_pr a U)) : fX4_firstPart (nI T) σ = some (nI (p_1 a T)) := by
  by_cases h0 : T = 0
  · subst h0
    have hl : ps_lp (fun s => fX4_firstPart_S7 (nI 0) (nI 0 &&& (-nI 0)) σ s) 100000 (1 : Int32) = some (.inr ()) := by
      have : fX4_firstPart_S7 (nI 0) (nI 0 &&& (-nI 0)) σ 1 = some (.inr (.inr ())) := by
        unfold fX4_firstPart_S7
        rw [if_pos (by decide)]
      exact lp_out this
    unfold fX4_firstPart
    rw [ps_let, hl, Option.bind_some, p_1_0]
    rfl
  · obtain ⟨⟨k1, k2, k3⟩, k4⟩ := p_1_ok h0 hp
    obtain ⟨l1, l2, -⟩ := lt_ok T hT h0
    have hle := sub_le k1
    have hpos := bit_pos k2
    have hpw : ∀ q, g_sub q T → fX4_priceWith (nI T) (nI q) σ = some (nI (p_c a (p_pr a) T q)) ∧ p_c a (p_pr a) T q ≤ 1000000 := fun q hq => by
      have h1 := sub_le hq
      have h2 := sub_le (sub_rest hq)
      exact ⟨c_priceWith h hw hT (by omega) (hv _ (sub_rest hq)), p_c_le hw (by omega)⟩
    obtain ⟨e, e1, e2⟩ := ps_for (step := fun s => fX4_firstPart_S7 (nI T) (nI (2 ^ g_lt T)) σ s) (p_1 a T - 1) (fun i s => s = nI (i + 1)) (fun e => e = .inl (nI (p_1 a T))) (F := 100000) (s := (1 : Int32)) (by
        rintro i s hi rfl
        refine ⟨nI (i + 1 + 1), ?_, rfl⟩
        have hd := df_le (i + 1) T
        show fX4_firstPart_S7 (nI T) (nI (2 ^ g_lt T)) σ (nI (i + 1)) = _
        unfold fX4_firstPart_S7 fX4_firstPart_J30 fX4_firstPart_J31 fX4_firstPart_J55
        simp only [ps_let]
        rw [if_neg (nI_nlt (by omega) (by omega)), df_int, nI_1]
        by_cases c : g_df (i + 1) T = 0
        · have hs := df_sub.mp c
          rw [if_pos ((nI0_iff (by omega)).mpr c)]
          cases hb : (i + 1).testBit (g_lt T)
          · rw [if_pos ((fa_bit (by omega)).mpr hb), if_pos trivial]
          · rw [if_neg (fun q => by rw [(fa_bit (by omega)).mp q] at hb; exact absurd hb (by decide)), if_neg (by decide), (hpw _ hs).1, Option.bind_some, pk_ok (by omega) (by decide), nI_clamp (by omega), hv T (sub_refl T), if_neg (fun q => k4 (i + 1) (by omega) ⟨hs, hb, (nI_eq (by have := (hpw _ hs).2; omega) (by omega)).mp q⟩)]
        · rw [if_neg (fun q => c ((nI0_iff (by omega)).mp q)), if_pos trivial]) (by
        rintro s rfl
        refine ⟨.inl (nI (p_1 a T)), ?_, rfl⟩
        rw [show p_1 a T - 1 + 1 = p_1 a T by omega]
        show fX4_firstPart_S7 (nI T) (nI (2 ^ g_lt T)) σ (nI (p_1 a T)) = _
        unfold fX4_firstPart_S7 fX4_firstPart_J31
        rw [if_neg (nI_nlt (by omega) (by omega)), df_int, df_sub.mpr k1, if_pos (by decide), if_neg (fun q => by rw [(fa_bit (by omega)).mp q] at k2; exact absurd k2 (by decide)), if_neg (by decide), (hpw _ k1).1, Option.bind_some, pk_ok (by omega) (by decide), nI_clamp (by omega), hv T (sub_refl T), k3, if_pos rfl]) rfl (by omega)
    unfold fX4_firstPart
    rw [ps_let, low_int T hT h0, e1, Option.bind_some, e2]
theorem c_partWalk {σ : ps_S} {a : gG} {S i : Nat} (h : c_G σ 1 a) (hw : g_wf a) (hS : S < 256) (hp : p_pr a S < 1000000) (hi : i < 100) (hv : ∀ U, g_sub U S → σ.1 42 U = nI (p_pr a U)) : ps_lp (fun s => fX4_partOrNone_S46 (nI i) σ s.1 s.2) 100000 (nI S, (0 : Int32)) = some (nI (p_R a S i)) := by
  obtain ⟨e, e1, e2⟩ := ps_for (step := fun s => fX4_partOrNone_S46 (nI i) σ s.1 s.2) i (fun j s => s.1 = nI (p_R a S j) ∧ s.2 = nI j) (fun e => e = nI (p_R a S i)) (F := 100000) (s := (nI S, (0 : Int32))) (by
      rintro j ⟨x, y⟩ hj ⟨q1, q2⟩
      simp only at q1 q2
      subst q1 q2
      obtain ⟨h1, h2, -, -⟩ := p_R_ok hS hp j
      have hle := sub_le h1
      refine ⟨(nI (p_R a S (j + 1)), nI (j + 1)), ?_, rfl, rfl⟩
      show fX4_partOrNone_S46 (nI i) σ (nI (p_R a S j)) (nI j) = _
      unfold fX4_partOrNone_S46
      rw [if_neg (nI_ge hj (by omega)), c_firstPart h hw (by omega) h2 (fun U hU => hv U (fun t ht => h1 t (hU t ht))), Option.bind_some]
      simp only [ps_let]
      rw [nx_xor, nI_1]
      rfl) (by
      rintro ⟨x, y⟩ ⟨q1, q2⟩
      simp only at q1 q2
      subst q1 q2
      refine ⟨_, ?_, rfl⟩
      show fX4_partOrNone_S46 (nI i) σ (nI (p_R a S i)) (nI i) = _
      unfold fX4_partOrNone_S46
      rw [if_pos (nI_le (by omega) (by omega))]) ⟨rfl, rfl⟩ (by omega)
  rw [e1, e2]
/-- the model -/
theorem m_first {σ : ps_S} {a : gG} {T : Nat} {a2 a4 : Int32} (h : m_G σ 47 0 a) (hw : g_wf a) (hT : T < 256) (h0 : T ≠ 0) (hp : p_pr a T < 1000000) (hv : ∀ U, g_sub U T → σ.1 55 U = p_e (p_pr a U)) : ps_lp (fun s => fX5_part_S56 a2 (nI T) a4 σ s) 100000 (nI (2 ^ g_lt T)) = some (nI (p_1 a T)) := by
  obtain ⟨⟨k1, k2, k3⟩, k4⟩ := p_1_ok h0 hp
  obtain ⟨-, t2, -, t4, t5, t6, t7⟩ := p_take hT h0 hp
  obtain ⟨l1, l2, -⟩ := lt_ok T hT h0
  have w47 : ∀ q, q < 256 → σ.1 47 (1 + q) = nI (g_w a q) := fun q hq => by
    have := h.2.1 q hq
    rw [show 0 + 1 + q = 1 + q by omega] at this
    exact this
  have hpp := Nat.two_pow_pos (g_lt T)
  have w55 := hv T (sub_refl T)
  rw [p_e_yes hp] at w55
  obtain ⟨e, e1, e2⟩ := ps_for (step := fun s => fX5_part_S56 a2 (nI T) a4 σ s) (p_1 a T - 2 ^ g_lt T) (fun i s => s = nI (2 ^ g_lt T + i)) (fun e => e = nI (p_1 a T)) (F := 100000) (s := nI (2 ^ g_lt T)) (by
      rintro i s hi rfl
      refine ⟨nI (2 ^ g_lt T + (i + 1)), ?_, rfl⟩
      have hq : ∃ q, q = 2 ^ g_lt T + i := ⟨_, rfl⟩
      obtain ⟨q, hq⟩ := hq
      rw [show 2 ^ g_lt T + (i + 1) = q + 1 by omega, ← hq]
      have hd := df_le q T
      show fX5_part_S56 a2 (nI T) a4 σ (nI q) = _
      have hlow := low_test (S := T) (p := q) hT h0
      by_cases c : g_df q T = 0
      · have hs := df_sub.mp c
        have hx := sub_le (sub_rest hs)
        cases hb : q.testBit (g_lt T)
        · unfold fX5_part_S56 fX5_part_J129
          simp only [ps_let]
          rw [df_int, if_pos ((nI0_iff (by omega)).mpr c), if_pos (hlow.mpr hb), nI_1]
        · have hnl : ¬ ((nI q &&& nI T) &&& (-nI T)) = 0 := fun z => by rw [hlow.mp z] at hb; exact absurd hb (by decide)
          have hne : p_c a (p_pr a) T q ≠ p_pr a T := fun z => k4 q (by omega) ⟨hs, hb, z⟩
          by_cases c1 : 0 < g_w a q
          · by_cases c2 : p_pr a (T ^^^ q) < 1000000
            · have hc : p_c a (p_pr a) T q = g_w a q + p_pr a (T ^^^ q) := by
                unfold p_c
                rw [if_neg (by omega), if_pos c2]
              rw [hc] at hne
              have hwq := hw.2.1 q
              have hle2 := p_le hw (T := T ^^^ q) (by omega)
              unfold fX5_part_S56 fX5_part_J129
              simp only [ps_let]
              rw [df_int, if_pos ((nI0_iff (by omega)).mpr c), if_neg hnl, m_isTold h hw (by omega), Option.bind_some, if_pos c1, if_neg (by decide), df_int, df_xor hs, pk_ok (by omega) (by decide), nI_clamp (by omega), hv _ (sub_rest hs), p_e_yes c2, if_neg (nI_n1 (by omega)), n1, nI_add, pk_ok (by omega) (by decide), pk_ok (by omega) (by decide), pk_ok (by omega) (by decide), nI_clamp (show 1 + q < 2 ^ 31 by omega), nI_clamp (show T < 2 ^ 31 by omega), w47 q (by omega), w55, nI_add, if_neg (fun z => hne ((nI_eq (by omega) (by omega)).mp z)), nI_add]
            · unfold fX5_part_S56 fX5_part_J129
              simp only [ps_let]
              rw [df_int, if_pos ((nI0_iff (by omega)).mpr c), if_neg hnl, m_isTold h hw (by omega), Option.bind_some, if_pos c1, if_neg (by decide), df_int, df_xor hs, pk_ok (by omega) (by decide), nI_clamp (by omega), hv _ (sub_rest hs), p_e_no c2, if_pos rfl, nI_1]
          · unfold fX5_part_S56 fX5_part_J129
            simp only [ps_let]
            rw [df_int, if_pos ((nI0_iff (by omega)).mpr c), if_neg hnl, m_isTold h hw (by omega), Option.bind_some, if_neg c1, if_pos rfl, nI_1]
      · unfold fX5_part_S56 fX5_part_J129
        simp only [ps_let]
        rw [df_int, if_neg (fun z => c ((nI0_iff (by omega)).mp z)), nI_1]) (by
      rintro s rfl
      refine ⟨_, ?_, rfl⟩
      rw [show 2 ^ g_lt T + (p_1 a T - 2 ^ g_lt T) = p_1 a T by omega]
      show fX5_part_S56 a2 (nI T) a4 σ (nI (p_1 a T)) = _
      have hlow := low_test (S := T) (p := p_1 a T) hT h0
      have hnl : ¬ ((nI (p_1 a T) &&& nI T) &&& (-nI T)) = 0 := fun z => by rw [hlow.mp z] at k2; exact absurd k2 (by decide)
      have hx := sub_le (sub_rest k1)
      have hwq := hw.2.1 (p_1 a T)
      unfold fX5_part_S56
      rw [df_int, df_sub.mpr k1, if_pos (by decide), if_neg hnl, m_isTold h hw (by omega), Option.bind_some, if_pos (show 0 < g_w a (p_1 a T) by omega), if_neg (by decide), df_int, df_xor k1, pk_ok (by omega) (by decide), nI_clamp (by omega), hv _ (sub_rest k1), p_e_yes t2, if_neg (nI_n1 (by omega)), n1, nI_add, pk_ok (by omega) (by decide), pk_ok (by omega) (by decide), pk_ok (by omega) (by decide), nI_clamp (show 1 + p_1 a T < 2 ^ 31 by omega), nI_clamp (show T < 2 ^ 31 by omega), w47 _ (by omega), w55, nI_add, t7, if_pos rfl]) rfl (by omega)
  rw [e1, e2]
theorem m_walk {σ : ps_S} {a : gG} {S i : Nat} (h : m_G σ 47 0 a) (hw : g_wf a) (hS : S < 256) (hp : p_pr a S < 1000000) (hi : i < 2 ^ 31) (hv : ∀ U, g_sub U S → σ.1 55 U = p_e (p_pr a U)) : ps_lp (fun s => fX5_part_S46 (nI i) σ s.1 s.2) 100000 (nI S, (0 : Int32)) = some (if p_R a S i = 0 then .inr () else .inl (nI (p_1 a (p_R a S i)))) := by
  have stepOk : ∀ j, p_R a S j ≠ 0 → j < 100 → ps_lp (fun s => fX5_part_S56 (nI i) (nI (p_R a S j)) (nI j) σ s) 100000 (nI (p_R a S j) &&& (-nI (p_R a S j))) = some (nI (p_1 a (p_R a S j))) := fun j hj _ => by
    obtain ⟨h1, h2, -, -⟩ := p_R_ok hS hp j
    have hle := sub_le h1
    rw [low_int _ (by omega) hj]
    exact m_first h hw (by omega) hj h2 (fun U hU => hv U (fun t ht => h1 t (hU t ht)))
  have go : ∀ j, p_R a S j ≠ 0 → j < 100 → j ≠ i → fX5_part_S46 (nI i) σ (nI (p_R a S j)) (nI j) = some (.inl (nI (p_R a S (j + 1)), nI (j + 1))) := fun j hj hl hne => by
    obtain ⟨h1, h2, -, -⟩ := p_R_ok hS hp j
    have hle := sub_le h1
    have k1 := (p_1_ok hj h2).1.1
    unfold fX5_part_S46
    rw [if_neg (fun q => hj ((nI0_iff (by omega)).mp q)), ps_let, stepOk j hj hl, Option.bind_some, if_neg (fun q => hne ((nI_eq (by omega) hi).mp q))]
    simp only [ps_let]
    rw [df_int, df_xor k1, nI_1]
    rfl
  have hex : ∃ N, (p_R a S N = 0 ∨ N = i) ∧ ∀ j, j < N → ¬ (p_R a S j = 0 ∨ j = i) := n_least (P := fun N => p_R a S N = 0 ∨ N = i) i (Or.inr rfl)
  obtain ⟨N, hN, hlt⟩ := hex
  have hN8 : N ≤ 8 := by
    rcases Nat.lt_or_ge 8 N with c | c
    · exact absurd (Or.inl (p_R_8 hS hp)) (hlt 8 c)
    · exact c
  have hNi : N ≤ i := by
    rcases Nat.lt_or_ge i N with c | c
    · exact absurd (Or.inr rfl) (hlt i c)
    · exact c
  obtain ⟨e, e1, e2⟩ := ps_for (step := fun s => fX5_part_S46 (nI i) σ s.1 s.2) N (fun j s => s.1 = nI (p_R a S j) ∧ s.2 = nI j) (fun e => e = if p_R a S i = 0 then .inr () else .inl (nI (p_1 a (p_R a S i)))) (F := 100000) (s := (nI S, (0 : Int32))) (by
      rintro j ⟨x, y⟩ hj ⟨q1, q2⟩
      simp only at q1 q2
      subst q1 q2
      have := hlt j hj
      exact ⟨_, go j (fun q => this (Or.inl q)) (by omega) (fun q => this (Or.inr q)), rfl, rfl⟩) (by
      rintro ⟨x, y⟩ ⟨q1, q2⟩
      simp only at q1 q2
      subst q1 q2
      refine ⟨_, ?_, rfl⟩
      show fX5_part_S46 (nI i) σ (nI (p_R a S N)) (nI N) = _
      by_cases c : p_R a S N = 0
      · unfold fX5_part_S46
        rw [c, if_pos (by decide), if_pos (p_R_z hS hp c i hNi)]
      · have hNe : N = i := by
          rcases hN with q | q
          · exact absurd q c
          · exact q
        obtain ⟨h1, h2, -, -⟩ := p_R_ok hS hp N
        have hle := sub_le h1
        unfold fX5_part_S46
        rw [if_neg (fun q => c ((nI0_iff (by omega)).mp q)), ps_let, stepOk N c (by omega), Option.bind_some, if_pos (congrArg nI hNe), ← hNe, if_neg c]) ⟨rfl, rfl⟩ (by omega)
  rw [e1, e2]
theorem op_part {σ : ps_S} (x y : Int32) (h : b_R σ) : ∃ (t : Int32) (q : ps_S) (e : Int32) (υ : ps_S), fL_part x y σ = some (t, q) ∧ fX5_part x y q = some (e, υ) ∧ υ.1 45 0 = t ∧ (t = 0 → υ.2 59 0 = Int32.toInt64 e) ∧ b_R υ := by
  obtain ⟨A, hw, hc, hm⟩ := h
  have hN := g_N_le hw.1
  have ref : ∀ (τ χ : ps_S), fX4_partOrNone x y σ = some (-1, τ) → c_R τ A → m_R χ A → ps_fr m_own τ χ → fX5_part x y τ = some (0, ps_ui χ 45 0 1) → ∃ (t : Int32) (q : ps_S) (e : Int32) (υ : ps_S), fL_part x y σ = some (t, q) ∧ fX5_part x y q = some (e, υ) ∧ υ.1 45 0 = t ∧ (t = 0 → υ.2 59 0 = Int32.toInt64 e) ∧ b_R υ := fun τ χ h1 h2 h3 h4 h5 => by
    refine ⟨1, τ, 0, ps_ui χ 45 0 1, ?_, h5, ?_, fun q => absurd q (by decide), b_keep hw h2 (m_R_45 h3 (by decide) (by decide) (by decide)) (h4.tr (m_own_ui (by decide)))⟩
    · unfold fL_part
      rw [h1, Option.bind_some, if_pos rfl]
    · rw [pu_i, if_pos ⟨rfl, rfl⟩]
  have hm' := thr_R hm
  rcases set_cases (a_g A) hw.1 x with hx | ⟨S, hS, rfl⟩
  · refine ref σ (thr σ) ?_ hc hm' (thr_fr σ) ?_
    · unfold fX4_partOrNone
      rw [c_hasSet_no hc.1 hw.1 hx]; rfl
    · unfold fX5_part
      rw [ps_let, show ps_ui σ 45 0 0 = thr σ from rfl, m_isSet_no hm'.1 hw.1 hx]; rfl
  have hn : g_n (a_g A) ≠ 0 := fun q => by unfold g_N at hS; rw [if_pos q] at hS; omega
  have hNp := g_N_pos hn
  have h2 := p2_le _ hw.1.1
  rcases n_cases y (2 ^ 31 - 1) (by decide) with hv | hbig
  · refine ref σ (thr σ) ?_ hc hm' (thr_fr σ) ?_
    · unfold fX4_partOrNone
      rw [c_hasSet_yes hc.1 hw.1 hS, Option.bind_some, if_neg (by decide), if_pos hv]
    · unfold fX5_part
      rw [ps_let, show ps_ui σ 45 0 0 = thr σ from rfl, m_isSet_yes hm'.1 hw.1 hS, Option.bind_some, if_neg (by decide), if_neg (fun q => absurd hv (Int32.not_lt.mpr q))]; rfl
  have hi : ∃ i, i < 2 ^ 31 ∧ y = nI i := by
    rcases hbig with ⟨h1, h3⟩ | ⟨j, hj, rfl⟩
    · refine ⟨y.toInt.toNat, ?_, ?_⟩
      · have := Int32.toInt_lt y; omega
      · have h4 : 0 ≤ y.toInt := by
          have := Int32.not_lt.mp h3
          exact Int32.le_iff_toInt_le.mp this
        apply Int32.toInt_inj.mp
        rw [nI_toInt (by have := Int32.toInt_lt y; omega)]
        omega
    · exact ⟨j, by omega, rfl⟩
  obtain ⟨i, hi, rfl⟩ := hi
  have hge : (0 : Int32) ≤ nI i := Int32.not_lt.mp (nI_pos hi)
  -- the model, from a state that holds what it held
  have model : ∀ τ, m_R τ A → ∃ χ, ps_fr m_own τ χ ∧ m_R χ A ∧ ps_fr m_own (thr τ) χ ∧ χ.1 45 0 = 0 ∧ χ.2 59 = τ.2 59 ∧ fX5_part (nI S) (nI i) τ = (if p_pr (a_g A) S < 1000000 then (if p_R (a_g A) S i = 0 then some (0, ps_ui χ 45 0 1) else some (nI (p_1 (a_g A) (p_R (a_g A) S i)), χ)) else some (0, ps_ui χ 45 0 1)) := fun τ hτ => by
    have hmω := thr_R hτ
    obtain ⟨ψ, y1, y2, y3⟩ := m_laysPrices hmω.1 hw.1 hn
    have f52 : ps_fr m_scr (thr τ) ψ := y2.wk (fun k q => by unfold m_scr; omega)
    have hmψ : m_R ψ A := m_R_scr hmω f52
    refine ⟨ψ, (thr_fr τ).tr (scr_m f52), hmψ, scr_m f52, ?_, ?_, ?_⟩
    · rw [(f52 45 (by unfold m_scr; omega)).1, pu_i, if_pos ⟨rfl, rfl⟩]
    · rw [(f52 59 (by unfold m_scr; omega)).2]; rfl
    · unfold fX5_part
      rw [ps_let, show ps_ui τ 45 0 0 = thr τ from rfl, m_isSet_yes hmω.1 hw.1 hS, Option.bind_some, if_neg (by decide), if_pos hge, y1, Option.bind_some, pk_ok (by omega) (by decide), nI_clamp (by omega), y3 S (by omega)]
      by_cases c : p_pr (a_g A) S < 1000000
      · rw [if_pos c, p_e_yes c, if_neg (nI_n1 (by omega)), m_walk hmψ.1 hw.1 (by omega) c hi (fun U hU => y3 U (by have := sub_le hU; omega)), Option.bind_some]
        by_cases d : p_R (a_g A) S i = 0
        · rw [if_pos d, if_pos d]; rfl
        · rw [if_neg d, if_neg d]
      · rw [if_neg c, p_e_no c, if_pos rfl]; rfl
  by_cases h8 : i < 8
  · obtain ⟨τ, a1, a2, a3⟩ := c_priceParts (S := S) hc.1 hw.1 (by omega)
    have hG := c_G_fr42 hc.1 a2
    have fc : ps_fr c_scr σ τ := a2.wk (fun k q => by unfold c_scr; omega)
    have hcτ : c_R τ A := c_R_scr hc fc
    have hmτ : m_R τ A := m_R_c hm (fc.wk (fun k q => by unfold c_scr at q; unfold c_own; omega))
    have hle := p_le hw.1 (T := S) (by omega)
    have cls : fX4_partOrNone (nI S) (nI i) σ = if p_pr (a_g A) S < 1000000 then (if p_R (a_g A) S i = 0 then some (-1, τ) else some (nI (p_1 (a_g A) (p_R (a_g A) S i)), τ)) else some (-1, τ) := by
      unfold fX4_partOrNone
      rw [c_hasSet_yes hc.1 hw.1 hS, Option.bind_some, if_neg (by decide), if_neg (nI_pos hi), nl_8, if_pos (nI_lt h8 (by decide)), a1, Option.bind_some, pk_ok (by omega) (by decide), nI_clamp (by omega), a3 S (sub_refl S), nl_1000000]
      by_cases c : p_pr (a_g A) S < 1000000
      · obtain ⟨h1, h3, -, -⟩ := p_R_ok (by omega) c i
        have hsl := sub_le h1
        rw [if_pos (nI_lt c (by omega)), if_pos c, c_partWalk hG hw.1 (by omega) c (by omega) a3, Option.bind_some]
        by_cases d : p_R (a_g A) S i = 0
        · rw [if_pos ((nI0_iff (by omega)).mpr d), if_pos d]
        · rw [if_neg (fun q => d ((nI0_iff (by omega)).mp q)), if_neg d, c_firstPart hG hw.1 (by omega) h3 (fun U hU => a3 U (fun t ht => h1 t (hU t ht))), Option.bind_some]
      · rw [if_neg (nI_nlt (by omega) (by omega)), if_neg c]
    by_cases c : p_pr (a_g A) S < 1000000
    · rw [if_pos c] at cls
      by_cases d : p_R (a_g A) S i = 0
      · rw [if_pos d] at cls
        obtain ⟨χ, x1, x2, -, -, -, x6⟩ := model τ hmτ
        rw [if_pos c, if_pos d] at x6
        exact ref τ χ cls hcτ x2 x1 x6
      · rw [if_neg d] at cls
        obtain ⟨h1, h3, -, -⟩ := p_R_ok (by omega) c i
        have hsl := sub_le h1
        have k1 := sub_le (p_1_ok d h3).1.1
        have f59 : ps_fr (fun q => q = 59) τ (ps_ul τ 59 0 (Int32.toInt64 (nI (p_1 (a_g A) (p_R (a_g A) S i))))) := ps_fr_ul rfl
        have hm59 := hmτ.fr f59 (fun k _ _ q => by omega)
        have hc59 := hcτ.fr f59 (fun k _ q => by omega)
        obtain ⟨χ, x1, x2, -, x4, x5, x6⟩ := model _ hm59
        rw [if_pos c, if_neg d] at x6
        refine ⟨0, _, _, χ, ?_, x6, x4, fun _ => ?_, b_keep hw hc59 x2 x1⟩
        · unfold fL_part
          rw [cls, Option.bind_some, if_neg (nI_n1 (by omega))]
        · rw [x5]
          show (ps_ul τ 59 0 _).2 59 0 = _
          rw [pu_l, if_pos ⟨rfl, rfl⟩]
    · rw [if_neg c] at cls
      obtain ⟨χ, x1, x2, -, -, -, x6⟩ := model τ hmτ
      rw [if_neg c] at x6
      exact ref τ χ cls hcτ x2 x1 x6
  · have cls : fX4_partOrNone (nI S) (nI i) σ = some (-1, σ) := by
      unfold fX4_partOrNone
      rw [c_hasSet_yes hc.1 hw.1 hS, Option.bind_some, if_neg (by decide), if_neg (nI_pos hi), nl_8, if_neg (nI_nlt (by omega) hi)]
    obtain ⟨χ, x1, x2, -, -, -, x6⟩ := model σ hm
    have hz : fX5_part (nI S) (nI i) σ = some (0, ps_ui χ 45 0 1) := by
      rw [x6]
      by_cases c : p_pr (a_g A) S < 1000000
      · rw [if_pos c, if_pos (p_R_z (by omega) c (p_R_8 (by omega) c) i (by omega))]
      · rw [if_neg c]
    exact ref σ χ cls hc x2 x1 hz
