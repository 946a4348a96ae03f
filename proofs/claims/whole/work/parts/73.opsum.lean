/-! sum and back -/
theorem not_int (x y : Int32) : x &&& (y ^^^ (-1)) = x ^^^ (x &&& y) := b_ext (fun i hi => by
  rw [b_and, b_xor, b_xor, b_and, b_m1 i hi]
  cases bt x i <;> cases bt y i <;> rfl)
/-- p without s -/
def g_df (p s : Nat) : Nat := p ^^^ (p &&& s)
theorem df_int (p s : Nat) : nI p &&& (nI s ^^^ (-1)) = nI (g_df p s) := by rw [not_int, fa_and, fb_xorI]; rfl
theorem df_tb (p s i : Nat) : (g_df p s).testBit i = (p.testBit i && !s.testBit i) := by
  unfold g_df
  rw [Nat.testBit_xor, Nat.testBit_and]
  cases p.testBit i <;> cases s.testBit i <;> rfl
theorem df_sub {p s : Nat} : g_df p s = 0 ↔ g_sub p s := by
  constructor
  · intro h t ht
    have := df_tb p s t
    rw [h, Nat.zero_testBit, ht] at this
    cases hs : s.testBit t
    · rw [hs] at this; exact absurd this (by decide)
    · rfl
  · intro h
    apply Nat.eq_of_testBit_eq
    intro i
    rw [df_tb, Nat.zero_testBit]
    have := h i
    cases hp : p.testBit i <;> simp_all
theorem df_le (p s : Nat) : g_df p s ≤ p := sub_le (fun t ht => by rw [df_tb] at ht; exact (Bool.and_eq_true_iff.mp ht).1)
theorem tb_big {s n i : Nat} (hs : s < 2 ^ n) (hi : n ≤ i) : s.testBit i = false := Nat.testBit_lt_two_pow (Nat.lt_of_lt_of_le hs (Nat.pow_le_pow_right (by decide) hi))
theorem ct_n8 {p : Nat → Bool} {n : Nat} (hn : n ≤ 8) (h : ∀ i, n ≤ i → p i = false) : fb_ct p n = fb_ct p 8 := by
  have e : fb_ct p 8 = fb_ct p (n + (8 - n)) := by rw [show n + (8 - n) = 8 by omega]
  rw [e, fb_ct_split, fb_ct_zero.mpr (fun k _ => h (n + k) (by omega)), Nat.add_zero]
theorem t_k1 (bw : Bool) (s p : Nat) : ∀ n, t_k (k_t 1 bw) s p n = if fb_ct (fun i => p.testBit i && !s.testBit i) n = 0 then (if bw = true ∧ fb_ct (fun i => (s ^^^ p).testBit i) n % 2 = 1 then -1 else 1) else 0
  | 0 => by simp [t_k, fb_ct]
  | n + 1 => by
    rw [t_k, t_k1 bw s p n, fb_ct_succ, fb_ct_succ, Nat.testBit_xor]
    generalize fb_ct (fun i => p.testBit i && !s.testBit i) n = A
    generalize fb_ct (fun i => (s ^^^ p).testBit i) n = B
    have hB : B % 2 = 0 ∨ B % 2 = 1 := by omega
    cases s.testBit n <;> cases p.testBit n <;> cases bw <;> simp [k_t]
    by_cases hA : A = 0
    · rcases hB with h | h
      · rw [if_pos hA, if_pos hA, if_neg (by omega), if_pos (by omega)]
      · rw [if_pos hA, if_pos hA, if_pos (by omega), if_neg (by omega)]; rfl
    · rw [if_neg hA, if_neg hA]; rfl
theorem t_k2 (bw : Bool) (s p : Nat) : ∀ n, t_k (k_t 2 bw) s p n = if fb_ct (fun i => s.testBit i && !p.testBit i) n = 0 then (if bw = true ∧ fb_ct (fun i => (s ^^^ p).testBit i) n % 2 = 1 then -1 else 1) else 0
  | 0 => by simp [t_k, fb_ct]
  | n + 1 => by
    rw [t_k, t_k2 bw s p n, fb_ct_succ, fb_ct_succ, Nat.testBit_xor]
    generalize fb_ct (fun i => s.testBit i && !p.testBit i) n = A
    generalize fb_ct (fun i => (s ^^^ p).testBit i) n = B
    have hB : B % 2 = 0 ∨ B % 2 = 1 := by omega
    cases s.testBit n <;> cases p.testBit n <;> cases bw <;> simp [k_t]
    by_cases hA : A = 0
    · rcases hB with h | h
      · rw [if_pos hA, if_pos hA, if_neg (by omega), if_pos (by omega)]
      · rw [if_pos hA, if_pos hA, if_pos (by omega), if_neg (by omega)]; rfl
    · rw [if_neg hA, if_neg hA]; rfl
theorem ct_df {p s n : Nat} (hp : p < 2 ^ n) : fb_ct (fun i => p.testBit i && !s.testBit i) n = 0 ↔ g_df p s = 0 := by
  rw [fb_ct_zero]
  constructor
  · intro h
    apply Nat.eq_of_testBit_eq
    intro i
    rw [df_tb, Nat.zero_testBit]
    by_cases hi : i < n
    · exact h i hi
    · rw [tb_big hp (by omega)]; rfl
  · intro h k _
    have := df_tb p s k
    rw [h, Nat.zero_testBit] at this
    exact this.symm
theorem xor_lt {s p n : Nat} (hs : s < 2 ^ n) (hp : p < 2 ^ n) : s ^^^ p < 2 ^ n := Nat.xor_lt_two_pow hs hp
/-- the sign, and whether it counts -/
def s_c (how : Nat) (s p : Nat) : Nat := if how = 1 then g_df p s else g_df s p
theorem t_k12 {how n s p : Nat} {bw : Bool} (hh : how = 1 ∨ how = 2) (hn : n ≤ 8) (hs : s < 2 ^ n) (hp : p < 2 ^ n) : t_k (k_t how bw) s p n = if s_c how s p = 0 then (if bw = true ∧ g_bc (s ^^^ p) % 2 = 1 then -1 else 1) else 0 := by
  have e : fb_ct (fun i => (s ^^^ p).testBit i) n = g_bc (s ^^^ p) := ct_n8 hn (fun i hi => tb_big (xor_lt hs hp) hi)
  rcases hh with rfl | rfl
  · rw [t_k1, e]
    show _ = if g_df p s = 0 then _ else _
    by_cases c : g_df p s = 0
    · rw [if_pos c, if_pos ((ct_df hp).mpr c)]
    · rw [if_neg c, if_neg (mt (ct_df hp).mp c)]
  · rw [t_k2, e]
    show _ = if g_df s p = 0 then _ else _
    by_cases c : g_df s p = 0
    · rw [if_pos c, if_pos ((ct_df hs).mpr c)]
    · rw [if_neg c, if_neg (mt (ct_df hs).mp c)]
theorem neg_wid {v : Nat} (h : v < 2 ^ 31) : (Int32.toInt64 (-nI v)).toInt = -(v : Int) := by rw [Int32.toInt_toInt64, sb_negT h]
theorem wid {v : Nat} (h : v < 2 ^ 31) : (Int32.toInt64 (nI v)).toInt = (v : Int) := by rw [Int32.toInt_toInt64, nI_toInt h]
/-- a sum of the model's -/
theorem m_sumOf {σ : ps_S} {a : gG} {r s how : Nat} {ov x : Int32} {bw : Bool} (h : m_G σ 47 0 a) (hw : g_wf a) (hr : r < 4) (hs : s < 2 ^ g_n a) (hov : (ov = 0 ∧ how = 1) ∨ (ov ≠ 0 ∧ how = 2)) (hx : x = 0 ↔ bw = false) : ∃ e, ps_lp (fun q => fX5_laysSums_S18 (nI r) ov x (nI s) σ q.1 q.2) 100000 ((0 : Int64), (0 : Int32)) = some e ∧ e.toInt = fb_si (fun p => t_k (k_t how bw) s p (g_n a) * (g_f a r p : Int)) (2 ^ g_n a) := by
  have h8 := hw.1
  have h2 := p2_le _ h8
  have h3 := p2_pos (g_n a)
  have hP : g_P = 1000003 := rfl
  have hh : how = 1 ∨ how = 2 := by rcases hov with ⟨-, q⟩ | ⟨-, q⟩ <;> omega
  have hfb : ∀ i : Nat, i ≤ 2 ^ g_n a → -((i : Int) * 1000003) ≤ fb_si (fun p => t_k (k_t how bw) s p (g_n a) * (g_f a r p : Int)) i ∧ fb_si (fun p => t_k (k_t how bw) s p (g_n a) * (g_f a r p : Int)) i ≤ (i : Int) * 1000003 := fun i hi => fb_si_bound (by decide) (fun p hp => by
    have hf := hw.2.2.2.2.2.2.2.1 r p
    show -(1000003 : Int) ≤ t_k (k_t how bw) s p (g_n a) * (g_f a r p : Int) ∧ t_k (k_t how bw) s p (g_n a) * (g_f a r p : Int) ≤ 1000003
    rw [t_k12 hh h8 hs (by omega)]
    split
    · split <;> omega
    · omega)
  obtain ⟨e, h1, h4⟩ := ps_for (step := fun q => fX5_laysSums_S18 (nI r) ov x (nI s) σ q.1 q.2) (2 ^ g_n a)
    (fun i q => q.2 = nI i ∧ q.1.toInt = fb_si (fun p => t_k (k_t how bw) s p (g_n a) * (g_f a r p : Int)) i) (fun e => e.toInt = fb_si (fun p => t_k (k_t how bw) s p (g_n a) * (g_f a r p : Int)) (2 ^ g_n a)) (F := 100000) (s := ((0 : Int64), (0 : Int32))) (by
      rintro i ⟨e, c⟩ hi ⟨hc, he⟩
      simp only at hc he
      subst hc
      have hi2 : i < 256 := by omega
      have hs2 : s < 256 := by omega
      have hf := hw.2.2.2.2.2.2.2.1 r i
      have b := hfb i (by omega)
      have hxl : s ^^^ i < 256 := xor_lt (n := 8) hs2 hi2
      unfold fX5_laysSums_S18
      rw [m_all h hw, Option.bind_some, if_neg (nI_nlt (by omega) (by omega))]
      have e1 : (if ov = 0 then fX5_laysSums_J48 (nI r) ov x (nI s) e (nI i) (nI i &&& (nI s ^^^ -1)) σ else fX5_laysSums_J48 (nI r) ov x (nI s) e (nI i) (nI s &&& (nI i ^^^ -1)) σ) = fX5_laysSums_J48 (nI r) ov x (nI s) e (nI i) (nI (s_c how s i)) σ := by
        rcases hov with ⟨q1, q2⟩ | ⟨q1, q2⟩
        · rw [if_pos q1, df_int, q2]; rfl
        · rw [if_neg q1, df_int, q2]; rfl
      have hsc : s_c how s i < 256 := by
        unfold s_c
        have := df_le i s
        have := df_le s i
        split <;> omega
      rw [e1]
      unfold fX5_laysSums_J48 fX5_laysSums_J76 fX5_laysSums_J77 fX5_laysSums_J106 fX5_laysSums_J109
      simp only [ps_let]
      have hbx : fX5_bits (nI s ^^^ nI i) = some (nI (g_bc (s ^^^ i))) := by rw [fb_xorI]; exact m_bits _ hxl
      rw [m_numberOf h hr hi2, Option.bind_some, Option.bind_some, hbx, Option.bind_some, nI_1]
      have hbc := g_bc_le (s ^^^ i)
      have hplus : (e + Int32.toInt64 (nI (g_f a r i))).toInt = e.toInt + (g_f a r i : Int) := by rw [fb_addL] <;> rw [wid (by omega)] <;> omega
      have hminus : (e + Int32.toInt64 (-nI (g_f a r i))).toInt = e.toInt + -(g_f a r i : Int) := by rw [fb_addL] <;> rw [neg_wid (by omega)] <;> omega
      have hk := t_k12 (bw := bw) hh h8 hs hi
      by_cases c0 : s_c how s i = 0
      · rw [if_pos c0] at hk
        rw [if_pos (by rw [c0]; rfl)]
        cases bw
        · rw [if_neg (by simp)] at hk
          refine ⟨_, by rw [if_pos (hx.mpr rfl), if_pos trivial], rfl, ?_⟩
          show (e + Int32.toInt64 (nI (g_f a r i))).toInt = _
          rw [hplus, fb_si_succ, he, hk, Int.one_mul]
        · rw [if_neg (fun q => absurd (hx.mp q) (by decide)), nl_2, pk_rem (by omega) (by decide) (by decide)]
          by_cases c1 : g_bc (s ^^^ i) % 2 = 1
          · rw [if_pos ⟨rfl, c1⟩] at hk
            refine ⟨_, by rw [if_pos (by rw [c1]; rfl), if_neg (by decide)], rfl, ?_⟩
            show (e + Int32.toInt64 (-nI (g_f a r i))).toInt = _
            rw [hminus, fb_si_succ, he, hk, Int.neg_mul, Int.one_mul]
          · rw [if_neg (fun q => c1 q.2)] at hk
            refine ⟨_, by rw [if_neg (by rw [n1, nI_eq (by omega) (by decide)]; exact c1), if_pos trivial], rfl, ?_⟩
            show (e + Int32.toInt64 (nI (g_f a r i))).toInt = _
            rw [hplus, fb_si_succ, he, hk, Int.one_mul]
      · rw [if_neg c0] at hk
        refine ⟨_, by rw [if_neg (by rw [nI0_iff (by omega)]; exact c0)], rfl, ?_⟩
        show e.toInt = _
        rw [fb_si_succ, he, hk, Int.zero_mul, Int.add_zero]) (by
      rintro ⟨e, c⟩ ⟨hc, he⟩
      simp only at hc he
      subst hc
      exact ⟨e, by unfold fX5_laysSums_S18; rw [m_all h hw, Option.bind_some, if_pos (nI_lt (by omega) (by omega))], he⟩) ⟨rfl, rfl⟩ (by omega)
  exact ⟨e, h1, h4⟩
theorem m_laysSums {σ : ps_S} {a : gG} {r how : Nat} {ov x : Int32} {bw : Bool} (h : m_G σ 47 0 a) (hw : g_wf a) (hr : r < 4) (hov : (ov = 0 ∧ how = 1) ∨ (ov ≠ 0 ∧ how = 2)) (hx : x = 0 ↔ bw = false) : ∃ τ, fX5_laysSums (nI r) ov x σ = some τ ∧ ps_fr (fun q => q = 52) σ τ ∧ ∀ s, s < 2 ^ g_n a → τ.1 52 s = nI (g_red (t_y (k_t how bw) (fun p => (g_f a r p : Int)) (g_n a) s)) := by
  have h8 := hw.1
  have h2 := p2_le _ h8
  have h3 := p2_pos (g_n a)
  unfold fX5_laysSums
  obtain ⟨τ, t1, t2, t3, t4⟩ := fill_row (step := fun s => fX5_laysSums_S3 (nI r) ov x s.1 s.2) (σ := σ) (N := 2 ^ g_n a) (k := 52) (v := fun s => nI (g_red (t_y (k_t how bw) (fun p => (g_f a r p : Int)) (g_n a) s))) (by omega) (by
      intro i τ hi hf hv ho
      have hG := h.fr hf (by decide)
      show fX5_laysSums_S3 (nI r) ov x (nI i) τ = _
      unfold fX5_laysSums_S3
      simp only [ps_let]
      obtain ⟨e, e1, e2⟩ := m_sumOf (s := i) hG hw hr hi hov hx
      rw [m_all hG hw, Option.bind_some, if_neg (nI_nlt (by omega) (by omega)), e1, Option.bind_some, p_rest, Option.bind_some, pk_ok (by omega) (by decide), nI_clamp (by omega), nI_1, e2, t_y_all _ _ hi]) (by
      intro τ hf
      have hG := h.fr hf (by decide)
      show fX5_laysSums_S3 (nI r) ov x (nI (2 ^ g_n a)) τ = _
      unfold fX5_laysSums_S3
      rw [m_all hG hw, Option.bind_some, if_pos (nI_lt (by omega) (by omega))])
  exact ⟨τ, by rw [t1, Option.bind_some], t2, t3⟩
theorem f_red {a : gG} (hw : g_wf a) (r s : Nat) : g_red (g_f a r s : Int) = g_f a r s := red_small (hw.2.2.2.2.2.2.2.1 r s)
theorem op_tr {σ : ps_S} (x y z : Int32) (hz : z = 0 ∨ z = 1) (h : b_R σ) : ∃ (r : Int32) (τ υ : ps_S), fX4_transformRow x y z σ = some (r, τ) ∧ fX5_sums x y z τ = some (r, υ) ∧ b_R υ := by
  obtain ⟨A, hw, hc, hm⟩ := h
  have hm' := thr_R hm
  have hN := g_N_le hw.1
  rcases row_cases (a_g A) x with hx | ⟨hn, r, hr, rfl⟩
  · refine ⟨-1, σ, thr σ, ?_, ?_, b_keep hw hc hm' (thr_fr σ)⟩
    · unfold fX4_transformRow
      rw [c_hasRow_no hc.1 hw.1 hx]; rfl
    · unfold fX5_sums
      simp only [ps_let]
      rw [m_isRow_no hm'.1 hw.1 hx]; rfl
  have hNp := g_N_pos hn
  have h8 := hw.1.1
  have h2 := p2_le _ h8
  have h3 := p2_pos (g_n (a_g A))
  obtain ⟨bw, hbw⟩ : ∃ bw : Bool, z = 0 ↔ bw = false := by
    rcases hz with rfl | rfl
    · exact ⟨false, by decide⟩
    · exact ⟨true, by decide⟩
  obtain ⟨how, hov⟩ : ∃ how, (y = 0 ∧ how = 1) ∨ (y ≠ 0 ∧ how = 2) := by
    by_cases e : y = 0
    · exact ⟨1, Or.inl ⟨e, rfl⟩⟩
    · exact ⟨2, Or.inr ⟨e, rfl⟩⟩
  have hh : how = 1 ∨ how = 2 ∨ how = 3 := by rcases hov with ⟨-, q⟩ | ⟨-, q⟩ <;> omega
  obtain ⟨τ, t1, t2, t3⟩ := c_keepLine hw hc (l0 := r) (by omega)
  have hG := c_G_acts hc.1 t2
  obtain ⟨υ, u1, u2, u3, u4⟩ := c_transform (σ := τ) (k := 2 + 1 + r) (how := how) (n := g_n (a_g A)) (bw := bw) (x := z) (f := fun p => (g_f (a_g A) r p : Int)) (by
    rcases (show r = 0 ∨ r = 1 ∨ r = 2 ∨ r = 3 by omega) with rfl | rfl | rfl | rfl <;> rfl) h8 hh hbw (fun s hs => by rw [f_red hw.1, show 2 + 1 + r = 1 + 2 + r by omega]; exact hG.2.2.2 r s hr (by omega))
  have hcF : c_R υ (A_push A (g_row (a_g A) r (fun s => g_red (t_y (k_t how bw) (fun p => (g_f (a_g A) r p : Int)) (g_n (a_g A)) s)))) := by
    refine c_R_push hc t2 (t3 _ g_chg_row) u2 (fun k _ _ q => by omega) ?_
    obtain ⟨q1, q2, q3, q4⟩ := hG
    refine ⟨by rw [(u2 1 (by omega)).1]; exact q1, by rw [(u2 1 (by omega)).2]; exact q2, fun s hs => by rw [(u2 (1 + 6) (by omega)).1]; exact q3 s hs, fun r' s hr' hs => ?_⟩
    show _ = nI (if r' = r ∧ s < g_N (a_g A) then _ else g_f (a_g A) r' s)
    by_cases e : r' = r
    · subst e
      by_cases c : s < g_N (a_g A)
      · rw [if_pos ⟨rfl, c⟩, show 1 + 2 + r' = 2 + 1 + r' by omega, u3 s (by omega)]
      · rw [if_neg (fun q => c q.2), show 1 + 2 + r' = 2 + 1 + r' by omega, u4 s (by omega), show 2 + 1 + r' = 1 + 2 + r' by omega]; exact q4 r' s hr' hs
    · rw [if_neg (fun q => e q.1), (u2 (1 + 2 + r') (by omega)).1]; exact q4 r' s hr' hs
  have fc : ps_fr c_own σ υ := (acts_c t2).tr (u2.wk (fun k q => by unfold c_own; omega))
  have hmυ : m_R (thr υ) A := thr_R (m_R_c hm fc)
  obtain ⟨χ, x1, x2, x3⟩ := m_laysSums (how := how) (ov := y) (x := z) (bw := bw) hmυ.1 hw.1 hr hov hbw
  have f52 : ps_fr m_scr (thr υ) χ := x2.wk (fun k q => by unfold m_scr; omega)
  have hmχ : m_R χ A := m_R_scr hmυ f52
  have hq : (if y = 0 then g_all (a_g A) else 0) < g_N (a_g A) := by
    unfold g_all
    split <;> omega
  obtain ⟨ψ, y1, y2⟩ := op_row (q := if y = 0 then g_all (a_g A) else 0) (r := r) (F := fun s => g_red (t_y (k_t how bw) (fun p => (g_f (a_g A) r p : Int)) (g_n (a_g A)) s)) hw hcF (fun s _ => g_red_lt _) hr hn hq ((thr_fr υ).tr (scr_m f52)) hmχ (fun s hs => x3 s (by omega))
  refine ⟨nI (g_red (t_y (k_t how bw) (fun p => (g_f (a_g A) r p : Int)) (g_n (a_g A)) (if y = 0 then g_all (a_g A) else 0))), υ, ψ, ?_, ?_, y2⟩
  · have eA : fX1_allThings υ = some (nI (g_all (a_g A))) := by
      unfold fX1_allThings
      rw [(u2 1 (by omega)).1, hG.1, sh1 _ h8, n1, pk_sub h3]; rfl
    unfold fX4_transformRow
    rw [c_hasRow_yes hc.1 hw.1 hr hn, Option.bind_some, if_neg (by decide), t1, Option.bind_some, pk_ok (by omega) (by decide), nI_clamp (by omega), hG.1]
    rcases hov with ⟨q1, q2⟩ | ⟨q1, q2⟩
    · subst q1; subst q2
      rw [if_pos rfl]
      unfold fX4_transformRow_J50
      rw [n1, u1, Option.bind_some, pk_ok (by omega) (by decide), if_pos rfl, eA, Option.bind_some, if_pos rfl] 
      rw [if_pos rfl] at hq
      rw [pk_ok (by omega) (by decide), nI_clamp (by omega), nI_clamp (by omega), u3 _ (by omega)]
    · subst q2
      rw [if_neg q1]
      unfold fX4_transformRow_J50
      rw [nl_2, u1, Option.bind_some, pk_ok (by omega) (by decide), if_neg q1, if_neg q1, n0, pk_ok (by decide) (by decide), nI_clamp (by omega), nI_clamp (by decide), u3 _ (by omega)]
  · unfold fX5_sums fX5_sums_J36
    simp only [ps_let]
    rw [m_isRow_yes hmυ.1 hw.1 hr hn, Option.bind_some, if_neg (by decide), x1, Option.bind_some]
    by_cases e : y = 0
    · rw [if_pos e] at y1 ⊢
      rw [m_all hmχ.1 hw.1, Option.bind_some, show nI (2 ^ g_n (a_g A) - 1) = nI (g_all (a_g A)) from rfl, y1, Option.bind_some, if_pos e]
    · rw [if_neg e] at y1 ⊢
      have y1' : fX5_becomes (nI r) 0 χ = _ := y1
      rw [y1', Option.bind_some, if_neg e]
/-- calls 10, 11: sum, back -/
theorem op_sum {σ : ps_S} (x y : Int32) (h : b_R σ) : ∃ (r : Int32) (τ υ : ps_S), fX4_sum x y σ = some (r, τ) ∧ fX5_sum x y τ = some (r, υ) ∧ b_R υ := by
  obtain ⟨r, τ, υ, h1, h2, h3⟩ := op_tr x y 0 (Or.inl rfl) h
  exact ⟨r, τ, υ, by unfold fX4_sum; rw [h1]; rfl, by unfold fX5_sum; rw [h2]; rfl, h3⟩
theorem op_back {σ : ps_S} (x y : Int32) (h : b_R σ) : ∃ (r : Int32) (τ υ : ps_S), fX4_back x y σ = some (r, τ) ∧ fX5_back x y τ = some (r, υ) ∧ b_R υ := by
  obtain ⟨r, τ, υ, h1, h2, h3⟩ := op_tr x y 1 (Or.inr rfl) h
  exact ⟨r, τ, υ, by unfold fX4_back; rw [h1]; rfl, by unfold fX5_back; rw [h2]; rfl, h3⟩
