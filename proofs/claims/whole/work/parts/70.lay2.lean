/-! lay, on the model's side; the call -/
theorem low_int : ∀ x, x < 256 → x ≠ 0 → nI x &&& (-nI x) = nI (2 ^ g_lt x) := by decide +kernel
theorem p2_bit {u t : Nat} : (2 ^ u).testBit t = decide (u = t) := Nat.testBit_two_pow
theorem tog_in {σ : ps_S} {a : gG} {s b c : Nat} (h : m_G σ 47 0 a) (hw : g_wf a) (hc : c < 256) : ∃ d, ps_lp (fun q => fX5_isTogether_S23 (nI s) (nI c) σ q.1 q.2) 100000 (nI b, (0 : Int32)) = some (nI d) ∧ ∀ u, d.testBit u = true ↔ b.testBit u = true ∨ ∃ t, t < g_n a ∧ c.testBit t = true ∧ (g_j a t).testBit u = true ∧ s.testBit u = true := by
  have h8 := hw.1
  obtain ⟨x, hx, d, hd, hq⟩ := ps_for (step := fun q => fX5_isTogether_S23 (nI s) (nI c) σ q.1 q.2) (g_n a) (fun i q => ∃ d, q = (nI d, nI i) ∧ ∀ u, d.testBit u = true ↔ b.testBit u = true ∨ ∃ t, t < i ∧ c.testBit t = true ∧ (g_j a t).testBit u = true ∧ s.testBit u = true) (fun x => ∃ d, x = nI d ∧ ∀ u, d.testBit u = true ↔ b.testBit u = true ∨ ∃ t, t < g_n a ∧ c.testBit t = true ∧ (g_j a t).testBit u = true ∧ s.testBit u = true) (F := 100000) (s := (nI b, (0 : Int32))) (by
      rintro i q hi ⟨d, rfl, hd⟩
      unfold fX5_isTogether_S23 fX5_isTogether_J57
      simp only [ps_let]
      rw [m_things h, Option.bind_some, if_neg (nI_ge hi (by omega)), m_has hc (by omega), Option.bind_some, nl_257, nI_add, pk_ok (by omega) (by decide), nI_clamp (by omega), m_j h (by omega), fa_and, fa_or, nI_1]
      cases hb : c.testBit i
      · refine ⟨_, by rw [if_pos (by decide)], d, rfl, fun u => ?_⟩
        rw [hd u]
        constructor
        · rintro (g | ⟨t, g1, g2⟩)
          · exact Or.inl g
          · exact Or.inr ⟨t, by omega, g2⟩
        · rintro (g | ⟨t, g1, g2, g3⟩)
          · exact Or.inl g
          · by_cases e : t = i
            · rw [e, hb] at g2; exact absurd g2 (by decide)
            · exact Or.inr ⟨t, by omega, g2, g3⟩
      · refine ⟨_, by rw [if_neg (by decide)], d ||| (g_j a i &&& s), rfl, fun u => ?_⟩
        rw [Nat.testBit_or, Nat.testBit_and, Bool.or_eq_true_iff, Bool.and_eq_true_iff, hd u]
        constructor
        · rintro ((g | ⟨t, g1, g2⟩) | g)
          · exact Or.inl g
          · exact Or.inr ⟨t, by omega, g2⟩
          · exact Or.inr ⟨i, by omega, hb, g⟩
        · rintro (g | ⟨t, g1, g2, g3⟩)
          · exact Or.inl (Or.inl g)
          · by_cases e : t = i
            · rw [e] at g3; exact Or.inr g3
            · exact Or.inl (Or.inr ⟨t, by omega, g2, g3⟩)) (by
      rintro q ⟨d, rfl, hd⟩
      exact ⟨_, by unfold fX5_isTogether_S23; rw [m_things h, Option.bind_some, if_pos (nI_le (Nat.le_refl _) (by omega))], d, rfl, hd⟩) ⟨b, rfl, fun u => ⟨fun g => Or.inl g, fun g => g.resolve_right (fun ⟨t, g1, _⟩ => absurd g1 (Nat.not_lt_zero _))⟩⟩ (by omega)
  exact ⟨d, by rw [hx, hd], hq⟩
theorem m_isTogether {σ : ps_S} {a : gG} {s : Nat} (h : m_G σ 47 0 a) (hw : g_wf a) (hs : s < 2 ^ g_n a) : fX5_isTogether (nI s) σ = some (if g_co a s = true then 1 else 0) := by
  have h8 := hw.1
  have hp := p2_le _ h8
  have hs2 : s < 256 := by omega
  have sy := hw.2.2.2.2.2.1
  unfold fX5_isTogether
  by_cases e0 : s = 0
  · rw [if_pos (by rw [e0]; rfl), if_neg (fun q => (g_coT.mp q).1 e0)]
  rw [if_neg (by rw [nI0_iff (by omega)]; exact e0)]
  simp only [ps_let]
  rw [low_int s hs2 e0]
  obtain ⟨l1, l2, -⟩ := lt_ok s hs2 e0
  obtain ⟨x, hx, d, hd, hd1, hd2, hd3, hd4⟩ := ps_tot (step := fun q => fX5_isTogether_S13 (nI s) σ q.1 q.2) (fun q => ∃ b c, q = (nI b, nI c) ∧ g_sub b s ∧ g_sub c b ∧ b.testBit (g_lt s) = true ∧ (∀ t u, c.testBit t = true → (g_j a t).testBit u = true → s.testBit u = true → b.testBit u = true) ∧ ∀ m, g_clo a s m → m.testBit (g_lt s) = true → g_sub b m) (fun x => ∃ d, x = nI d ∧ g_sub d s ∧ d.testBit (g_lt s) = true ∧ g_clo a s d ∧ ∀ m, g_clo a s m → m.testBit (g_lt s) = true → g_sub d m) (fun q => 256 - q.2.toNatClampNeg) (by
      rintro q ⟨b, c, rfl, i1, i2, i3, i4, i5⟩
      have hb := sub_le i1
      have hc := sub_le i2
      unfold fX5_isTogether_S13
      by_cases e : b = c
      · right
        refine ⟨_, by rw [if_pos (by rw [e])], b, rfl, i1, i3, ?_, i5⟩
        rw [← e] at i4
        exact i4
      · left
        rw [if_neg (by rw [nI_eq (by omega) (by omega)]; exact e)]
        obtain ⟨d, d1, d2⟩ := tog_in (s := s) (b := b) (c := b) h hw (by omega)
        refine ⟨(nI d, nI b), by rw [d1, Option.bind_some], ⟨d, b, rfl, fun u hu => ?_, fun u hu => (d2 u).mpr (Or.inl hu), (d2 _).mpr (Or.inl i3), fun t u q1 q2 q3 => (d2 u).mpr (Or.inr ⟨t, bits_lt hs (i1 t q1), q1, q2, q3⟩), fun m m1 m2 u hu => ?_⟩, ?_⟩
        · rcases (d2 u).mp hu with g | ⟨t, -, -, -, g⟩
          · exact i1 u g
          · exact g
        · rcases (d2 u).mp hu with g | ⟨t, -, g1, g2, g3⟩
          · exact i5 m m1 m2 u g
          · exact m1 t u (i5 m m1 m2 t g1) g2 g3
        · show 256 - (nI b).toNatClampNeg < 256 - (nI c).toNatClampNeg
          rw [nI_clamp (by omega), nI_clamp (by omega)]
          omega) 100000 (nI (2 ^ g_lt s), (0 : Int32)) (by
      show 256 - (nI 0).toNatClampNeg < 100000
      omega) ⟨2 ^ g_lt s, 0, rfl, fun t ht => by rw [p2_bit] at ht; rw [← of_decide_eq_true ht]; exact l2, fun t ht => by rw [Nat.zero_testBit] at ht; exact absurd ht (by decide), by rw [p2_bit]; simp, fun t u q => by rw [Nat.zero_testBit] at q; exact absurd q (by decide), fun m _ m2 t ht => by rw [p2_bit] at ht; rw [← of_decide_eq_true ht]; exact m2⟩
  rw [hx, Option.bind_some, hd]
  have hdl := sub_le hd1
  by_cases e : d = s
  · rw [if_pos (by rw [e]), if_pos]
    apply g_coT.mpr
    refine ⟨e0, fun b b1 b2 b3 => ?_⟩
    by_cases eb : b.testBit (g_lt s) = true
    · have := hd4 b b3 eb
      rw [e] at this
      exact sub_anti b2 this
    · exfalso
      have hcl : g_clo a s (s ^^^ b) := fun t u q1 q2 q3 => by
        rw [Nat.testBit_xor] at q1 ⊢
        rw [q3]
        cases hbu : b.testBit u
        · rfl
        · have hst : s.testBit t = true := by
            cases h1 : s.testBit t
            · cases h2 : b.testBit t
              · rw [h1, h2] at q1; exact absurd q1 (by decide)
              · rw [b2 t h2] at h1; exact absurd h1 (by decide)
            · rfl
          have := b3 u t hbu (by rw [sy]; exact q2) hst
          rw [hst, this] at q1
          exact absurd q1 (by decide)
      have := hd4 _ hcl (by rw [Nat.testBit_xor, l2]; cases hq : b.testBit (g_lt s) <;> simp_all)
      rw [e] at this
      obtain ⟨t, ht⟩ := bit_ex b1
      have h2 := this t (b2 t ht)
      rw [Nat.testBit_xor, b2 t ht, ht] at h2
      exact absurd h2 (by decide)
  · rw [if_neg (by rw [nI_eq (by omega) (by omega)]; exact e), if_neg]
    exact fun q => e ((g_coT.mp q).2 d (bit_ne hd2) hd1 hd3)
theorem sh_l : ∀ p, p < 29 → (1 : Int64) <<< (Int32.toInt64 (nI p) &&& 63) = lN (2 ^ p) := by decide +kernel
theorem red_small {v : Nat} (h : v < g_P) : g_red (v : Int) = v := by
  have : g_P = 1000003 := rfl
  unfold g_red
  rw [Int.emod_eq_of_lt (by omega) (by omega)]
  rfl
theorem m_laid {σ : ps_S} {a : gG} {what s : Nat} (h : m_G σ 47 0 a) (hw : g_wf a) (hs : s < 2 ^ g_n a) (hwh : what < 8) : fX5_laid (nI what) (nI s) σ = some (nI (g_red (g_ms a what s : Int))) := by
  have h8 := hw.1
  have hp := p2_le _ h8
  have hs2 : s < 256 := by omega
  have hsm : what ≠ 4 → g_red (g_ms a what s : Int) = g_ms a what s := fun q => red_small ((g_ms_lt hw hs2).2 q)
  unfold fX5_laid
  rcases (show what = 0 ∨ what = 1 ∨ what = 2 ∨ what = 3 ∨ what = 4 ∨ what = 5 ∨ what = 6 ∨ what = 7 by omega) with rfl | rfl | rfl | rfl | rfl | rfl | rfl | rfl
  · rw [hsm (by decide), if_pos (by decide), n1, nI_add, pk_ok (by omega) (by decide), nI_clamp (by omega), m_w h hs2]; rfl
  · rw [hsm (by decide), if_neg (by decide), if_pos (by decide), n1, nI_add, pk_ok (by omega) (by decide), nI_clamp (by omega), m_w h hs2]
    show _ = some (nI (if 0 < g_w a s then 1 else 0))
    by_cases c : 0 < g_w a s
    · rw [if_neg (fun q => (w_pos (hw.2.1 s)).mp q c), if_pos c]
    · rw [if_pos ((w_pos (hw.2.1 s)).mpr c), if_neg c]; rfl
  · rw [hsm (by decide), if_neg (by decide), if_neg (by decide), if_pos (by decide), m_pairsIn h hw hs2, Option.bind_some]
    show _ = some (nI (if g_pi a s = 0 then 1 else 0))
    have h28 := pi_28 hw hs2
    show (if nI (g_pi a s) = 0 then _ else _) = _
    by_cases c : g_pi a s = 0
    · rw [if_pos (by rw [c]; rfl), if_pos c]; rfl
    · rw [if_neg (by rw [nI0_iff (by omega)]; exact c), if_neg c]; rfl
  · rw [hsm (by decide), if_neg (by decide), if_neg (by decide), if_neg (by decide), if_pos (by decide)]
    show _ = some (nI (if g_pi a s = g_bc s * (g_bc s - 1) / 2 then 1 else 0))
    have h28 := pi_28 hw hs2
    have hb := g_bc_le s
    have hbm : g_bc s * (g_bc s - 1) ≤ 8 * 7 := Nat.mul_le_mul hb (by omega)
    have e : nI (g_bc s) * (nI (g_bc s) - 1) / 2 = nI (g_bc s * (g_bc s - 1) / 2) := by
      by_cases c : g_bc s = 0
      · rw [c]; rfl
      · rw [n1, pk_sub (by omega), pk_mul, nl_2, pk_div (by omega) (by decide) (by decide)]
    have ef : fX5_isFull (nI s) σ = some (if g_pi a s = g_bc s * (g_bc s - 1) / 2 then 1 else 0) := by
      unfold fX5_isFull
      rw [m_pairsIn h hw hs2, Option.bind_some, m_bits s hs2, Option.bind_some, Option.bind_some, e]
      show (if nI (g_pi a s) = _ then _ else _) = _
      by_cases c : g_pi a s = g_bc s * (g_bc s - 1) / 2
      · rw [if_pos (by rw [c]), if_pos c]
      · rw [if_neg (by rw [nI_eq (by omega) (by omega)]; exact c), if_neg c]
    rw [ef, Option.bind_some]
    by_cases c : g_pi a s = g_bc s * (g_bc s - 1) / 2
    · rw [if_pos c, if_pos c, if_neg (by decide)]; rfl
    · rw [if_neg c, if_neg c, if_pos (by decide)]; rfl
  · have h28 := pi_28 hw hs2
    rw [if_neg (by decide), if_neg (by decide), if_neg (by decide), if_neg (by decide), if_pos (by decide), m_pairsIn h hw hs2, Option.bind_some]
    show (fX5_rest (1 <<< (Int32.toInt64 (nI (g_pi a s)) &&& 63))).bind _ = _
    have h3 : 2 ^ g_pi a s ≤ 2 ^ 28 := Nat.pow_le_pow_right (by decide) h28
    rw [sh_l _ (by omega), p_rest, Option.bind_some, pk_lT (by omega)]; rfl
  · rw [hsm (by decide), if_neg (by decide), if_neg (by decide), if_neg (by decide), if_neg (by decide), if_neg (by decide), if_pos (by decide), m_isTogether h hw hs, Option.bind_some]
    show _ = some (nI (if g_co a s = true then 1 else 0))
    by_cases c : g_co a s = true
    · rw [if_pos c, if_pos c, if_neg (by decide)]; rfl
    · rw [if_neg c, if_neg c, if_pos (by decide)]; rfl
  · rw [hsm (by decide), if_neg (by decide), if_neg (by decide), if_neg (by decide), if_neg (by decide), if_neg (by decide), if_neg (by decide), if_pos (by decide), m_bits s hs2, Option.bind_some]; rfl
  · rw [hsm (by decide), if_neg (by decide), if_neg (by decide), if_neg (by decide), if_neg (by decide), if_neg (by decide), if_neg (by decide), if_neg (by decide)]
    show _ = some (nI (if s = 0 then 1 else 0))
    by_cases c : s = 0
    · rw [if_pos (by rw [c]; rfl), if_pos c]; rfl
    · rw [if_neg (by rw [nI0_iff (by omega)]; exact c), if_neg c]; rfl
/-- a row of numbers that both have made alike -/
theorem op_row {τ υ : ps_S} {A : gA} {r q : Nat} {F : Nat → Nat} (hw : a_wf A) (hc : c_R τ (A_push A (g_row (a_g A) r F))) (hF : ∀ s, s < g_N (a_g A) → F s < g_P) (hr : r < 4) (hn : g_n (a_g A) ≠ 0) (hq : q < g_N (a_g A)) (h2 : ps_fr m_own τ υ) (hmu : m_R υ A) (hmade : ∀ s, s < g_N (a_g A) → υ.1 52 s = nI (F s)) : ∃ ω, fX5_becomes (nI r) (nI q) υ = some (nI (F q), ω) ∧ b_R ω := by
  obtain ⟨ω, w1, w2, w3⟩ := m_becomes hw hmu hr hn hq hmade
  exact ⟨ω, w1, b_both (σ := τ) (A := A) (A_push_wf hw (g_row_wf hw.1 hF)) hc (h2.tr w3) w2⟩
/-- call 9: lay -/
theorem op_lay {σ : ps_S} (x y : Int32) (h : b_R σ) : ∃ (r : Int32) (τ υ : ps_S), fX4_lay x y σ = some (r, τ) ∧ fX5_lay x y τ = some (r, υ) ∧ b_R υ := by
  obtain ⟨A, hw, hc, hm⟩ := h
  have hm' := thr_R hm
  have hN := g_N_le hw.1
  rcases row_cases (a_g A) x with hx | ⟨hn, r, hr, rfl⟩
  · refine ⟨-1, σ, thr σ, ?_, ?_, b_keep hw hc hm' (thr_fr σ)⟩
    · unfold fX4_lay
      rw [c_hasRow_no hc.1 hw.1 hx]; rfl
    · unfold fX5_lay
      simp only [ps_let]
      rw [m_isRow_no hm'.1 hw.1 hx]; rfl
  rcases n_cases y 8 (by decide) with hy | ⟨hy, hy0⟩ | ⟨what, hwh, rfl⟩
  · refine ⟨-1, σ, thr σ, ?_, ?_, b_keep hw hc hm' (thr_fr σ)⟩
    · unfold fX4_lay
      rw [c_hasRow_yes hc.1 hw.1 hr hn, Option.bind_some, if_neg (by decide), if_pos hy]
    · unfold fX5_lay
      simp only [ps_let]
      rw [m_isRow_yes hm'.1 hw.1 hr hn, Option.bind_some, if_neg (by decide), m_isIn_no (Or.inl hy)]; rfl
  · have h7 : (7 : Int32) < y := lt_of_le (n := 8) (by decide) (by decide) hy hy0
    refine ⟨-1, σ, thr σ, ?_, ?_, b_keep hw hc hm' (thr_fr σ)⟩
    · unfold fX4_lay
      rw [c_hasRow_yes hc.1 hw.1 hr hn, Option.bind_some, if_neg (by decide), if_neg hy0, if_neg (fa_of_lt h7).2.1]
    · unfold fX5_lay
      simp only [ps_let]
      rw [m_isRow_yes hm'.1 hw.1 hr hn, Option.bind_some, if_neg (by decide), m_isIn_no (Or.inr h7)]; rfl
  have hNp := g_N_pos hn
  have h2 := p2_le _ hw.1.1
  have h3 := p2_pos (g_n (a_g A))
  obtain ⟨τ, t1, t2, t3, t4⟩ := c_measureAll hc.1 hw.1 hwh
  have hcτ : c_R τ A := c_R_scr hc (t2.wk (fun k q => by unfold c_scr; omega))
  obtain ⟨υ, u1, u2, u3, u4⟩ := fill_row (step := fun s => fX4_lay_S37 (nI r) s.1 s.2) (σ := τ) (N := g_N (a_g A)) (k := 42) (v := fun x => nI (g_red (g_ms (a_g A) what x : Int))) (by omega) (by
      intro i τ' hi hf hv ho
      have hG := hcτ.1.fr hf (by omega)
      show fX4_lay_S37 (nI r) (nI i) τ' = _
      unfold fX4_lay_S37
      simp only [ps_let]
      have hlt := (g_ms_lt hw.1 (what := what) (s := i) (by omega)).1
      rw [c_countSets hG hw.1, Option.bind_some, if_neg (nI_ge hi (by omega)), pk_ok (by omega) (by decide), nI_clamp (by omega), ho i (Nat.le_refl i), t3 i hi, nI_l (by omega), p_reduce, Option.bind_some, pk_lT (by omega), pk_ok (by omega) (by decide), nI_1]) (by
      intro τ' hf
      have hG := hcτ.1.fr hf (by omega)
      show fX4_lay_S37 (nI r) (nI (g_N (a_g A))) τ' = _
      unfold fX4_lay_S37
      rw [c_countSets hG hw.1, Option.bind_some, if_pos (nI_le (by omega) (by omega))])
  have f42 : ps_fr c_scr σ υ := (t2.wk (fun k q => by unfold c_scr; omega)).tr (u2.wk (fun k q => by unfold c_scr; omega))
  obtain ⟨ω, w1, w2, w3⟩ := c_settle hw (c_R_scr hc f42) hr hn u3
  have hmω : m_R (thr ω) A := thr_R (m_R_c hm ((scr_c f42).tr w3))
  obtain ⟨χ, x1, x2, x3, x4⟩ := fill_row (step := fun s => fX5_lay_S27 (nI r) (nI what) s.1 s.2) (σ := thr ω) (N := g_N (a_g A)) (k := 52) (v := fun x => nI (g_red (g_ms (a_g A) what x : Int))) (by omega) (by
      intro i τ' hi hf hv ho
      have hG := hmω.1.fr hf (by decide)
      show fX5_lay_S27 (nI r) (nI what) (nI i) τ' = _
      unfold fX5_lay_S27
      simp only [ps_let]
      rw [m_all hG hw.1, Option.bind_some, if_neg (nI_nlt (by omega) (by omega)), m_laid hG hw.1 (by omega) hwh, Option.bind_some, pk_ok (by omega) (by decide), nI_clamp (by omega), nI_1]) (by
      intro τ' hf
      have hG := hmω.1.fr hf (by decide)
      show fX5_lay_S27 (nI r) (nI what) (nI (g_N (a_g A))) τ' = _
      unfold fX5_lay_S27
      rw [m_all hG hw.1, Option.bind_some, if_pos (nI_lt (by omega) (by omega))])
  have f52 : ps_fr m_scr (thr ω) χ := x2.wk (fun k q => by unfold m_scr; omega)
  have hmχ : m_R χ A := m_R_scr hmω f52
  obtain ⟨ψ, y1, y2⟩ := op_row (q := g_all (a_g A)) hw w2 (fun s _ => g_red_lt _) hr hn (by unfold g_all; omega) ((thr_fr ω).tr (scr_m f52)) hmχ x3
  refine ⟨nI (g_red (g_ms (a_g A) what (g_all (a_g A)) : Int)), ω, ψ, ?_, ?_, y2⟩
  · unfold fX4_lay
    rw [c_hasRow_yes hc.1 hw.1 hr hn, Option.bind_some, if_neg (by decide), if_neg (nI_pos (by omega)), nl_7, if_pos (nI_le (by omega) (by decide)), t1, Option.bind_some, u1, Option.bind_some, w1, Option.bind_some]
  · unfold fX5_lay
    simp only [ps_let]
    rw [m_isRow_yes hmω.1 hw.1 hr hn, Option.bind_some, if_neg (by decide), nl_7, m_isIn_yes (nI_pos (by omega)) (nI_nlt (by omega) (by decide)), Option.bind_some, if_neg (by decide), x1, Option.bind_some, m_all hmχ.1 hw.1, Option.bind_some, show nI (2 ^ g_n (a_g A) - 1) = nI (g_all (a_g A)) from rfl, y1, Option.bind_some]
