/-! times, the call -/
theorem c_row {σ : ps_S} {a : gG} (h : c_G σ 1 a) {r s : Nat} (hr : r < 4) (hs : s < 256) : σ.1 (2 + 1 + r) s = nI (g_f a r s) := by
  rw [show 2 + 1 + r = 1 + 2 + r by omega]; exact h.2.2.2 r s hr hs
theorem ln_row {r : Nat} (hr : r < 4) : ps_ln (2 + 1 + r) = 256 := by
  rcases (show r = 0 ∨ r = 1 ∨ r = 2 ∨ r = 3 by omega) with rfl | rfl | rfl | rfl <;> rfl
theorem c_multiplyApart {σ : ps_S} {a : gG} {rf rg : Nat} (h : c_G σ 1 a) (hw : g_wf a) (hn : g_n a ≠ 0) (hf : rf < 4) (hg : rg < 4) : ∃ τ, fX4_multiplyApart (2 + 1 + rf) (2 + 1 + rg) σ = some τ ∧ ps_fr (fun q => q = 42) σ τ ∧ ∀ s, s < 2 ^ g_n a → τ.1 42 s = nI (g_red (x_H 0 (2 ^ g_n a) (fun p => (g_f a rf p : Int)) (fun p => (g_f a rg p : Int)) s)) := by
  have h8 := hw.1
  have h2 := p2_le _ h8
  have hN := g_N_pos hn
  have hP : g_P = 1000003 := rfl
  unfold fX4_multiplyApart
  obtain ⟨τ, t1, t2, t3, t4⟩ := fill_row (step := fun s => fX4_multiplyApart_S2 (2 + 1 + rf) (2 + 1 + rg) s.1 s.2) (σ := σ) (N := 2 ^ g_n a) (k := 42) (v := fun s => nI (g_red (x_H 0 (2 ^ g_n a) (fun p => (g_f a rf p : Int)) (fun p => (g_f a rg p : Int)) s))) (by omega) (by
      intro i τ hi hfr hv ho
      have hG := h.fr hfr (by omega)
      show fX4_multiplyApart_S2 (2 + 1 + rf) (2 + 1 + rg) (nI i) τ = _
      unfold fX4_multiplyApart_S2
      simp only [ps_let]
      obtain ⟨e, e1, e2⟩ := c_apart1 (σ := τ) (s := i) (f := g_f a rf) (g := g_f a rg) (ln_row hf) (ln_row hg) (by omega) (fun p hp => ⟨c_row hG hf hp, hw.2.2.2.2.2.2.2.1 rf p⟩) (fun p hp => ⟨c_row hG hg hp, hw.2.2.2.2.2.2.2.1 rg p⟩)
      rw [c_countSets hG hw, Option.bind_some, if_neg (nI_ge (by omega) (by omega)), ln_row hf, ln_row hg, n0, pk_ok (by decide) (by decide), pk_ok (by omega) (by decide), nI_clamp (by decide), nI_clamp (by omega), e1, Option.bind_some, p_reduce, Option.bind_some, pk_ok (by omega) (by decide), nI_1, e2, x_H0 hi]) (by
      intro τ hfr
      have hG := h.fr hfr (by omega)
      show fX4_multiplyApart_S2 (2 + 1 + rf) (2 + 1 + rg) (nI (2 ^ g_n a)) τ = _
      unfold fX4_multiplyApart_S2
      rw [c_countSets hG hw, Option.bind_some, if_pos (nI_le (by omega) (by omega))])
  exact ⟨τ, by rw [t1, Option.bind_some], t2, t3⟩
theorem c_combine {how x y : Nat} (hh : how < 7) (hx : x < 1000003) (hy : y < 1000003) : fX4_combine (nI x) (nI y) (nI how) = some (nI (g_red (x_pr how (x : Int) (y : Int)))) := by
  have := m_product hh hx hy
  unfold fX5_product at this
  rw [z_add] at this
  exact this
theorem pr_red {how : Nat} (X Y : Int) : g_red (x_pr how (g_red X : Int) (g_red Y : Int)) = g_red (x_pr how X Y) := by
  unfold x_pr
  split
  · exact red_add X Y
  · split
    · have := red_lin 1 (-1) X Y
      rw [show (g_red X : Int) - (g_red Y : Int) = 1 * (g_red X : Int) + (-1) * (g_red Y : Int) by omega, show X - Y = 1 * X + (-1) * Y by omega]
      exact this
    · exact red_mul X Y
theorem x_H4 {how N s : Nat} {f g : Nat → Int} (hh : 4 ≤ how) (hs : s < N) : x_H how N f g s = x_pr how (f s) (g s) := by
  have e : ∀ a b, x_T how f g s a b = if a = s then (if b = s then x_pr how (f a) (g b) else 0) else 0 := fun a b => by
    have e0 : x_mk how a b = if a = b then some a else none := by
      unfold x_mk
      rw [if_neg (show ¬ how = 0 by omega), if_neg (show ¬ how = 1 by omega), if_neg (show ¬ how = 2 by omega), if_neg (show ¬ how = 3 by omega)]
    unfold x_T
    rw [e0]
    by_cases c : a = s
    · by_cases d : b = s
      · rw [if_pos c, if_pos d, if_pos]; rw [if_pos (by omega), c]
      · rw [if_pos c, if_neg d, if_neg]; rw [if_neg (by omega)]; simp
    · rw [if_neg c, if_neg]
      by_cases d : a = b
      · rw [if_pos d]; exact fun q => c (Option.some.inj q)
      · rw [if_neg d]; simp
  unfold x_H
  rw [fb_si_cong (g := fun a => if a = s then (fun a => x_pr how (f a) (g s)) a else 0) (fun a _ => ?_), si_one _ hs]
  by_cases c : a = s
  · rw [if_pos c, fb_si_cong (g := fun b => if b = s then (fun b => x_pr how (f a) (g b)) b else 0) (fun b _ => by rw [e, if_pos c]), si_one _ hs]
  · rw [if_neg c]
    exact si_none (fun b _ => by rw [e, if_neg c])
theorem c_multiplyTransformed {σ : ps_S} {a : gG} {rf rg how : Nat} (h : c_G σ 1 a) (hw : g_wf a) (hn : g_n a ≠ 0) (hf : rf < 4) (hg : rg < 4) (hh : how < 7) (hh0 : how ≠ 0) : ∃ τ, fX4_multiplyTransformed (2 + 1 + rf) (2 + 1 + rg) (nI how) σ = some τ ∧ ps_fr c_scr σ τ ∧ ∀ s, s < 2 ^ g_n a → τ.1 42 s = nI (g_red (x_H how (2 ^ g_n a) (fun p => (g_f a rf p : Int)) (fun p => (g_f a rg p : Int)) s)) := by
  have h8 := hw.1
  have h2 := p2_le _ h8
  have hN := g_N_pos hn
  have hP : g_P = 1000003 := rfl
  unfold fX4_multiplyTransformed
  simp only [ps_let]
  rw [ln_row hf, ln_row hg, pc_ok ⟨by decide, by decide, by decide, by decide, by decide⟩, pc_ok ⟨by decide, by decide, by decide, by decide, by decide⟩, show Int32.toNatClampNeg 0 = 0 from rfl, show Int32.toNatClampNeg 256 = 256 from rfl]
  generalize h4 : ps_ur (ps_ur σ 42 (va_cpy (σ.1 (2 + 1 + rf)) (σ.1 42) 0 0 256)) 43 (va_cpy ((ps_ur σ 42 (va_cpy (σ.1 (2 + 1 + rf)) (σ.1 42) 0 0 256)).1 (2 + 1 + rg)) ((ps_ur σ 42 (va_cpy (σ.1 (2 + 1 + rf)) (σ.1 42) 0 0 256)).1 43) 0 0 256) = σ4
  have f4 : ps_fr c_scr σ σ4 := by
    rw [← h4]
    exact (ps_fr_ur (show c_scr 42 by unfold c_scr; omega)).tr (ps_fr_ur (show c_scr 43 by unfold c_scr; omega))
  have v42 : ∀ s, s < 256 → σ4.1 42 s = nI (g_f a rf s) := fun s hs => by
    rw [← h4, pu_r, if_neg (by decide), pu_r, if_pos rfl, sb_cpy0 hs, c_row h hf hs]
  have v43 : ∀ s, s < 256 → σ4.1 43 s = nI (g_f a rg s) := fun s hs => by
    rw [← h4, pu_r, if_pos rfl, sb_cpy0 hs, pu_r, if_neg (by omega), c_row h hg hs]
  have sc : ∀ {σ τ : ps_S} {k : Nat}, (k = 42 ∨ k = 43) → ps_fr (fun q => q = k) σ τ → ps_fr c_scr σ τ := fun hk hfr => hfr.wk (fun q e => by unfold c_scr; omega)
  have nG : ∀ {τ : ps_S}, ps_fr c_scr σ τ → c_G τ 1 a := fun hfr => h.fr hfr (fun k _ hk q => by have := q.1; omega)
  -- the two transforms
  have tr : ∃ (κ κ' : (Nat → Int) → Nat → Int), (∀ (τ : ps_S) (k : Nat) (f : Nat → Int), (k = 42 ∨ k = 43) → (∀ s, s < 2 ^ g_n a → τ.1 k s = nI (g_red (f s))) → ∃ υ, fX4_transform k (nI (g_n a)) (nI how) 0 τ = some υ ∧ ps_fr (fun q => q = k) τ υ ∧ ∀ s, s < 2 ^ g_n a → υ.1 k s = nI (g_red (κ f s))) ∧ (∀ (τ : ps_S) (k : Nat) (f : Nat → Int), (k = 42 ∨ k = 43) → (∀ s, s < 2 ^ g_n a → τ.1 k s = nI (g_red (f s))) → ∃ υ, fX4_transform k (nI (g_n a)) (nI how) 1 τ = some υ ∧ ps_fr (fun q => q = k) τ υ ∧ ∀ s, s < 2 ^ g_n a → υ.1 k s = nI (g_red (κ' f s))) ∧ ∀ (f g : Nat → Int) s, s < 2 ^ g_n a → g_red (κ' (fun p => x_pr how (κ f p) (κ g p)) s) = g_red (x_H how (2 ^ g_n a) f g s) := by
    by_cases h3 : how ≤ 3
    · refine ⟨fun f s => t_y (k_t how false) f (g_n a) s, fun f s => t_y (k_t how true) f (g_n a) s, fun τ k f hk hv => ?_, fun τ k f hk hv => ?_, fun f g s hs => ?_⟩
      · obtain ⟨υ, u1, u2, u3, u4⟩ := c_transform (bw := false) (x := 0) (how := how) (k := k) (by rcases hk with rfl | rfl <;> rfl) h8 (by omega) (by decide) hv
        exact ⟨υ, u1, u2, u3⟩
      · obtain ⟨υ, u1, u2, u3, u4⟩ := c_transform (bw := true) (x := 1) (how := how) (k := k) (by rcases hk with rfl | rfl <;> rfl) h8 (by omega) (by decide) hv
        exact ⟨υ, u1, u2, u3⟩
      · have epr : ∀ x y, x_pr how x y = x * y := fun x y => by unfold x_pr; rw [if_neg (by omega), if_neg (by omega)]
        simp only [epr]
        rcases (show how = 1 ∨ how = 2 ∨ how = 3 by omega) with rfl | rfl | rfl
        · rw [t_prod (O := fun a b => a ||| b) k_E.1 k_O.1 (fun a b i => Nat.testBit_or a b i) (fun a b ha hb => Nat.or_lt_two_pow ha hb) hs, Int.one_pow, Int.one_mul]
          congr 1
          refine fb_si_cong (fun a _ => fb_si_cong (fun b _ => ?_))
          show _ = if some (a ||| b) = some s then _ else _
          by_cases c : a ||| b = s
          · rw [if_pos c, if_pos (by rw [c])]; rfl
          · rw [if_neg c, if_neg (fun q => c (Option.some.inj q))]
        · rw [t_prod (O := fun a b => a &&& b) k_E.2.1 k_O.2.1 (fun a b i => Nat.testBit_and a b i) (fun a b ha hb => Nat.lt_of_le_of_lt Nat.and_le_left ha) hs, Int.one_pow, Int.one_mul]
          congr 1
          refine fb_si_cong (fun a _ => fb_si_cong (fun b _ => ?_))
          show _ = if some (a &&& b) = some s then _ else _
          by_cases c : a &&& b = s
          · rw [if_pos c, if_pos (by rw [c])]; rfl
          · rw [if_neg c, if_neg (fun q => c (Option.some.inj q))]
        · rw [t_prod (O := fun a b => a ^^^ b) k_E.2.2 k_O.2.2 (fun a b i => Nat.testBit_xor a b i) (fun a b ha hb => xor_lt ha hb) hs, red_one]
          congr 1
          refine fb_si_cong (fun a _ => fb_si_cong (fun b _ => ?_))
          show _ = if some (a ^^^ b) = some s then _ else _
          by_cases c : a ^^^ b = s
          · rw [if_pos c, if_pos (by rw [c])]; rfl
          · rw [if_neg c, if_neg (fun q => c (Option.some.inj q))]
    · refine ⟨fun f s => f s, fun f s => f s, fun τ k f hk hv => ⟨τ, c_transform_no (Or.inr (by omega)), ps_fr.rf, hv⟩, fun τ k f hk hv => ⟨τ, c_transform_no (Or.inr (by omega)), ps_fr.rf, hv⟩, fun f g s hs => ?_⟩
      rw [x_H4 (by omega) hs]
  obtain ⟨κ, κ', tf, tb, tm⟩ := tr
  obtain ⟨q5, a1, a2, a3⟩ := tf σ4 42 (fun p => (g_f a rf p : Int)) (Or.inl rfl) (fun s hs => by rw [f_red hw]; exact v42 s (by omega))
  have f5 := f4.tr (sc (Or.inl rfl) a2)
  obtain ⟨q6, b1, b2, b3⟩ := tf q5 43 (fun p => (g_f a rg p : Int)) (Or.inr rfl) (fun s hs => by rw [f_red hw, (a2 43 (by decide)).1]; exact v43 s (by omega))
  have f6 := f5.tr (sc (Or.inr rfl) b2)
  have G6 := nG f6
  obtain ⟨e, e1, e2, e3, e4⟩ := fill_row (step := fun s => fX4_multiplyTransformed_S61 (nI how) s.1 s.2) (σ := q6) (N := 2 ^ g_n a) (k := 42) (v := fun s => nI (g_red (x_pr how (κ (fun p => (g_f a rf p : Int)) s) (κ (fun p => (g_f a rg p : Int)) s)))) (by omega) (by
      intro i τ hi hfr hv ho
      have hG := G6.fr hfr (by omega)
      show fX4_multiplyTransformed_S61 (nI how) (nI i) τ = _
      unfold fX4_multiplyTransformed_S61
      simp only [ps_let]
      rw [c_countSets hG hw, Option.bind_some, if_neg (nI_ge (by omega) (by omega)), pk_ok (by omega) (by decide), pk_ok (by omega) (by decide), nI_clamp (by omega), ho i (Nat.le_refl i), (b2 42 (by decide)).1, a3 i hi, (hfr 43 (by decide)).1, b3 i hi, c_combine hh (g_red_lt _) (g_red_lt _), Option.bind_some, pk_ok (by omega) (by decide), nI_1, pr_red]) (by
      intro τ hfr
      have hG := G6.fr hfr (by omega)
      show fX4_multiplyTransformed_S61 (nI how) (nI (2 ^ g_n a)) τ = _
      unfold fX4_multiplyTransformed_S61
      rw [c_countSets hG hw, Option.bind_some, if_pos (nI_le (by omega) (by omega))])
  have f7 := f6.tr (sc (Or.inl rfl) e2)
  obtain ⟨q8, d1, d2, d3⟩ := tb e 42 _ (Or.inl rfl) e3
  refine ⟨q8, ?_, f7.tr (sc (Or.inl rfl) d2), fun s hs => by rw [d3 s hs, tm _ _ s hs]⟩
  rw [(nG f4).1, a1, Option.bind_some, (nG f5).1, b1, Option.bind_some, e1, Option.bind_some, (nG f7).1, d1, Option.bind_some]
/-- call 12: times -/
theorem op_times {σ : ps_S} (x y v w : Int32) (h : b_R σ) : ∃ (r : Int32) (τ υ : ps_S), fX4_times x y v w σ = some (r, τ) ∧ fX5_times x y v w τ = some (r, υ) ∧ b_R υ := by
  obtain ⟨A, hw, hc, hm⟩ := h
  have hm' := thr_R hm
  have hN := g_N_le hw.1
  have bad : ∀ (P : Prop), (fX4_times x y v w σ = some (-1, σ) ∧ fX5_times x y v w σ = some (-1, thr σ)) → ∃ (r : Int32) (τ υ : ps_S), fX4_times x y v w σ = some (r, τ) ∧ fX5_times x y v w τ = some (r, υ) ∧ b_R υ := fun _ q => ⟨-1, σ, thr σ, q.1, q.2, b_keep hw hc hm' (thr_fr σ)⟩
  rcases row_cases (a_g A) x with hx | ⟨hn, rf, hf, rfl⟩
  · refine bad True ⟨?_, ?_⟩
    · unfold fX4_times
      rw [c_hasRow_no hc.1 hw.1 hx]; rfl
    · unfold fX5_times
      simp only [ps_let]
      rw [m_isRow_no hm'.1 hw.1 hx]; rfl
  rcases row_cases (a_g A) y with hy | ⟨-, rg, hg, rfl⟩
  · refine bad True ⟨?_, ?_⟩
    · unfold fX4_times
      rw [c_hasRow_yes hc.1 hw.1 hf hn, Option.bind_some, if_neg (by decide), c_hasRow_no hc.1 hw.1 hy]; rfl
    · unfold fX5_times
      simp only [ps_let]
      rw [m_isRow_yes hm'.1 hw.1 hf hn, Option.bind_some, if_neg (by decide), m_isRow_no hm'.1 hw.1 hy]; rfl
  rcases row_cases (a_g A) w with hwx | ⟨-, r, hr, rfl⟩
  · refine bad True ⟨?_, ?_⟩
    · unfold fX4_times
      rw [c_hasRow_yes hc.1 hw.1 hf hn, Option.bind_some, if_neg (by decide), c_hasRow_yes hc.1 hw.1 hg hn, Option.bind_some, if_neg (by decide), c_hasRow_no hc.1 hw.1 hwx]; rfl
    · unfold fX5_times
      simp only [ps_let]
      rw [m_isRow_yes hm'.1 hw.1 hf hn, Option.bind_some, if_neg (by decide), m_isRow_yes hm'.1 hw.1 hg hn, Option.bind_some, if_neg (by decide), m_isRow_no hm'.1 hw.1 hwx]; rfl
  rcases n_cases v 7 (by decide) with hv | ⟨hv, hv0⟩ | ⟨how, hh, rfl⟩
  · refine bad True ⟨?_, ?_⟩
    · unfold fX4_times
      rw [c_hasRow_yes hc.1 hw.1 hf hn, Option.bind_some, if_neg (by decide), c_hasRow_yes hc.1 hw.1 hg hn, Option.bind_some, if_neg (by decide), c_hasRow_yes hc.1 hw.1 hr hn, Option.bind_some, if_neg (by decide), if_pos hv]
    · unfold fX5_times
      simp only [ps_let]
      rw [m_isRow_yes hm'.1 hw.1 hf hn, Option.bind_some, if_neg (by decide), m_isRow_yes hm'.1 hw.1 hg hn, Option.bind_some, if_neg (by decide), m_isRow_yes hm'.1 hw.1 hr hn, Option.bind_some, if_neg (by decide), m_isIn_no (Or.inl hv)]; rfl
  · have h7 : (6 : Int32) < v := lt_of_le (n := 7) (by decide) (by decide) hv hv0
    refine bad True ⟨?_, ?_⟩
    · unfold fX4_times
      rw [c_hasRow_yes hc.1 hw.1 hf hn, Option.bind_some, if_neg (by decide), c_hasRow_yes hc.1 hw.1 hg hn, Option.bind_some, if_neg (by decide), c_hasRow_yes hc.1 hw.1 hr hn, Option.bind_some, if_neg (by decide), if_neg hv0, if_neg (fa_of_lt h7).2.1]
    · unfold fX5_times
      simp only [ps_let]
      rw [m_isRow_yes hm'.1 hw.1 hf hn, Option.bind_some, if_neg (by decide), m_isRow_yes hm'.1 hw.1 hg hn, Option.bind_some, if_neg (by decide), m_isRow_yes hm'.1 hw.1 hr hn, Option.bind_some, if_neg (by decide), m_isIn_no (Or.inr h7)]; rfl
  have hNp := g_N_pos hn
  have h2 := p2_le _ hw.1.1
  have h3 := p2_pos (g_n (a_g A))
  have hcl : ∃ τ, ps_fr c_scr σ τ ∧ (∀ s, s < 2 ^ g_n (a_g A) → τ.1 42 s = nI (g_red (x_H how (2 ^ g_n (a_g A)) (fun p => (g_f (a_g A) rf p : Int)) (fun p => (g_f (a_g A) rg p : Int)) s))) ∧ fX4_times (nI rf) (nI rg) (nI how) (nI r) σ = fX4_times_J98 (nI r) τ := by
    unfold fX4_times
    rw [c_hasRow_yes hc.1 hw.1 hf hn, Option.bind_some, if_neg (by decide), c_hasRow_yes hc.1 hw.1 hg hn, Option.bind_some, if_neg (by decide), c_hasRow_yes hc.1 hw.1 hr hn, Option.bind_some, if_neg (by decide), if_neg (nI_pos (by omega)), nl_6, if_pos (nI_le (by omega) (by decide)), pk_ok (by omega) (by decide), pk_ok (by omega) (by decide), pk_ok (by omega) (by decide), pk_ok (by omega) (by decide), nI_clamp (by omega), nI_clamp (by omega)]
    by_cases h0 : how = 0
    · subst h0
      obtain ⟨τ, t1, t2, t3⟩ := c_multiplyApart hc.1 hw.1 hn hf hg
      exact ⟨τ, t2.wk (fun k q => by unfold c_scr; omega), t3, by rw [if_pos (by decide), t1, Option.bind_some]⟩
    · obtain ⟨τ, t1, t2, t3⟩ := c_multiplyTransformed hc.1 hw.1 hn hf hg hh h0
      exact ⟨τ, t2, t3, by rw [if_neg (by rw [nI0_iff (by omega)]; exact h0), t1, Option.bind_some]⟩
  obtain ⟨τ, t1, t2, t3⟩ := hcl
  obtain ⟨ω, w1, w2, w3⟩ := c_settle hw (c_R_scr hc t1) hr hn (F := fun s => g_red (x_H how (2 ^ g_n (a_g A)) (fun p => (g_f (a_g A) rf p : Int)) (fun p => (g_f (a_g A) rg p : Int)) s)) (fun s hs => t2 s (by omega))
  have hmω : m_R (thr ω) A := thr_R (m_R_c hm ((scr_c t1).tr w3))
  obtain ⟨χ, x1, x2, x3, x4⟩ := fill_row (step := fun s => fX5_times_S45 (nI rf) (nI rg) (nI how) (nI r) s.1 s.2) (σ := thr ω) (N := 2 ^ g_n (a_g A)) (k := 52) (v := fun x => nI 0) (by omega) (by
      intro i τ' hi hfr hv ho
      have hG := hmω.1.fr hfr (by decide)
      show fX5_times_S45 (nI rf) (nI rg) (nI how) (nI r) (nI i) τ' = _
      unfold fX5_times_S45
      simp only [ps_let]
      rw [m_all hG hw.1, Option.bind_some, if_neg (nI_nlt (by omega) (by omega)), pk_ok (by omega) (by decide), nI_clamp (by omega), nI_1, ← n0]) (by
      intro τ' hfr
      have hG := hmω.1.fr hfr (by decide)
      show fX5_times_S45 (nI rf) (nI rg) (nI how) (nI r) (nI (2 ^ g_n (a_g A))) τ' = _
      unfold fX5_times_S45
      rw [m_all hG hw.1, Option.bind_some, if_pos (nI_lt (by omega) (by omega))])
  have hGχ := hmω.1.fr x2 (by decide)
  obtain ⟨ψ, y1, y2, y3⟩ := m_timesAll (a4 := nI r) hGχ hw.1 hf hg hh x3
  have f52 : ps_fr m_scr (thr ω) ψ := (x2.tr y2).wk (fun k q => by unfold m_scr; omega)
  have hmψ : m_R ψ A := m_R_scr hmω f52
  obtain ⟨φ, z1, z2⟩ := op_row (q := g_all (a_g A)) hw w2 (fun s _ => g_red_lt _) hr hn (by unfold g_all; omega) ((thr_fr ω).tr (scr_m f52)) hmψ (fun s hs => y3 s (by omega))
  refine ⟨_, ω, φ, by rw [t3]; unfold fX4_times_J98; rw [w1, Option.bind_some], ?_, z2⟩
  unfold fX5_times
  simp only [ps_let]
  rw [m_isRow_yes hmω.1 hw.1 hf hn, Option.bind_some, if_neg (by decide), m_isRow_yes hmω.1 hw.1 hg hn, Option.bind_some, if_neg (by decide), m_isRow_yes hmω.1 hw.1 hr hn, Option.bind_some, if_neg (by decide), nl_6, m_isIn_yes (nI_pos (by omega)) (nI_nlt (by omega) (by decide)), Option.bind_some, if_neg (by decide), x1, Option.bind_some, y1, Option.bind_some, m_all hmψ.1 hw.1, Option.bind_some, show nI (2 ^ g_n (a_g A) - 1) = nI (g_all (a_g A)) from rfl, z1, Option.bind_some]
