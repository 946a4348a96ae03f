/-! undo -/
def A_undo (A : gA) : gA := (a_h A 0, a_k A - 1, fun i => a_h A (i + 1), a_i A, a_b A, a_t A, a_l A, a_f A)
theorem A_undo_wf {A : gA} (h : a_wf A) (hk : 0 < a_k A) : a_wf (A_undo A) := by
  obtain ⟨w1, w2, w3, w4, w5, w6, w7⟩ := h
  refine ⟨w3 0 hk, ?_, fun i hi => ?_, w4, w5, w6, w7⟩
  · show a_k A - 1 ≤ 8
    omega
  · have hi' : i < a_k A - 1 := hi
    exact w3 (i + 1) (by omega)
theorem c_undo {σ : ps_S} {A : gA} (hw : a_wf A) (hc : c_R σ A) (hk0 : 0 < a_k A) : ∃ τ, fX4_undo σ = some (nI (a_k A - 1), τ) ∧ c_R τ (A_undo A) ∧ ps_fr c_own σ τ := by
  have hk := hw.2.1
  obtain ⟨qg, ⟨nx, ln, wa, pw, fa, fb, h0, h1, h2, h3, h4, h5, h6, h7, h8⟩, q3, q4, q5, q6⟩ := hc
  unfold fX4_undo fX0_takeBack
  simp only [ps_let]
  rw [h1, if_neg (nI_ne0 hk0 (by omega)), n1, pk_sub (by omega)]
  have e1 : (ps_ui σ 22 0 (nI (a_k A - 1))).1 22 1 = nI nx := by rw [pu_i, if_neg (by decide)]; exact h2
  rw [e1, nl_8, nI_add, pk_sub (by omega), pk_rem (by omega) (by decide) (by decide), show (nx + 8 - 1) % 8 = (nx + 7 - 0) % 8 by omega]
  have he : (nx + 7 - 0) % 8 < 8 := Nat.mod_lt _ (by decide)
  have hU := h8 0 hk0
  rw [if_pos rfl] at hU
  generalize hE : (nx + 7 - 0) % 8 = E at he hU
  generalize hσ2 : ps_ui (ps_ui σ 22 0 (nI (a_k A - 1))) 22 1 (nI E) = σ2
  have f2 : ps_fr (fun k => k = 22) σ σ2 := by rw [← hσ2]; exact ps_fr.tr (ps_fr_ui rfl) (ps_fr_ui rfl)
  have r0 : σ2.1 22 0 = nI (a_k A - 1) := by rw [← hσ2, pu_i, if_neg (by decide), pu_i, if_pos ⟨rfl, rfl⟩]
  have r1 : σ2.1 22 1 = nI E := by rw [← hσ2, pu_i, if_pos ⟨rfl, rfl⟩]
  have r23 : σ2.1 23 E = nI (ln E) := by rw [(f2 23 (by decide)).1]; exact h3 E he
  have hKn : c_K σ2 (A_undo A) := by
    refine ⟨E, ln, wa, pw, fa, fb, he, r0, r1, fun i hi => by rw [(f2 23 (by decide)).1]; exact h3 i hi, fun i s hi hs => by rw [(f2 (25 + i) (by omega)).1]; exact h4 i s hi hs, fun i hi => by rw [(f2 33 (by decide)).2]; exact h5 i hi, fun i hi => by rw [(f2 34 (by decide)).1]; exact h6 i hi, fun i hi => by rw [(f2 35 (by decide)).1]; exact h7 i hi, fun i hi => ?_⟩
    have hi' : i < a_k A - 1 := hi
    have hq := h8 (i + 1) (by omega)
    rw [if_neg (by omega)] at hq
    have es : (E + 7 - i) % 8 = (nx + 7 - (i + 1)) % 8 := by omega
    rw [es]
    show c_U _ _ _ _ _ (if i = 0 then a_h A 0 else a_h A (i - 1 + 1)) (a_h A (i + 1))
    by_cases ei : i = 0
    · subst ei; rw [if_pos rfl]; exact hq
    · rw [if_neg ei, show i - 1 + 1 = i by omega]; exact hq
  have hG2 : c_G σ2 1 (a_g A) := qg.fr f2 (by omega)
  have fin : ∀ τ : ps_S, ps_fr (fun k => 1 ≤ k ∧ k ≤ 7) σ2 τ → c_G τ 1 (a_h A 0) → (∃ τ', (some (τ.1 22 0, τ) : Option (Int32 × ps_S)) = some (nI (a_k A - 1), τ') ∧ c_R τ' (A_undo A) ∧ ps_fr c_own σ τ') := by
    intro τ hf hg
    have f3 : ps_fr (fun k => k = 22 ∨ (1 ≤ k ∧ k ≤ 7)) σ τ := (f2.wk (fun _ q => Or.inl q)).tr (hf.wk (fun _ q => Or.inr q))
    refine ⟨τ, by rw [(hf 22 (by omega)).1, r0], ⟨hg, hKn.fr hf (by omega), fun i hi => ⟨by rw [(f3 (8 + 7 * i) (by omega)).1]; exact (q3 i hi).1, fun hb => ((q3 i hi).2 hb).fr f3 (by omega)⟩, fun i hi => by rw [(f3 37 (by omega)).1]; exact q4 i hi, by rw [(f3 36 (by omega)).1]; exact q5, by rw [(f3 36 (by omega)).1]; exact q6⟩, f3.wk (fun k q => by unfold c_own; omega)⟩
  rw [r1, pk_ok he (by decide), nI_clamp (by omega), r23, nl_5]
  rcases hU with ⟨u1, u2, u3, u4, u5⟩ | ⟨u1, u2, u3, u4, u5⟩
  · rw [if_pos (by rw [u1]), pk_ok he (by decide), pk_ok he (by decide), (f2 34 (by decide)).1, (f2 35 (by decide)).1, h6 E he, h7 E he]
    obtain ⟨τ, t1, t2, t3, t4⟩ := c_swapNames hG2 hw.1 u2 u3 u4
    rw [t1, Option.bind_some, Option.bind_some]
    exact fin τ (t2.wk (fun k q => by omega)) (by rw [u5]; exact t4)
  · rw [if_neg (fun q => by have := (nI_eq (by omega) (by decide)).mp q; omega), pk_ok he (by decide), pk_ok he (by decide), pk_ok u1 (by decide), pc_ok (by decide), nI_clamp (by omega), show Int32.toNatClampNeg 0 = 0 from rfl, show Int32.toNatClampNeg 256 = 256 from rfl]
    generalize hf : va_cpy (σ2.1 (24 + 1 + E)) (σ2.1 (2 + 1 + ln E)) 0 0 256 = f
    have e3 : (ps_ur σ2 (2 + 1 + ln E) f).1 22 1 = nI E := by rw [pu_r, if_neg (by omega)]; exact r1
    rw [e3, pk_ok he (by decide), nI_clamp (by omega), Option.bind_some]
    rw [show (ps_ur σ2 (2 + 1 + ln E) f).2 33 E = σ2.2 33 E from rfl, (f2 33 (by decide)).2, h5 E he]
    have hfs : ∀ s, s < 256 → f s = nI (wa E s) := fun s hs => by
      rw [← hf, sb_cpy0 hs, (f2 (24 + 1 + E) (by omega)).1, show 24 + 1 + E = 25 + E by omega, h4 E s he hs]
    refine fin _ ((ps_fr_ur (by omega)).tr (ps_fr_ul (by omega))) ⟨?_, ?_, fun s hs => ?_, fun r s hr hs => ?_⟩
    · rw [pu_l1, pu_r, if_neg (by omega), u2]; exact hG2.1
    · rw [pu_l, if_pos ⟨rfl, rfl⟩, u3]
    · rw [pu_l1, pu_r]
      by_cases el : ln E = 4
      · rw [if_pos el] at u4
        rw [if_pos (by omega), hfs s hs, u4 s hs]
      · rw [if_neg el] at u4
        rw [if_neg (by omega), u4 s hs]; exact hG2.2.2.1 s hs
    · rw [pu_l1, pu_r, u5 r s hr hs]
      by_cases el : r = ln E
      · rw [if_pos (by omega), if_pos el, hfs s hs]
      · rw [if_neg (by omega), if_neg el]; exact hG2.2.2.2 r s hr hs
theorem m_undo {σ : ps_S} {A : gA} (hw : a_wf A) (hm : m_R σ A) (hk0 : 0 < a_k A) : ∃ τ, fX5_undo σ = some (nI (a_k A - 1), τ) ∧ m_R τ (A_undo A) ∧ ps_fr m_own σ τ := by
  have hk := hw.2.1
  have l47 : ps_ln 47 = 1289 := rfl
  have l50 : ps_ln 50 = 10312 := rfl
  have hm' := thr_R hm
  unfold fX5_undo
  simp only [ps_let]
  have e15 : (ps_ui σ 45 0 0).1 45 15 = nI (a_k A) := hm'.2.1
  rw [e15, if_neg (nI_ne0 hk0 (by omega)), n1, pk_sub (by omega)]
  generalize hσ2 : ps_ui (ps_ui σ 45 0 0) 45 15 (nI (a_k A - 1)) = σ2
  have f2 : ps_fr (fun k => k = 45) σ σ2 := by rw [← hσ2]; exact ps_fr.tr (ps_fr_ui rfl) (ps_fr_ui rfl)
  have r15 : σ2.1 45 15 = nI (a_k A - 1) := by rw [← hσ2, pu_i, if_pos ⟨rfl, rfl⟩]
  have ro : ∀ j, j ≠ 0 → j ≠ 15 → σ2.1 45 j = σ.1 45 j := fun j h1 h2 => by rw [← hσ2, pu_i, if_neg (by omega), pu_i, if_neg (by omega)]
  obtain ⟨τ, t1, t2, t3⟩ := m_copy (σ := σ2) (k0 := 50) (k2 := 47) (s0 := 1289 * (a_k A - 1)) (d0 := 0) (by decide) (by omega) (by omega) (by omega) (by omega)
  rw [r15, nl_1289, pk_mul, show fX5_copy 50 (nI (1289 * (a_k A - 1))) 47 (0 : Int32) σ2 = some τ from t1, Option.bind_some]
  obtain ⟨q1, q2, q3, q4, q5, q6, q7⟩ := hm
  have f3 : ps_fr (fun k => k = 45 ∨ k = 47) σ τ := (f2.wk (fun _ q => Or.inl q)).tr (t2.wk (fun _ q => Or.inr q))
  refine ⟨τ, by rw [(t2 45 (by decide)).1, r15], ⟨?_, by rw [(t2 45 (by decide)).1, r15]; rfl, fun i hi => ?_, fun i hi => ⟨by rw [(f3 51 (by decide)).1]; exact (q4 i hi).1, fun hb => ((q4 i hi).2 hb).fr f3 (by decide)⟩, fun i hi => by rw [(f3 46 (by decide)).1]; exact q5 i hi, by rw [(t2 45 (by decide)).1, ro 2 (by decide) (by decide)]; exact q6, by rw [(t2 45 (by decide)).1, ro 8 (by decide) (by decide)]; exact q7⟩, f3.wk (fun k q => by unfold m_own; omega)⟩
  · refine m_G_copy (q3 0 hk0) (fun j hj => ?_)
    rw [t3, if_pos (by omega), (f2 50 (by decide)).1, show 1289 * (a_k A - 1) + (0 + j - 0) = 1289 * (a_k A - 1 - 0) + j by omega]
  · have hi' : i < a_k A - 1 := hi
    have hq := (q3 (i + 1) (by omega)).fr f3 (by decide)
    show m_G τ 50 (1289 * (a_k A - 1 - 1 - i)) (a_h A (i + 1))
    rw [show a_k A - 1 - 1 - i = a_k A - 1 - (i + 1) by omega]
    exact hq
/-- call 29: undo -/
theorem op_undo {σ : ps_S} (h : b_R σ) : ∃ (r : Int32) (τ υ : ps_S), fX4_undo σ = some (r, τ) ∧ fX5_undo τ = some (r, υ) ∧ b_R υ := by
  obtain ⟨A, hw, hc, hm⟩ := h
  have hk := hw.2.1
  by_cases hk0 : 0 < a_k A
  · obtain ⟨τ, t1, t2, t3⟩ := c_undo hw hc hk0
    obtain ⟨υ, u1, u2, u3⟩ := m_undo hw (m_R_c hm t3) hk0
    exact ⟨_, τ, υ, t1, u1, b_both (σ := σ) (A := A) (A_undo_wf hw hk0) t2 u3 u2⟩
  · have e : a_k A = 0 := by omega
    have hm' := thr_R hm
    refine ⟨-1, σ, thr σ, ?_, ?_, b_keep hw hc hm' (thr_fr σ)⟩
    · unfold fX4_undo
      obtain ⟨nx, ln, wa, pw, fa, fb, h0, h1, -⟩ := hc.2.1
      rw [h1, e, if_pos (show nI 0 = 0 from rfl)]
    · unfold fX5_undo
      simp only [ps_let]
      rw [if_pos]
      rw [hm'.2.1, e]; rfl
