/-! images: copies of grounds; image, restore -/
theorem c_copy_8_1 (σ : ps_S) : ∃ τ, fX1_copyFrom_8_1 σ = some τ ∧ ps_fr (fun k => 8 ≤ k ∧ k ≤ 14) σ τ ∧ τ.1 8 2 = σ.1 8 2 ∧ ∀ a, c_G σ 1 a → c_G τ 8 a := by
  unfold fX1_copyFrom_8_1
  simp only [ps_let]
  generalize h2 : ps_ul (ps_ui σ 8 0 (σ.1 1 0)) 8 1 ((ps_ui σ 8 0 (σ.1 1 0)).2 1 1) = σ2
  have f2 : ps_fr (fun k => 8 ≤ k ∧ k ≤ 14) σ σ2 := by
    rw [← h2]
    exact (ps_fr_ui (by decide)).tr (ps_fr_ul (by decide))
  have e0 : σ2.1 8 0 = σ.1 1 0 := by rw [← h2, pu_l1, pu_i, if_pos ⟨rfl, rfl⟩]
  have e2 : σ2.1 8 2 = σ.1 8 2 := by rw [← h2, pu_l1, pu_i, if_neg (by decide)]
  have e1 : σ2.2 8 1 = σ.2 1 1 := by rw [← h2, pu_l, if_pos ⟨rfl, rfl⟩]; rfl
  obtain ⟨x, hx, q1, q2, q3, q4⟩ := ps_for (step := fun s => fX1_copyFrom_8_1_S18 s.1 s.2) 5
    (fun i s => s.1 = nI i ∧ ps_fr (fun k => 8 ≤ k ∧ k ≤ 14) σ s.2 ∧ s.2.1 8 = σ2.1 8 ∧ s.2.2 8 = σ2.2 8 ∧ ∀ l s', l < i → s' < 256 → s.2.1 (8 + 2 + l) s' = σ.1 (1 + 2 + l) s')
    (fun x => ps_fr (fun k => 8 ≤ k ∧ k ≤ 14) σ x ∧ x.1 8 = σ2.1 8 ∧ x.2 8 = σ2.2 8 ∧ ∀ l s', l < 5 → s' < 256 → x.1 (8 + 2 + l) s' = σ.1 (1 + 2 + l) s')
    (F := 100000) (s := ((0 : Int32), σ2)) (by
      intro i s hi ⟨e, hf, g1, g2, hv⟩
      obtain ⟨a2, τ⟩ := s
      simp only at e hf g1 g2 hv
      subst e
      refine ⟨(nI (i + 1), ps_ur τ (9 + 1 + i) (va_cpy (τ.1 (2 + 1 + i)) (τ.1 (9 + 1 + i)) 0 0 256)), ?_, rfl, hf.tr (ps_fr_ur (by omega)), ?_, g2, fun l s' hl hs => ?_⟩
      · unfold fX1_copyFrom_8_1_S18
        simp only [ps_let]
        rw [nl_5, if_neg (nI_ge hi (by decide)), pk_ok hi (by decide), pk_ok hi (by decide), pc_ok (by decide), nI_clamp (by omega), show Int32.toNatClampNeg 0 = 0 from rfl, show Int32.toNatClampNeg 256 = 256 from rfl, n1, nI_add]
      · funext j
        rw [pu_r, if_neg (by omega), g1]
      · simp only
        rw [pu_r]
        by_cases e : l = i
        · rw [if_pos (by omega), sb_cpy0 hs, (hf (2 + 1 + i) (by omega)).1, e, show 1 + 2 + i = 2 + 1 + i by omega]
        · rw [if_neg (by omega)]
          exact hv l s' (by omega) hs) (by
      intro s ⟨e, hf, g1, g2, hv⟩
      obtain ⟨a2, τ⟩ := s
      simp only at e hf g1 g2 hv
      subst e
      exact ⟨τ, by unfold fX1_copyFrom_8_1_S18; rw [nl_5, if_pos (nI_le (Nat.le_refl _) (by decide))], hf, g1, g2, hv⟩) ⟨rfl, f2, rfl, rfl, fun l s' hl => absurd hl (by omega)⟩ (by decide)
  rw [hx, Option.bind_some]
  refine ⟨x, rfl, q1, by rw [q2, e2], fun a ⟨h1, h2, h3, h4⟩ => ⟨by rw [q2, e0]; exact h1, by rw [q3, e1]; exact h2, fun s hs => ?_, fun r s hr hs => ?_⟩⟩
  · rw [show 8 + 6 = 8 + 2 + 4 from rfl, q4 4 s (by decide) hs]; exact h3 s hs
  · rw [q4 r s (by omega) hs]; exact h4 r s hr hs
theorem c_copy_15_1 (σ : ps_S) : ∃ τ, fX1_copyFrom_15_1 σ = some τ ∧ ps_fr (fun k => 15 ≤ k ∧ k ≤ 21) σ τ ∧ τ.1 15 2 = σ.1 15 2 ∧ ∀ a, c_G σ 1 a → c_G τ 15 a := by
  unfold fX1_copyFrom_15_1
  simp only [ps_let]
  generalize h2 : ps_ul (ps_ui σ 15 0 (σ.1 1 0)) 15 1 ((ps_ui σ 15 0 (σ.1 1 0)).2 1 1) = σ2
  have f2 : ps_fr (fun k => 15 ≤ k ∧ k ≤ 21) σ σ2 := by
    rw [← h2]
    exact (ps_fr_ui (by decide)).tr (ps_fr_ul (by decide))
  have e0 : σ2.1 15 0 = σ.1 1 0 := by rw [← h2, pu_l1, pu_i, if_pos ⟨rfl, rfl⟩]
  have e2 : σ2.1 15 2 = σ.1 15 2 := by rw [← h2, pu_l1, pu_i, if_neg (by decide)]
  have e1 : σ2.2 15 1 = σ.2 1 1 := by rw [← h2, pu_l, if_pos ⟨rfl, rfl⟩]; rfl
  obtain ⟨x, hx, q1, q2, q3, q4⟩ := ps_for (step := fun s => fX1_copyFrom_15_1_S18 s.1 s.2) 5
    (fun i s => s.1 = nI i ∧ ps_fr (fun k => 15 ≤ k ∧ k ≤ 21) σ s.2 ∧ s.2.1 15 = σ2.1 15 ∧ s.2.2 15 = σ2.2 15 ∧ ∀ l s', l < i → s' < 256 → s.2.1 (15 + 2 + l) s' = σ.1 (1 + 2 + l) s')
    (fun x => ps_fr (fun k => 15 ≤ k ∧ k ≤ 21) σ x ∧ x.1 15 = σ2.1 15 ∧ x.2 15 = σ2.2 15 ∧ ∀ l s', l < 5 → s' < 256 → x.1 (15 + 2 + l) s' = σ.1 (1 + 2 + l) s')
    (F := 100000) (s := ((0 : Int32), σ2)) (by
      intro i s hi ⟨e, hf, g1, g2, hv⟩
      obtain ⟨a2, τ⟩ := s
      simp only at e hf g1 g2 hv
      subst e
      refine ⟨(nI (i + 1), ps_ur τ (16 + 1 + i) (va_cpy (τ.1 (2 + 1 + i)) (τ.1 (16 + 1 + i)) 0 0 256)), ?_, rfl, hf.tr (ps_fr_ur (by omega)), ?_, g2, fun l s' hl hs => ?_⟩
      · unfold fX1_copyFrom_15_1_S18
        simp only [ps_let]
        rw [nl_5, if_neg (nI_ge hi (by decide)), pk_ok hi (by decide), pk_ok hi (by decide), pc_ok (by decide), nI_clamp (by omega), show Int32.toNatClampNeg 0 = 0 from rfl, show Int32.toNatClampNeg 256 = 256 from rfl, n1, nI_add]
      · funext j
        rw [pu_r, if_neg (by omega), g1]
      · simp only
        rw [pu_r]
        by_cases e : l = i
        · rw [if_pos (by omega), sb_cpy0 hs, (hf (2 + 1 + i) (by omega)).1, e, show 1 + 2 + i = 2 + 1 + i by omega]
        · rw [if_neg (by omega)]
          exact hv l s' (by omega) hs) (by
      intro s ⟨e, hf, g1, g2, hv⟩
      obtain ⟨a2, τ⟩ := s
      simp only at e hf g1 g2 hv
      subst e
      exact ⟨τ, by unfold fX1_copyFrom_15_1_S18; rw [nl_5, if_pos (nI_le (Nat.le_refl _) (by decide))], hf, g1, g2, hv⟩) ⟨rfl, f2, rfl, rfl, fun l s' hl => absurd hl (by omega)⟩ (by decide)
  rw [hx, Option.bind_some]
  refine ⟨x, rfl, q1, by rw [q2, e2], fun a ⟨h1, h2, h3, h4⟩ => ⟨by rw [q2, e0]; exact h1, by rw [q3, e1]; exact h2, fun s hs => ?_, fun r s hr hs => ?_⟩⟩
  · rw [show 15 + 6 = 15 + 2 + 4 from rfl, q4 4 s (by decide) hs]; exact h3 s hs
  · rw [q4 r s (by omega) hs]; exact h4 r s hr hs
theorem c_copy_1_8 (σ : ps_S) : ∃ τ, fX1_copyFrom_1_8 σ = some τ ∧ ps_fr (fun k => 1 ≤ k ∧ k ≤ 7) σ τ ∧ τ.1 1 2 = σ.1 1 2 ∧ ∀ a, c_G σ 8 a → c_G τ 1 a := by
  unfold fX1_copyFrom_1_8
  simp only [ps_let]
  generalize h2 : ps_ul (ps_ui σ 1 0 (σ.1 8 0)) 1 1 ((ps_ui σ 1 0 (σ.1 8 0)).2 8 1) = σ2
  have f2 : ps_fr (fun k => 1 ≤ k ∧ k ≤ 7) σ σ2 := by
    rw [← h2]
    exact (ps_fr_ui (by decide)).tr (ps_fr_ul (by decide))
  have e0 : σ2.1 1 0 = σ.1 8 0 := by rw [← h2, pu_l1, pu_i, if_pos ⟨rfl, rfl⟩]
  have e2 : σ2.1 1 2 = σ.1 1 2 := by rw [← h2, pu_l1, pu_i, if_neg (by decide)]
  have e1 : σ2.2 1 1 = σ.2 8 1 := by rw [← h2, pu_l, if_pos ⟨rfl, rfl⟩]; rfl
  obtain ⟨x, hx, q1, q2, q3, q4⟩ := ps_for (step := fun s => fX1_copyFrom_1_8_S18 s.1 s.2) 5
    (fun i s => s.1 = nI i ∧ ps_fr (fun k => 1 ≤ k ∧ k ≤ 7) σ s.2 ∧ s.2.1 1 = σ2.1 1 ∧ s.2.2 1 = σ2.2 1 ∧ ∀ l s', l < i → s' < 256 → s.2.1 (1 + 2 + l) s' = σ.1 (8 + 2 + l) s')
    (fun x => ps_fr (fun k => 1 ≤ k ∧ k ≤ 7) σ x ∧ x.1 1 = σ2.1 1 ∧ x.2 1 = σ2.2 1 ∧ ∀ l s', l < 5 → s' < 256 → x.1 (1 + 2 + l) s' = σ.1 (8 + 2 + l) s')
    (F := 100000) (s := ((0 : Int32), σ2)) (by
      intro i s hi ⟨e, hf, g1, g2, hv⟩
      obtain ⟨a2, τ⟩ := s
      simp only at e hf g1 g2 hv
      subst e
      refine ⟨(nI (i + 1), ps_ur τ (2 + 1 + i) (va_cpy (τ.1 (9 + 1 + i)) (τ.1 (2 + 1 + i)) 0 0 256)), ?_, rfl, hf.tr (ps_fr_ur (by omega)), ?_, g2, fun l s' hl hs => ?_⟩
      · unfold fX1_copyFrom_1_8_S18
        simp only [ps_let]
        rw [nl_5, if_neg (nI_ge hi (by decide)), pk_ok hi (by decide), pk_ok hi (by decide), pc_ok (by decide), nI_clamp (by omega), show Int32.toNatClampNeg 0 = 0 from rfl, show Int32.toNatClampNeg 256 = 256 from rfl, n1, nI_add]
      · funext j
        rw [pu_r, if_neg (by omega), g1]
      · simp only
        rw [pu_r]
        by_cases e : l = i
        · rw [if_pos (by omega), sb_cpy0 hs, (hf (9 + 1 + i) (by omega)).1, e, show 8 + 2 + i = 9 + 1 + i by omega]
        · rw [if_neg (by omega)]
          exact hv l s' (by omega) hs) (by
      intro s ⟨e, hf, g1, g2, hv⟩
      obtain ⟨a2, τ⟩ := s
      simp only at e hf g1 g2 hv
      subst e
      exact ⟨τ, by unfold fX1_copyFrom_1_8_S18; rw [nl_5, if_pos (nI_le (Nat.le_refl _) (by decide))], hf, g1, g2, hv⟩) ⟨rfl, f2, rfl, rfl, fun l s' hl => absurd hl (by omega)⟩ (by decide)
  rw [hx, Option.bind_some]
  refine ⟨x, rfl, q1, by rw [q2, e2], fun a ⟨h1, h2, h3, h4⟩ => ⟨by rw [q2, e0]; exact h1, by rw [q3, e1]; exact h2, fun s hs => ?_, fun r s hr hs => ?_⟩⟩
  · rw [show 1 + 6 = 1 + 2 + 4 from rfl, q4 4 s (by decide) hs]; exact h3 s hs
  · rw [q4 r s (by omega) hs]; exact h4 r s hr hs
theorem c_copy_1_15 (σ : ps_S) : ∃ τ, fX1_copyFrom_1_15 σ = some τ ∧ ps_fr (fun k => 1 ≤ k ∧ k ≤ 7) σ τ ∧ τ.1 1 2 = σ.1 1 2 ∧ ∀ a, c_G σ 15 a → c_G τ 1 a := by
  unfold fX1_copyFrom_1_15
  simp only [ps_let]
  generalize h2 : ps_ul (ps_ui σ 1 0 (σ.1 15 0)) 1 1 ((ps_ui σ 1 0 (σ.1 15 0)).2 15 1) = σ2
  have f2 : ps_fr (fun k => 1 ≤ k ∧ k ≤ 7) σ σ2 := by
    rw [← h2]
    exact (ps_fr_ui (by decide)).tr (ps_fr_ul (by decide))
  have e0 : σ2.1 1 0 = σ.1 15 0 := by rw [← h2, pu_l1, pu_i, if_pos ⟨rfl, rfl⟩]
  have e2 : σ2.1 1 2 = σ.1 1 2 := by rw [← h2, pu_l1, pu_i, if_neg (by decide)]
  have e1 : σ2.2 1 1 = σ.2 15 1 := by rw [← h2, pu_l, if_pos ⟨rfl, rfl⟩]; rfl
  obtain ⟨x, hx, q1, q2, q3, q4⟩ := ps_for (step := fun s => fX1_copyFrom_1_15_S18 s.1 s.2) 5
    (fun i s => s.1 = nI i ∧ ps_fr (fun k => 1 ≤ k ∧ k ≤ 7) σ s.2 ∧ s.2.1 1 = σ2.1 1 ∧ s.2.2 1 = σ2.2 1 ∧ ∀ l s', l < i → s' < 256 → s.2.1 (1 + 2 + l) s' = σ.1 (15 + 2 + l) s')
    (fun x => ps_fr (fun k => 1 ≤ k ∧ k ≤ 7) σ x ∧ x.1 1 = σ2.1 1 ∧ x.2 1 = σ2.2 1 ∧ ∀ l s', l < 5 → s' < 256 → x.1 (1 + 2 + l) s' = σ.1 (15 + 2 + l) s')
    (F := 100000) (s := ((0 : Int32), σ2)) (by
      intro i s hi ⟨e, hf, g1, g2, hv⟩
      obtain ⟨a2, τ⟩ := s
      simp only at e hf g1 g2 hv
      subst e
      refine ⟨(nI (i + 1), ps_ur τ (2 + 1 + i) (va_cpy (τ.1 (16 + 1 + i)) (τ.1 (2 + 1 + i)) 0 0 256)), ?_, rfl, hf.tr (ps_fr_ur (by omega)), ?_, g2, fun l s' hl hs => ?_⟩
      · unfold fX1_copyFrom_1_15_S18
        simp only [ps_let]
        rw [nl_5, if_neg (nI_ge hi (by decide)), pk_ok hi (by decide), pk_ok hi (by decide), pc_ok (by decide), nI_clamp (by omega), show Int32.toNatClampNeg 0 = 0 from rfl, show Int32.toNatClampNeg 256 = 256 from rfl, n1, nI_add]
      · funext j
        rw [pu_r, if_neg (by omega), g1]
      · simp only
        rw [pu_r]
        by_cases e : l = i
        · rw [if_pos (by omega), sb_cpy0 hs, (hf (16 + 1 + i) (by omega)).1, e, show 15 + 2 + i = 16 + 1 + i by omega]
        · rw [if_neg (by omega)]
          exact hv l s' (by omega) hs) (by
      intro s ⟨e, hf, g1, g2, hv⟩
      obtain ⟨a2, τ⟩ := s
      simp only at e hf g1 g2 hv
      subst e
      exact ⟨τ, by unfold fX1_copyFrom_1_15_S18; rw [nl_5, if_pos (nI_le (Nat.le_refl _) (by decide))], hf, g1, g2, hv⟩) ⟨rfl, f2, rfl, rfl, fun l s' hl => absurd hl (by omega)⟩ (by decide)
  rw [hx, Option.bind_some]
  refine ⟨x, rfl, q1, by rw [q2, e2], fun a ⟨h1, h2, h3, h4⟩ => ⟨by rw [q2, e0]; exact h1, by rw [q3, e1]; exact h2, fun s hs => ?_, fun r s hr hs => ?_⟩⟩
  · rw [show 1 + 6 = 1 + 2 + 4 from rfl, q4 4 s (by decide) hs]; exact h3 s hs
  · rw [q4 r s (by omega) hs]; exact h4 r s hr hs
theorem c_K_same {σ : ps_S} {A A' : gA} (h : c_K σ A) (e1 : a_g A' = a_g A) (e2 : a_k A' = a_k A) (e3 : a_h A' = a_h A) : c_K σ A' := by
  obtain ⟨nx, ln, wa, pw, fa, fb, h0, h1, h2, h3, h4, h5, h6, h7, h8⟩ := h
  exact ⟨nx, ln, wa, pw, fa, fb, h0, by rw [e2]; exact h1, h2, h3, h4, h5, h6, h7, by rw [e1, e2, e3]; exact h8⟩
/-- the image k is what there is -/
def A_img (A : gA) (k : Nat) : gA := (a_g A, a_k A, a_h A, fun i => if i = k then a_g A else a_i A i, fun i => if i = k then true else a_b A i, a_t A, a_l A, a_f A)
theorem A_img_wf {A : gA} {k : Nat} (h : a_wf A) : a_wf (A_img A k) := by
  obtain ⟨w1, w2, w3, w4, w5, w6, w7⟩ := h
  refine ⟨w1, w2, w3, fun i hi hb => ?_, w5, w6, w7⟩
  show g_wf (if i = k then a_g A else a_i A i)
  by_cases e : i = k
  · rw [if_pos e]; exact w1
  · rw [if_neg e]
    have hb' : (if i = k then true else a_b A i) = true := hb
    rw [if_neg e] at hb'
    exact w4 i hi hb'
theorem c_img {σ τ : ps_S} {A : gA} {k : Nat} (hk : k < 2) (hc : c_R σ A) (hf : ps_fr (fun q => 8 + 7 * k ≤ q ∧ q ≤ 8 + 7 * k + 6) σ τ) (hb : τ.1 (8 + 7 * k) 2 = 1) (hg : c_G τ (8 + 7 * k) (a_g A)) : c_R τ (A_img A k) := by
  obtain ⟨q1, q2, q3, q4, q5, q6⟩ := hc
  refine ⟨q1.fr hf (fun j _ _ => by omega), c_K_same (q2.fr hf (fun j _ _ => by omega)) rfl rfl rfl, fun i hi => ?_, fun i hi => by rw [(hf 37 (by omega)).1]; exact q4 i hi, by rw [(hf 36 (by omega)).1]; exact q5, by rw [(hf 36 (by omega)).1]; exact q6⟩
  by_cases e : i = k
  · subst e
    refine ⟨?_, fun _ => ?_⟩
    · rw [hb]
      show (1 : Int32) = if (if i = i then true else a_b A i) = true then 1 else 0
      simp
    · show c_G τ (8 + 7 * i) (if i = i then a_g A else a_i A i)
      rw [if_pos rfl]; exact hg
  · refine ⟨?_, fun hb' => ?_⟩
    · rw [(hf (8 + 7 * i) (by omega)).1, (q3 i hi).1]
      show _ = if (if i = k then true else a_b A i) = true then 1 else 0
      rw [if_neg e]
    · have hb2 : (if i = k then true else a_b A i) = true := hb'
      rw [if_neg e] at hb2
      show c_G τ (8 + 7 * i) (if i = k then a_g A else a_i A i)
      rw [if_neg e]
      exact ((q3 i hi).2 hb2).fr hf (fun j _ _ => by omega)
theorem c_image {σ : ps_S} {A : gA} {k : Nat} (hk : k < 2) (hc : c_R σ A) : ∃ τ, fX4_image (nI k) σ = some (1, τ) ∧ c_R τ (A_img A k) ∧ ps_fr c_own σ τ := by
  unfold fX4_image
  rw [if_neg (nI_pos (by omega)), n1, if_pos (nI_le (by omega) (by decide))]
  rcases (show k = 0 ∨ k = 1 by omega) with rfl | rfl
  · rw [if_pos (show nI 0 = 0 from rfl)]
    obtain ⟨τ, t1, t2, t3, t4⟩ := c_copy_8_1 σ
    unfold fX4_image_J26_1
    simp only [ps_let]
    rw [t1, Option.bind_some]
    have f : ps_fr (fun k => 8 ≤ k ∧ k ≤ 14) σ (ps_ui τ 8 2 1) := t2.tr (ps_fr_ui (by decide))
    refine ⟨_, rfl, c_img (by decide) hc f (by rw [pu_i, if_pos ⟨rfl, rfl⟩]) ?_, f.wk (fun k q => by unfold c_own; omega)⟩
    obtain ⟨h1, h2, h3, h4⟩ := t4 _ hc.1
    exact ⟨by rw [pu_i, if_neg (by decide)]; exact h1, h2, fun s hs => by rw [pu_i, if_neg (by omega)]; exact h3 s hs, fun r s hr hs => by rw [pu_i, if_neg (by omega)]; exact h4 r s hr hs⟩
  · rw [if_neg (by decide)]
    obtain ⟨τ, t1, t2, t3, t4⟩ := c_copy_15_1 σ
    unfold fX4_image_J26
    simp only [ps_let]
    rw [t1, Option.bind_some]
    have f : ps_fr (fun k => 15 ≤ k ∧ k ≤ 21) σ (ps_ui τ 15 2 1) := t2.tr (ps_fr_ui (by decide))
    refine ⟨_, rfl, c_img (by decide) hc f (by rw [pu_i, if_pos ⟨rfl, rfl⟩]) ?_, f.wk (fun k q => by unfold c_own; omega)⟩
    obtain ⟨h1, h2, h3, h4⟩ := t4 _ hc.1
    exact ⟨by rw [pu_i, if_neg (by decide)]; exact h1, h2, fun s hs => by rw [pu_i, if_neg (by omega)]; exact h3 s hs, fun r s hr hs => by rw [pu_i, if_neg (by omega)]; exact h4 r s hr hs⟩
theorem m_image {σ : ps_S} {A : gA} {k : Nat} (hk : k < 2) (hm : m_R σ A) : ∃ τ, fX5_image (nI k) σ = some (1, τ) ∧ m_R τ (A_img A k) ∧ ps_fr m_own σ τ := by
  have l47 : ps_ln 47 = 1289 := rfl
  have l49 : ps_ln 49 = 2578 := rfl
  have hm' := thr_R hm
  obtain ⟨τ, t1, t2, t3⟩ := m_copy (σ := thr σ) (k0 := 47) (k2 := 49) (s0 := 0) (d0 := 1289 * k) (by decide) (by omega) (by omega) (by omega) (by omega)
  unfold fX5_image
  simp only [ps_let]
  rw [n1, m_isIn_yes (nI_pos (by omega)) (nI_nlt (by omega) (by decide)), Option.bind_some, if_neg (by decide), nl_1289, pk_mul, show fX5_copy 47 (0 : Int32) 49 (nI (1289 * k)) (ps_ui σ 45 0 0) = some τ from t1, Option.bind_some, pk_ok hk (by decide), nI_clamp (by omega)]
  have f : ps_fr (fun q => q = 45 ∨ q = 49 ∨ q = 51) σ (ps_ui τ 51 k (vp_nar .boolean (nI 1))) := ((ps_fr_ui (Or.inl rfl)).tr (t2.wk (fun _ q => Or.inr (Or.inl q)))).tr (ps_fr_ui (Or.inr (Or.inr rfl)))
  refine ⟨_, rfl, ?_, f.wk (fun k q => by unfold m_own; omega)⟩
  have f2 : ps_fr (fun q => q = 49 ∨ q = 51) (thr σ) (ps_ui τ 51 k (vp_nar .boolean (nI 1))) := (t2.wk (fun _ q => Or.inl q)).tr (ps_fr_ui (Or.inr rfl))
  obtain ⟨q1, q2, q3, q4, q5, q6, q7⟩ := hm'
  refine ⟨q1.fr f2 (by decide), by rw [(f2 45 (by decide)).1]; exact q2, fun i hi => (q3 i hi).fr f2 (by decide), fun i hi => ?_, fun i hi => by rw [(f2 46 (by decide)).1]; exact q5 i hi, by rw [(f2 45 (by decide)).1]; exact q6, by rw [(f2 45 (by decide)).1]; exact q7⟩
  by_cases e : i = k
  · subst e
    refine ⟨?_, fun _ => ?_⟩
    · rw [pu_i, if_pos ⟨rfl, rfl⟩]
      show vp_nar .boolean (nI 1) = if (if i = i then true else a_b A i) = true then 1 else 0
      rw [if_pos rfl, if_pos rfl]; decide
    · show m_G _ 49 (1289 * i) (if i = i then a_g A else a_i A i)
      rw [if_pos rfl]
      refine m_G_copy q1 (fun j hj => ?_)
      rw [pu_i, if_neg (by omega), t3, if_pos (by omega), show 0 + (1289 * i + j - 1289 * i) = 0 + j by omega]
  · refine ⟨?_, fun hb' => ?_⟩
    · rw [pu_i, if_neg (by omega), (t2 51 (by decide)).1, (q4 i hi).1]
      show _ = if (if i = k then true else a_b A i) = true then 1 else 0
      rw [if_neg e]
    · have hb2 : (if i = k then true else a_b A i) = true := hb'
      rw [if_neg e] at hb2
      show m_G _ 49 (1289 * i) (if i = k then a_g A else a_i A i)
      rw [if_neg e]
      refine m_G_copy ((q4 i hi).2 hb2) (fun j hj => ?_)
      rw [pu_i, if_neg (by omega), t3, if_neg (by omega)]
theorem k_cases (x : Int32) : (x < 0 ∨ nI 1 < x) ∨ ∃ k, k < 2 ∧ x = nI k := by
  rcases n_cases x 2 (by decide) with h | h | h
  · exact Or.inl (Or.inl h)
  · exact Or.inl (Or.inr (lt_of_le (n := 2) (by decide) (by decide) h.1 h.2))
  · exact Or.inr h
theorem le1 {x : Int32} (h : x < 0 ∨ nI 1 < x) (h0 : ¬ x < 0) : ¬ x ≤ nI 1 := fun q => by
  have := h.resolve_left h0
  rw [fa_lt] at this
  rw [fa_le] at q
  omega
/-- call 30: image -/
theorem op_image {σ : ps_S} (x : Int32) (h : b_R σ) : ∃ (r : Int32) (τ υ : ps_S), fX4_image x σ = some (r, τ) ∧ fX5_image x τ = some (r, υ) ∧ b_R υ := by
  obtain ⟨A, hw, hc, hm⟩ := h
  rcases k_cases x with hx | ⟨k, hk, rfl⟩
  · refine ⟨0, σ, thr σ, ?_, ?_, b_keep hw hc (thr_R hm) (thr_fr σ)⟩
    · unfold fX4_image
      by_cases e : x < 0
      · rw [if_pos e]
      · rw [if_neg e, n1, if_neg (le1 hx e)]
    · unfold fX5_image
      simp only [ps_let]
      rw [n1, m_isIn_no hx]; rfl
  · obtain ⟨τ, t1, t2, t3⟩ := c_image hk hc
    obtain ⟨υ, u1, u2, u3⟩ := m_image hk (m_R_c hm t3)
    exact ⟨1, τ, υ, t1, u1, b_both (σ := σ) (A := A) (A_img_wf hw) t2 u3 u2⟩
/-- what there is becomes what was kept -/
def A_rst (A : gA) (g : gG) : gA := (g, 0, a_h A, a_i A, a_b A, a_t A, a_l A, a_f A)
theorem A_rst_wf {A : gA} {g : gG} (h : a_wf A) (hg : g_wf g) : a_wf (A_rst A g) := by
  obtain ⟨w1, w2, w3, w4, w5, w6, w7⟩ := h
  exact ⟨hg, Nat.zero_le _, fun i hi => absurd hi (Nat.not_lt_zero _), w4, w5, w6, w7⟩
theorem c_K_0 {σ : ps_S} {A : gA} {g : gG} (h : c_K σ A) : c_K (ps_ui σ 22 0 0) (A_rst A g) := by
  obtain ⟨nx, ln, wa, pw, fa, fb, h0, h1, h2, h3, h4, h5, h6, h7, h8⟩ := h
  refine ⟨nx, ln, wa, pw, fa, fb, h0, by rw [pu_i, if_pos ⟨rfl, rfl⟩]; rfl, by rw [pu_i, if_neg (by decide)]; exact h2, fun i hi => by rw [pu_i, if_neg (by omega)]; exact h3 i hi, fun i s hi hs => by rw [pu_i, if_neg (by omega)]; exact h4 i s hi hs, h5, fun i hi => by rw [pu_i, if_neg (by omega)]; exact h6 i hi, fun i hi => by rw [pu_i, if_neg (by omega)]; exact h7 i hi, fun i hi => absurd hi (Nat.not_lt_zero _)⟩
theorem c_rst {σ τ : ps_S} {A : gA} {g : gG} (hc : c_R σ A) (hf : ps_fr (fun q => 1 ≤ q ∧ q ≤ 7) σ τ) (hg : c_G τ 1 g) : c_R (ps_ui τ 22 0 0) (A_rst A g) := by
  obtain ⟨q1, q2, q3, q4, q5, q6⟩ := hc
  have f2 : ps_fr (fun q => q = 22) τ (ps_ui τ 22 0 0) := ps_fr_ui rfl
  refine ⟨hg.fr f2 (by omega), c_K_0 (q2.fr hf (by omega)), fun i hi => ⟨?_, fun hb => (((q3 i hi).2 hb).fr hf (by omega)).fr f2 (by omega)⟩, fun i hi => ?_, ?_, ?_⟩
  · rw [(f2 (8 + 7 * i) (by omega)).1, (hf (8 + 7 * i) (by omega)).1]; exact (q3 i hi).1
  · rw [(f2 37 (by omega)).1, (hf 37 (by omega)).1]; exact q4 i hi
  · rw [(f2 36 (by omega)).1, (hf 36 (by omega)).1]; exact q5
  · rw [(f2 36 (by omega)).1, (hf 36 (by omega)).1]; exact q6
theorem c_restore {σ : ps_S} {A : gA} {k : Nat} (hk : k < 2) (hc : c_R σ A) (hb : a_b A k = true) : ∃ τ, fX4_restore (nI k) σ = some (1, τ) ∧ c_R τ (A_rst A (a_i A k)) ∧ ps_fr c_own σ τ := by
  unfold fX4_restore
  rw [if_neg (nI_pos (by omega)), n1, if_pos (nI_le (by omega) (by decide))]
  have hq := hc.2.2.1 k hk
  rw [hb] at hq
  rcases (show k = 0 ∨ k = 1 by omega) with rfl | rfl
  · rw [if_pos (show nI 0 = 0 from rfl)]
    obtain ⟨τ, t1, t2, t3, t4⟩ := c_copy_1_8 σ
    unfold fX4_restore_J26_1 fX0_forget
    simp only [ps_let]
    rw [if_neg (by rw [hq.1]; decide), t1, Option.bind_some, Option.bind_some]
    exact ⟨_, rfl, c_rst hc t2 (t4 _ (hq.2 rfl)), (t2.wk (fun k q => by unfold c_own; omega)).tr (ps_fr_ui (by unfold c_own; decide))⟩
  · rw [if_neg (by decide)]
    obtain ⟨τ, t1, t2, t3, t4⟩ := c_copy_1_15 σ
    unfold fX4_restore_J26 fX0_forget
    simp only [ps_let]
    rw [if_neg (by rw [hq.1]; decide), t1, Option.bind_some, Option.bind_some]
    exact ⟨_, rfl, c_rst hc t2 (t4 _ (hq.2 rfl)), (t2.wk (fun k q => by unfold c_own; omega)).tr (ps_fr_ui (by unfold c_own; decide))⟩
theorem m_restore {σ : ps_S} {A : gA} {k : Nat} (hk : k < 2) (hm : m_R σ A) (hb : a_b A k = true) : ∃ τ, fX5_restore (nI k) σ = some (1, τ) ∧ m_R τ (A_rst A (a_i A k)) ∧ ps_fr m_own σ τ := by
  have l47 : ps_ln 47 = 1289 := rfl
  have l49 : ps_ln 49 = 2578 := rfl
  have hm' := thr_R hm
  obtain ⟨τ, t1, t2, t3⟩ := m_copy (σ := thr σ) (k0 := 49) (k2 := 47) (s0 := 1289 * k) (d0 := 0) (by decide) (by omega) (by omega) (by omega) (by omega)
  obtain ⟨q1, q2, q3, q4, q5, q6, q7⟩ := hm'
  have hq := q4 k hk
  unfold fX5_restore
  simp only [ps_let]
  rw [n1, m_isIn_yes (nI_pos (by omega)) (nI_nlt (by omega) (by decide)), Option.bind_some, if_neg (by decide), pk_ok hk (by decide), nI_clamp (by omega), hq.1, hb, if_neg (by decide), nl_1289, pk_mul, show fX5_copy 49 (nI (1289 * k)) 47 (0 : Int32) (ps_ui σ 45 0 0) = some τ from t1, Option.bind_some]
  have f : ps_fr (fun q => q = 45 ∨ q = 47) σ (ps_ui τ 45 15 0) := ((ps_fr_ui (Or.inl rfl)).tr (t2.wk (fun _ q => Or.inr q))).tr (ps_fr_ui (Or.inl rfl))
  refine ⟨_, rfl, ?_, f.wk (fun k q => by unfold m_own; omega)⟩
  have f3 : ps_fr (fun q => q = 45 ∨ q = 47) (thr σ) (ps_ui τ 45 15 0) := (t2.wk (fun _ q => Or.inr q)).tr (ps_fr_ui (Or.inl rfl))
  refine ⟨?_, by rw [pu_i, if_pos ⟨rfl, rfl⟩]; rfl, fun i hi => absurd hi (Nat.not_lt_zero _), fun i hi => ⟨by rw [(f3 51 (by decide)).1]; exact (q4 i hi).1, fun hb => ((q4 i hi).2 hb).fr f3 (by decide)⟩, fun i hi => by rw [(f3 46 (by decide)).1]; exact q5 i hi, ?_, ?_⟩
  · refine m_G_copy (hq.2 hb) (fun j hj => ?_)
    rw [pu_i, if_neg (by omega), t3, if_pos (by omega), show 1289 * k + (0 + j - 0) = 1289 * k + j by omega]
  · rw [pu_i, if_neg (by omega), (t2 45 (by decide)).1]; exact q6
  · rw [pu_i, if_neg (by omega), (t2 45 (by decide)).1]; exact q7
/-- call 31: restore -/
theorem op_restore {σ : ps_S} (x : Int32) (h : b_R σ) : ∃ (r : Int32) (τ υ : ps_S), fX4_restore x σ = some (r, τ) ∧ fX5_restore x τ = some (r, υ) ∧ b_R υ := by
  obtain ⟨A, hw, hc, hm⟩ := h
  have hm' := thr_R hm
  rcases k_cases x with hx | ⟨k, hk, rfl⟩
  · refine ⟨0, σ, thr σ, ?_, ?_, b_keep hw hc hm' (thr_fr σ)⟩
    · unfold fX4_restore
      by_cases e : x < 0
      · rw [if_pos e]
      · rw [if_neg e, n1, if_neg (le1 hx e)]
    · unfold fX5_restore
      simp only [ps_let]
      rw [n1, m_isIn_no hx]; rfl
  · by_cases hb : a_b A k = true
    · obtain ⟨τ, t1, t2, t3⟩ := c_restore hk hc hb
      obtain ⟨υ, u1, u2, u3⟩ := m_restore hk (m_R_c hm t3) hb
      exact ⟨1, τ, υ, t1, u1, b_both (σ := σ) (A := A) (A_rst_wf hw (hw.2.2.2.1 k hk hb)) t2 u3 u2⟩
    · have hq := (hc.2.2.1 k hk).1
      rw [if_neg hb] at hq
      have hq2 := (hm'.2.2.2.1 k hk).1
      rw [if_neg hb] at hq2
      refine ⟨0, σ, thr σ, ?_, ?_, b_keep hw hc hm' (thr_fr σ)⟩
      · unfold fX4_restore
        rw [if_neg (nI_pos (by omega)), n1, if_pos (nI_le (by omega) (by decide))]
        rcases (show k = 0 ∨ k = 1 by omega) with rfl | rfl
        · rw [if_pos (show nI 0 = 0 from rfl)]
          unfold fX4_restore_J26_1
          rw [if_pos hq]
        · rw [if_neg (by decide)]
          unfold fX4_restore_J26
          rw [if_pos hq]
      · unfold fX5_restore
        simp only [ps_let]
        rw [n1, m_isIn_yes (nI_pos (by omega)) (nI_nlt (by omega) (by decide)), Option.bind_some, if_neg (by decide), pk_ok hk (by decide), nI_clamp (by omega), hq2, if_pos rfl]
