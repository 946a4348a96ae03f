/-! acts kept on both sides -/
def A_push (A : gA) (g : gG) : gA := (g, min (a_k A + 1) 8, fun i => if i = 0 then a_g A else a_h A (i - 1), a_i A, a_b A, a_t A, a_l A, a_f A)
theorem A_push_wf {A : gA} {g : gG} (h : a_wf A) (hg : g_wf g) : a_wf (A_push A g) := by
  obtain ⟨w1, w2, w3, w4, w5, w6, w7⟩ := h
  refine ⟨hg, Nat.min_le_right _ _, fun i hi => ?_, w4, w5, w6, w7⟩
  have hi' : i < min (a_k A + 1) 8 := hi
  show g_wf (if i = 0 then a_g A else a_h A (i - 1))
  split
  · exact w1
  · exact w3 _ (by omega)
theorem c_K_push {σ τ : ps_S} {A : gA} {g : gG} {nx : Nat} {ln : Nat → Nat} {wa : Nat → Nat → Nat} {pw fa fb : Nat → Nat} (hk : a_k A ≤ 8) (h0 : nx < 8) (h3 : ∀ i, i < 8 → σ.1 23 i = nI (ln i)) (h4 : ∀ i s, i < 8 → s < 256 → σ.1 (25 + i) s = nI (wa i s)) (h5 : ∀ i, i < 8 → σ.2 33 i = lN (pw i)) (h6 : ∀ i, i < 8 → σ.1 34 i = nI (fa i)) (h7 : ∀ i, i < 8 → σ.1 35 i = nI (fb i))
    (h8 : ∀ i, i < a_k A → c_U (ln ((nx + 7 - i) % 8)) (wa ((nx + 7 - i) % 8)) (pw ((nx + 7 - i) % 8)) (fa ((nx + 7 - i) % 8)) (fb ((nx + 7 - i) % 8)) (if i = 0 then a_g A else a_h A (i - 1)) (a_h A i))
    {l0 p0 x0 y0 : Nat} {w0 : Nat → Nat} (k1 : τ.1 22 0 = nI (min (a_k A + 1) 8)) (k2 : τ.1 22 1 = nI ((nx + 1) % 8)) (k3 : ∀ i, i < 8 → τ.1 23 i = if i = nx then nI l0 else σ.1 23 i) (k4 : ∀ i s, i < 8 → s < 256 → τ.1 (25 + i) s = if i = nx then nI (w0 s) else σ.1 (25 + i) s) (k5 : ∀ i, i < 8 → τ.2 33 i = if i = nx then lN p0 else σ.2 33 i) (k6 : ∀ i, i < 8 → τ.1 34 i = if i = nx then nI x0 else σ.1 34 i) (k7 : ∀ i, i < 8 → τ.1 35 i = if i = nx then nI y0 else σ.1 35 i)
    (hU : c_U l0 w0 p0 x0 y0 g (a_g A)) : c_K τ (A_push A g) := by
  refine ⟨(nx + 1) % 8, va_up ln nx l0, va_up wa nx w0, va_up pw nx p0, va_up fa nx x0, va_up fb nx y0, Nat.mod_lt _ (by decide), k1, k2, fun i hi => ?_, fun i s hi hs => ?_, fun i hi => ?_, fun i hi => ?_, fun i hi => ?_, fun i hi => ?_⟩
  · rw [k3 i hi]
    by_cases e : i = nx
    · rw [if_pos e, e, ps_up_eq]
    · rw [if_neg e, ps_up_ne e, h3 i hi]
  · rw [k4 i s hi hs]
    by_cases e : i = nx
    · rw [if_pos e, e, ps_up_eq]
    · rw [if_neg e, ps_up_ne e, h4 i s hi hs]
  · rw [k5 i hi]
    by_cases e : i = nx
    · rw [if_pos e, e, ps_up_eq]
    · rw [if_neg e, ps_up_ne e, h5 i hi]
  · rw [k6 i hi]
    by_cases e : i = nx
    · rw [if_pos e, e, ps_up_eq]
    · rw [if_neg e, ps_up_ne e, h6 i hi]
  · rw [k7 i hi]
    by_cases e : i = nx
    · rw [if_pos e, e, ps_up_eq]
    · rw [if_neg e, ps_up_ne e, h7 i hi]
  · have hi' : i < min (a_k A + 1) 8 := hi
    show c_U _ _ _ _ _ (if i = 0 then g else (if i - 1 = 0 then a_g A else a_h A (i - 1 - 1))) (if i = 0 then a_g A else a_h A (i - 1))
    by_cases e : i = 0
    · subst e
      have en : ((nx + 1) % 8 + 7 - 0) % 8 = nx := by omega
      rw [en, ps_up_eq, ps_up_eq, ps_up_eq, ps_up_eq, ps_up_eq, if_pos rfl, if_pos rfl]
      exact hU
    · have en : ((nx + 1) % 8 + 7 - i) % 8 = (nx + 7 - (i - 1)) % 8 := by omega
      have en2 : (nx + 7 - (i - 1)) % 8 ≠ nx := by omega
      rw [en, ps_up_ne en2, ps_up_ne en2, ps_up_ne en2, ps_up_ne en2, ps_up_ne en2, if_neg e, if_neg e]
      exact h8 (i - 1) (by omega)
theorem c_goOn {σ : ps_S} {nx k l0 : Nat} (h0 : nx < 8) (hk : k ≤ 8) (h1 : σ.1 22 0 = nI k) (h2 : σ.1 22 1 = nI nx) : fX0_goOn (nI l0) σ = some (ps_ui (ps_ui (ps_ui σ 23 nx (nI l0)) 22 1 (nI ((nx + 1) % 8))) 22 0 (nI (min (k + 1) 8))) := by
  unfold fX0_goOn
  simp only [ps_let]
  rw [h2, pk_ok h0 (by decide), nI_clamp (by omega)]
  have e1 : (ps_ui σ 23 nx (nI l0)).1 22 1 = nI nx := by rw [pu_i, if_neg (by omega)]; exact h2
  have e2 : ∀ v, (ps_ui (ps_ui σ 23 nx (nI l0)) 22 1 v).1 22 0 = nI k := fun v => by rw [pu_i, if_neg (by omega), pu_i, if_neg (by omega)]; exact h1
  rw [e1, n1, nI_add, nl_8, pk_rem (by omega) (by decide) (by decide), e2, nI_add]
  congr 3
  by_cases e : 8 < k + 1
  · rw [if_pos ((nI_ltI (by decide) (by omega)).mpr e), show min (k + 1) 8 = 8 by omega]
  · rw [if_neg (fun q => e ((nI_ltI (by decide) (by omega)).mp q)), show min (k + 1) 8 = k + 1 by omega]
/-- what differs from a ground behind a change of the line ln (and of pairs) -/
def g_chg (ln : Nat) (g g' : gG) : Prop := g_n g' = g_n g ∧ (ln ≠ 4 → ∀ s, s < 256 → g_w g' s = g_w g s) ∧ ∀ r s, r < 4 → s < 256 → r ≠ ln → g_f g' r s = g_f g r s
def acts_own (k : Nat) : Prop := 22 ≤ k ∧ k ≤ 35
theorem c_line {σ : ps_S} {a : gG} (h : c_G σ 1 a) {l0 s : Nat} (hl : l0 < 5) (hs : s < 256) : σ.1 (3 + l0) s = nI (if l0 = 4 then g_w a s else g_f a l0 s) := by
  by_cases e : l0 = 4
  · subst e
    exact h.2.2.1 s hs
  · rw [if_neg e, show 3 + l0 = 1 + 2 + l0 by omega]
    exact h.2.2.2 l0 s (by omega) hs
/-- acts.keepLine: what is kept undoes any change of that line and of pairs -/
theorem c_keepLine {σ : ps_S} {A : gA} (hw : a_wf A) (hc : c_R σ A) {l0 : Nat} (hl : l0 < 5) : ∃ τ, fX0_keepLine (nI l0) σ = some τ ∧ ps_fr acts_own σ τ ∧ ∀ g', g_chg l0 (a_g A) g' → c_K τ (A_push A g') := by
  obtain ⟨nx, ln, wa, pw, fa, fb, h0, h1, h2, h3, h4, h5, h6, h7, h8⟩ := hc.2.1
  have hk := hw.2.1
  unfold fX0_keepLine
  simp only [ps_let]
  rw [pk_ok hl (by decide), h2, pk_ok h0 (by decide), pc_ok (by decide), nI_clamp (by omega), nI_clamp (by omega), show Int32.toNatClampNeg 0 = 0 from rfl, show Int32.toNatClampNeg 256 = 256 from rfl]
  generalize hf : va_cpy (σ.1 (2 + 1 + l0)) (σ.1 (24 + 1 + nx)) 0 0 256 = f
  have e1 : (ps_ur σ (24 + 1 + nx) f).1 22 1 = nI nx := by rw [pu_r, if_neg (by omega)]; exact h2
  rw [e1, pk_ok h0 (by decide), nI_clamp (by omega)]
  rw [show (ps_ur σ (24 + 1 + nx) f).2 1 1 = σ.2 1 1 from rfl]
  rw [c_goOn (k := a_k A) h0 hk (by rw [pu_l1, pu_r, if_neg (by omega)]; exact h1) (by rw [pu_l1, pu_r, if_neg (by omega)]; exact h2), Option.bind_some]
  refine ⟨_, rfl, ?_, fun g' hg => ?_⟩
  · refine ((((ps_fr_ur ?_).tr (ps_fr_ul ?_)).tr (ps_fr_ui ?_)).tr (ps_fr_ui ?_)).tr (ps_fr_ui ?_) <;> (unfold acts_own; omega)
  · have hfs : ∀ s, s < 256 → f s = σ.1 (3 + l0) s := fun s hs => by
      rw [← hf, sb_cpy0 hs, show 2 + 1 + l0 = 3 + l0 by omega]
    refine c_K_push (w0 := fun s => if l0 = 4 then g_w (a_g A) s else g_f (a_g A) l0 s) (l0 := l0) (p0 := g_pr (g_j (a_g A))) (x0 := fa nx) (y0 := fb nx) hk h0 h3 h4 h5 h6 h7 h8 ?_ ?_ (fun i hi => ?_) (fun i s hi hs => ?_) (fun i hi => ?_) (fun i hi => ?_) (fun i hi => ?_) ?_
    · simp [pu_i]
    · simp [pu_i]
    · simp only [pu_i, pu_l1, pu_r]
      by_cases e : i = nx
      · simp [e]
      · rw [if_neg (by omega), if_neg (by omega), if_neg (by omega), if_neg (by omega), if_neg e]
    · simp only [pu_i, pu_l1, pu_r]
      rw [if_neg (by omega), if_neg (by omega), if_neg (by omega)]
      by_cases e : i = nx
      · rw [if_pos (by omega), if_pos e, hfs s hs, c_line hc.1 hl hs]
      · rw [if_neg (by omega), if_neg e]
    · simp only [pu_i2, pu_l, pu_r2]
      by_cases e : i = nx
      · simp [e]; exact hc.1.2.1
      · rw [if_neg (by omega), if_neg e]
    · simp only [pu_i, pu_l1, pu_r]
      rw [if_neg (by omega), if_neg (by omega), if_neg (by omega), if_neg (by omega)]
      by_cases e : i = nx
      · rw [if_pos e, e, h6 nx h0]
      · rw [if_neg e]
    · simp only [pu_i, pu_l1, pu_r]
      rw [if_neg (by omega), if_neg (by omega), if_neg (by omega), if_neg (by omega)]
      by_cases e : i = nx
      · rw [if_pos e, e, h7 nx h0]
      · rw [if_neg e]
    · refine Or.inr ⟨hl, hg.1.symm, rfl, ?_, fun r s hr hs => ?_⟩
      · by_cases e : l0 = 4
        · rw [if_pos e]; intro s hs; exact (if_pos e).symm
        · rw [if_neg e]; intro s hs; exact (hg.2.1 e s hs).symm
      · by_cases e : r = l0
        · rw [if_pos e]; subst e; exact (if_neg (by omega)).symm
        · rw [if_neg e]; exact (hg.2.2 r s hr hs e).symm
theorem m_copy {σ : ps_S} {k0 k2 s0 d0 : Nat} (hk : k0 ≠ k2) (hs : s0 + 1289 ≤ ps_ln k0) (hd : d0 + 1289 ≤ ps_ln k2) (h0 : ps_ln k0 < 20000) (h2 : ps_ln k2 < 20000) : ∃ τ, fX5_copy k0 (nI s0) k2 (nI d0) σ = some τ ∧ ps_fr (fun k => k = k2) σ τ ∧ ∀ j, τ.1 k2 j = if d0 ≤ j ∧ j < d0 + 1289 then σ.1 k0 (s0 + (j - d0)) else σ.1 k2 j := by
  unfold fX5_copy
  obtain ⟨x, hx, hq⟩ := ps_for (step := fun s => fX5_copy_S3 k0 (nI s0) k2 (nI d0) s.1 s.2) 1289
    (fun i s => s.1 = nI i ∧ ps_fr (fun k => k = k2) σ s.2 ∧ ∀ j, s.2.1 k2 j = if d0 ≤ j ∧ j < d0 + i then σ.1 k0 (s0 + (j - d0)) else σ.1 k2 j)
    (fun x => ps_fr (fun k => k = k2) σ x ∧ ∀ j, x.1 k2 j = if d0 ≤ j ∧ j < d0 + 1289 then σ.1 k0 (s0 + (j - d0)) else σ.1 k2 j)
    (F := 100000) (s := ((0 : Int32), σ)) (by
      intro i s hi ⟨e1, hf, hv⟩
      obtain ⟨a4, τ⟩ := s
      simp only at e1 hf hv
      subst e1
      refine ⟨(nI (i + 1), ps_ui τ k2 (d0 + i) (τ.1 k0 (s0 + i))), ?_, rfl, hf.tr (ps_fr_ui rfl), fun j => ?_⟩
      · unfold fX5_copy_S3
        simp only [ps_let]
        rw [nl_1289, if_neg (nI_ge hi (by decide)), nI_add, nI_add, pk_ok (by omega) (by omega), pk_ok (by omega) (by omega), nI_clamp (by omega), nI_clamp (by omega), n1, nI_add]
      · rw [pu_i, (hf k0 hk).1]
        by_cases e : j = d0 + i
        · subst e
          rw [if_pos ⟨rfl, rfl⟩, if_pos (by omega), show d0 + i - d0 = i by omega]
        · rw [if_neg (fun q => e q.2), hv j]
          by_cases e2 : d0 ≤ j ∧ j < d0 + i
          · rw [if_pos e2, if_pos (by omega)]
          · rw [if_neg e2, if_neg (by omega)]) (by
      intro s ⟨e1, hf, hv⟩
      obtain ⟨a4, τ⟩ := s
      simp only at e1 hf hv
      subst e1
      exact ⟨τ, by unfold fX5_copy_S3; rw [nl_1289, if_pos (nI_le (Nat.le_refl _) (by decide))], hf, hv⟩) ⟨rfl, ps_fr.rf, fun j => by rw [if_neg (by omega)]⟩ (by decide)
  rw [hx, Option.bind_some]
  exact ⟨x, rfl, hq⟩
theorem m_G_copy {σ τ : ps_S} {c o c' o' : Nat} {a : gG} (h : m_G σ c o a) (e : ∀ j, j < 1289 → τ.1 c' (o' + j) = σ.1 c (o + j)) : m_G τ c' o' a := by
  obtain ⟨h1, h2, h3, h4⟩ := h
  refine ⟨?_, fun s hs => ?_, fun t ht => ?_, fun r s hr hs => ?_⟩
  · have := e 0 (by omega); rw [Nat.add_zero, Nat.add_zero] at this; rw [this]; exact h1
  · rw [show o' + 1 + s = o' + (1 + s) by omega, e (1 + s) (by omega), show o + (1 + s) = o + 1 + s by omega]; exact h2 s hs
  · rw [show o' + 257 + t = o' + (257 + t) by omega, e (257 + t) (by omega), show o + (257 + t) = o + 257 + t by omega]; exact h3 t ht
  · rw [show o' + 265 + 256 * r + s = o' + (265 + 256 * r + s) by omega, e (265 + 256 * r + s) (by omega), show o + (265 + 256 * r + s) = o + 265 + 256 * r + s by omega]; exact h4 r s hr hs
theorem m_snapJ {σ : ps_S} {k : Nat} (hk : k < 8) (h1 : σ.1 45 15 = nI k) : ∃ τ, fX5_snap_J50 σ = some τ ∧ ps_fr (fun q => q = 45 ∨ q = 50) σ τ ∧ (∀ j, j ≠ 15 → τ.1 45 j = σ.1 45 j) ∧ τ.1 45 15 = nI (k + 1) ∧ ∀ j, τ.1 50 j = if 1289 * k ≤ j ∧ j < 1289 * k + 1289 then σ.1 47 (j - 1289 * k) else σ.1 50 j := by
  have l47 : ps_ln 47 = 1289 := rfl
  have l50 : ps_ln 50 = 10312 := rfl
  obtain ⟨τ, h2, h3, h4⟩ := m_copy (σ := σ) (k0 := 47) (k2 := 50) (s0 := 0) (d0 := 1289 * k) (by decide) (by omega) (by omega) (by omega) (by omega)
  unfold fX5_snap_J50
  simp only [ps_let]
  rw [h1, nl_1289, pk_mul, n0, h2, Option.bind_some]
  refine ⟨_, rfl, (h3.wk (fun q h => Or.inr h)).tr (ps_fr_ui (Or.inl rfl)), fun j hj => ?_, ?_, fun j => ?_⟩
  · rw [pu_i, if_neg (fun q => hj q.2), (h3 45 (by decide)).1]
  · rw [pu_i, if_pos ⟨rfl, rfl⟩, (h3 45 (by decide)).1, h1, n1, nI_add]
  · rw [pu_i, if_neg (by omega), h4 j]
    by_cases e : 1289 * k ≤ j ∧ j < 1289 * k + 1289
    · rw [if_pos e, if_pos e, Nat.zero_add]
    · rw [if_neg e, if_neg e]
theorem m_snap {σ : ps_S} {A : gA} (hw : a_wf A) (hm : m_R σ A) : ∃ τ, fX5_snap σ = some τ ∧ ps_fr (fun q => q = 45 ∨ q = 50) σ τ ∧ (∀ j, j ≠ 15 → τ.1 45 j = σ.1 45 j) ∧ τ.1 45 15 = nI (min (a_k A + 1) 8) ∧ ∀ i, i < min (a_k A + 1) 8 → m_G τ 50 (1289 * (min (a_k A + 1) 8 - 1 - i)) (if i = 0 then a_g A else a_h A (i - 1)) := by
  have hk := hw.2.1
  obtain ⟨q1, q2, q3, -⟩ := hm
  unfold fX5_snap
  rw [q2, nl_8]
  by_cases e : a_k A = 8
  · rw [if_pos (by rw [e])]
    obtain ⟨x, hx, hf, h15, hv⟩ := ps_for (step := fun s => fX5_snap_S11 s.1 s.2) 9023
      (fun i s => s.1 = nI i ∧ ps_fr (fun k => k = 50) σ s.2 ∧ ∀ j, s.2.1 50 j = if j < i then σ.1 50 (j + 1289) else σ.1 50 j)
      (fun x => ps_fr (fun k => k = 50) σ x ∧ x.1 45 15 = nI 8 ∧ ∀ j, x.1 50 j = if j < 9023 then σ.1 50 (j + 1289) else σ.1 50 j)
      (F := 100000) (s := ((0 : Int32), σ)) (by
        intro i s hi ⟨e1, hf, hv⟩
        obtain ⟨a4, τ⟩ := s
        simp only at e1 hf hv
        subst e1
        refine ⟨(nI (i + 1), ps_ui τ 50 i (τ.1 50 (i + 1289))), ?_, rfl, hf.tr (ps_fr_ui rfl), fun j => ?_⟩
        · unfold fX5_snap_S11
          simp only [ps_let]
          rw [nl_9023, if_neg (nI_ge hi (by decide)), nl_1289, nI_add, pk_ok (by omega) (by decide), pk_ok (by omega) (by decide), nI_clamp (by omega), nI_clamp (by omega), n1, nI_add]
        · have e0 : τ.1 50 (i + 1289) = σ.1 50 (i + 1289) := by rw [hv, if_neg (by omega)]
          rw [pu_i, e0]
          by_cases e : j = i
          · subst e
            rw [if_pos ⟨rfl, rfl⟩, if_pos (by omega)]
          · rw [if_neg (fun q => e q.2), hv j]
            by_cases e2 : j < i
            · rw [if_pos e2, if_pos (by omega)]
            · rw [if_neg e2, if_neg (by omega)]) (by
        intro s ⟨e1, hf, hv⟩
        obtain ⟨a4, τ⟩ := s
        simp only at e1 hf hv
        subst e1
        exact ⟨τ, by unfold fX5_snap_S11; rw [nl_9023, if_pos (nI_le (Nat.le_refl _) (by decide))], hf, by rw [(hf 45 (by decide)).1, q2, e], hv⟩) ⟨rfl, ps_fr.rf, fun j => by rw [if_neg (by omega)]⟩ (by decide)
    rw [hx, Option.bind_some]
    simp only [ps_let]
    rw [h15, n1, pk_sub (by decide)]
    obtain ⟨τ, t1, t2, t3, t4, t5⟩ := m_snapJ (σ := ps_ui x 45 15 (nI (8 - 1))) (k := 7) (by decide) (by rw [pu_i, if_pos ⟨rfl, rfl⟩])
    refine ⟨τ, t1, ps_fr.tr (ps_fr.tr (hf.wk (Q := fun q => q = 45 ∨ q = 50) (fun q h => Or.inr h)) (ps_fr_ui (Or.inl rfl))) t2, fun j hj => ?_, ?_, fun i hi => ?_⟩
    · rw [t3 j hj, pu_i, if_neg (fun q => hj q.2), (hf 45 (by decide)).1]
    · rw [t4, e]; rfl
    · rw [e] at hi ⊢
      simp only [show min (8 + 1) 8 = 8 from rfl] at hi ⊢
      by_cases ei : i = 0
      · subst ei
        rw [if_pos rfl]
        refine m_G_copy q1 (fun j hj => ?_)
        rw [t5, if_pos (by omega), pu_i, if_neg (by omega), (hf 47 (by decide)).1]
        rw [show 1289 * (8 - 1 - 0) + j - 1289 * 7 = 0 + j by omega]
      · rw [if_neg ei]
        refine m_G_copy (q3 (i - 1) (by omega)) (fun j hj => ?_)
        rw [t5, if_neg (by omega), pu_i, if_neg (by omega), hv, if_pos (by omega), e]
        rw [show 1289 * (8 - 1 - i) + j + 1289 = 1289 * (8 - 1 - (i - 1)) + j by omega]
  · rw [if_neg (fun q => e ((nI_eq (by omega) (by decide)).mp q))]
    obtain ⟨τ, t1, t2, t3, t4, t5⟩ := m_snapJ (σ := σ) (k := a_k A) (by omega) q2
    have em : min (a_k A + 1) 8 = a_k A + 1 := by omega
    refine ⟨τ, t1, t2, t3, by rw [em]; exact t4, fun i hi => ?_⟩
    rw [em] at hi ⊢
    by_cases ei : i = 0
    · subst ei
      rw [if_pos rfl]
      refine m_G_copy q1 (fun j hj => ?_)
      rw [t5, if_pos (by omega)]
      rw [show 1289 * (a_k A + 1 - 1 - 0) + j - 1289 * a_k A = 0 + j by omega]
    · rw [if_neg ei]
      refine m_G_copy (q3 (i - 1) (by omega)) (fun j hj => ?_)
      rw [t5, if_neg (by omega)]
      rw [show 1289 * (a_k A + 1 - 1 - i) + j = 1289 * (a_k A - 1 - (i - 1)) + j by omega]
/-- behind a snap and a change of what is now -/
theorem m_R_push {σ τ υ : ps_S} {A : gA} {g : gG} {P : Nat → Prop} (hm : m_R σ A) (h1 : ps_fr (fun q => q = 45 ∨ q = 50) σ τ) (h2 : ∀ j, j ≠ 15 → τ.1 45 j = σ.1 45 j) (h3 : τ.1 45 15 = nI (min (a_k A + 1) 8)) (h4 : ∀ i, i < min (a_k A + 1) 8 → m_G τ 50 (1289 * (min (a_k A + 1) 8 - 1 - i)) (if i = 0 then a_g A else a_h A (i - 1))) (hf : ps_fr P τ υ) (hP : ∀ k, 45 ≤ k → k ≤ 51 → k ≠ 47 → ¬ P k) (hg : m_G υ 47 0 g) : m_R υ (A_push A g) := by
  obtain ⟨q1, q2, q3, q4, q5, q6, q7⟩ := hm
  have e45 := (hf 45 (hP 45 (by omega) (by omega) (by omega))).1
  refine ⟨hg, ?_, fun i hi => (h4 i hi).fr hf (hP 50 (by omega) (by omega) (by omega)), fun i hi => ⟨?_, fun hb => (((q4 i hi).2 hb).fr h1 (by decide)).fr hf (hP 49 (by omega) (by omega) (by omega))⟩, fun i hi => ?_, ?_, ?_⟩
  · rw [e45]; exact h3
  · rw [(hf 51 (hP 51 (by omega) (by omega) (by omega))).1, (h1 51 (by decide)).1]; exact (q4 i hi).1
  · rw [(hf 46 (hP 46 (by omega) (by omega) (by omega))).1, (h1 46 (by decide)).1]; exact q5 i hi
  · rw [e45, h2 2 (by decide)]; exact q6
  · rw [e45, h2 8 (by decide)]; exact q7
/-- behind keepLine and a change of a line, of pairs -/
theorem c_R_push {σ τ υ : ps_S} {A : gA} {g : gG} {P : Nat → Prop} (hc : c_R σ A) (h1 : ps_fr acts_own σ τ) (h2 : c_K τ (A_push A g)) (hf : ps_fr P τ υ) (hP : ∀ k, 8 ≤ k → k ≤ 37 → ¬ P k) (hg : c_G υ 1 g) : c_R υ (A_push A g) := by
  obtain ⟨q1, q2, q3, q4, q5, q6⟩ := hc
  refine ⟨hg, h2.fr hf (fun k _ _ => hP k (by omega) (by omega)), fun i hi => ⟨?_, fun hb => (((q3 i hi).2 hb).fr h1 (fun k _ _ q => by unfold acts_own at q; omega)).fr hf (fun k _ _ => hP k (by omega) (by omega))⟩, fun i hi => ?_, ?_, ?_⟩
  · rw [(hf (8 + 7 * i) (hP _ (by omega) (by omega))).1, (h1 (8 + 7 * i) (fun q => by unfold acts_own at q; omega)).1]; exact (q3 i hi).1
  · rw [(hf 37 (hP _ (by omega) (by omega))).1, (h1 37 (fun q => by unfold acts_own at q; omega)).1]; exact q4 i hi
  · rw [(hf 36 (hP _ (by omega) (by omega))).1, (h1 36 (fun q => by unfold acts_own at q; omega)).1]; exact q5
  · rw [(hf 36 (hP _ (by omega) (by omega))).1, (h1 36 (fun q => by unfold acts_own at q; omega)).1]; exact q6
