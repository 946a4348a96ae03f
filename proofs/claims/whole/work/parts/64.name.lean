/-! name -/
theorem sm_swap (F : Nat → Nat → Nat) (m : Nat) : ∀ n, fb_sm (fun i => fb_sm (fun k => F i k) m) n = fb_sm (fun k => fb_sm (fun i => F i k) n) m
  | 0 => by
    show 0 = fb_sm (fun _ => 0) m
    rw [fb_sm_const]; omega
  | n + 1 => by
    rw [fb_sm_succ, sm_swap F m n, ← fb_sm_add]
    rfl
theorem sm_one (f : Nat → Nat) {x : Nat} : ∀ {n : Nat}, x < n → fb_sm (fun k => if k = x then f k else 0) n = f x
  | 0, h => absurd h (Nat.not_lt_zero _)
  | n + 1, h => by
    rw [fb_sm_succ]
    by_cases e : n = x
    · subst e
      rw [if_pos rfl, fb_sm_cong (g := fun _ => 0) (fun k hk => if_neg (by omega)), fb_sm_const]; omega
    · rw [if_neg e, sm_one f (by omega)]; omega
/-- a sum in another order -/
theorem sm_inv {g : Nat → Nat} {n : Nat} (h1 : ∀ i, i < n → g i < n) (h2 : ∀ i, g (g i) = i) (f : Nat → Nat) : fb_sm (fun i => f (g i)) n = fb_sm f n := by
  have e1 : fb_sm (fun i => f (g i)) n = fb_sm (fun i => fb_sm (fun k => if k = g i then f k else 0) n) n := fb_sm_cong (fun i hi => (sm_one f (h1 i hi)).symm)
  rw [e1, sm_swap]
  refine fb_sm_cong (fun k hk => ?_)
  have e2 : fb_sm (fun i => if k = g i then f k else 0) n = fb_sm (fun i => if i = g k then f k else 0) n := fb_sm_cong (fun i _ => by
    by_cases e : k = g i
    · rw [if_pos e, if_pos (by rw [e, h2])]
    · rw [if_neg e, if_neg (fun q => e (by rw [q, h2]))])
  rw [e2, sm_one (fun _ => f k) (h1 k hk)]
theorem ct_sm (p : Nat → Bool) : ∀ n, fb_ct p n = fb_sm (fun i => if p i then 1 else 0) n
  | 0 => rfl
  | n + 1 => by rw [fb_ct_succ, fb_sm_succ, ct_sm p n]
/-- told sets with just one of two things -/
def g_pt (w : Nat → Nat) (a b s : Nat) : Bool := decide (0 < w s) && (s.testBit a != s.testBit b)
def g_cp (g : gG) (a b : Nat) : Nat := fb_ct (g_pt (g_w g) a b) 256
theorem g_cp_nm {g : gG} {a b : Nat} (ha : a < 8) (hb : b < 8) (hab : a ≠ b) : g_cp (g_nm a b g) a b = g_cp g a b := by
  unfold g_cp
  rw [ct_sm, ct_sm]
  have := sm_inv (g := g_sw a b) (n := 256) (fun i hi => g_sw_lt (n := 8) ha hb hi) (g_sw_sw hab) (fun i => if g_pt (g_w g) a b i then 1 else 0)
  rw [← this]
  refine fb_sm_cong (fun s _ => ?_)
  have e : g_pt (g_w (g_nm a b g)) a b s = g_pt (g_w g) a b (g_sw a b s) := by
    unfold g_pt
    rw [g_sw_tb hab, g_sw_tb hab]
    unfold t_sw
    rw [if_pos rfl, if_neg (fun q => hab q.symm), if_pos rfl]
    show (decide (0 < g_w g (g_sw a b s)) && _) = _
    congr 1
    cases s.testBit a <;> cases s.testBit b <;> rfl
  rw [e]
theorem c_countParted {σ : ps_S} {g : gG} {a b : Nat} (h : c_G σ 1 g) (hw : g_wf g) (ha : a < 8) (hb : b < 8) : fX1_countParted (nI a) (nI b) σ = some (nI (g_cp g a b)) := by
  unfold fX1_countParted
  obtain ⟨x, hx, hq⟩ := ps_for (step := fun s => fX1_countParted_S5 (nI a) (nI b) σ s.1 s.2) 256 (fun i s => s = (nI (fb_ct (g_pt (g_w g) a b) i), nI i)) (fun x => x = nI (g_cp g a b)) (F := 100000) (s := ((0 : Int32), (0 : Int32))) (by
      intro i s hi e
      subst e
      refine ⟨_, ?_, rfl⟩
      unfold fX1_countParted_S5 fX1_countParted_J33 fX1_countParted_J57 fX1_countParted_J58
      simp only [ps_let]
      rw [nl_256, if_neg (nI_ge hi (by decide)), nl_4, pk_ok (by decide) (by decide), pk_ok hi (by decide), nI_clamp (by decide), nI_clamp (by omega), show 2 + 1 + 4 = 1 + 6 from rfl, h.2.2.1 i hi, bit_s i hi a ha, bit_s i hi b hb, fb_ct_succ, n1, nI_add]
      unfold g_pt
      by_cases e1 : i.testBit a = i.testBit b
      · rw [if_pos (by rw [e1]), if_pos rfl, e1]
        simp
      · rw [if_neg (fun q => e1 (b2i.mp q)), if_neg (by decide)]
        have e3 : (i.testBit a != i.testBit b) = true := by
          revert e1
          cases i.testBit a <;> cases i.testBit b <;> simp
        by_cases e2 : 0 < g_w g i
        · rw [if_neg (fun q => (w_pos (hw.2.1 i)).mp q e2), nI_add, e3]
          simp [e2]
        · rw [if_pos ((w_pos (hw.2.1 i)).mpr e2), e3]
          simp [e2]) (by
      intro s e
      subst e
      exact ⟨_, by unfold fX1_countParted_S5; rw [nl_256, if_pos (nI_le (Nat.le_refl _) (by decide))]; rfl, rfl⟩) rfl (by decide)
  rw [hx, Option.bind_some, hq]
theorem m_isTold {σ : ps_S} {g : gG} (h : m_G σ 47 0 g) (hw : g_wf g) {s : Nat} (hs : s < 256) : fX5_isTold (nI s) σ = some (if 0 < g_w g s then 1 else 0) := by
  unfold fX5_isTold
  rw [n1, nI_add, pk_ok (by omega) (by decide), nI_clamp (by omega), m_w h hs]
  by_cases e : 0 < g_w g s
  · rw [if_neg (fun q => (w_pos (hw.2.1 s)).mp q e), if_pos e]
  · rw [if_pos ((w_pos (hw.2.1 s)).mpr e), if_neg e]; rfl
theorem ct_ext {p : Nat → Bool} {m n : Nat} (hmn : m ≤ n) (hz : ∀ i, m ≤ i → i < n → p i = false) : fb_ct p m = fb_ct p n := by
  obtain ⟨d, rfl⟩ := Nat.exists_eq_add_of_le hmn
  rw [fb_ct_split]
  have : fb_ct (fun k => p (m + k)) d = 0 := fb_ct_zero.mpr (fun k hk => hz _ (by omega) (by omega))
  omega
theorem m_countParted {σ : ps_S} {g : gG} {a b : Nat} (h : m_G σ 47 0 g) (hw : g_wf g) (ha : a < 8) (hb : b < 8) : ps_lp (fun s => fX5_name_S37 (nI a) (nI b) σ s.1 s.2) 100000 ((0 : Int32), (0 : Int32)) = some (nI (g_cp g a b)) := by
  have h2 := p2_le _ hw.1
  have h3 := p2_pos (g_n g)
  obtain ⟨x, hx, hq⟩ := ps_for (step := fun s => fX5_name_S37 (nI a) (nI b) σ s.1 s.2) (2 ^ g_n g) (fun i s => s = (nI (fb_ct (g_pt (g_w g) a b) i), nI i)) (fun x => x = nI (g_cp g a b)) (F := 100000) (s := ((0 : Int32), (0 : Int32))) (by
      intro i s hi e
      subst e
      refine ⟨_, ?_, rfl⟩
      unfold fX5_name_S37 fX5_name_J73
      simp only [ps_let]
      rw [m_all h hw, Option.bind_some, if_neg (nI_nlt (by omega) (by omega)), m_isTold h hw (by omega), Option.bind_some, m_has (by omega) ha, m_has (by omega) hb, Option.bind_some, Option.bind_some, fb_ct_succ, n1, nI_add, nI_add]
      unfold g_pt
      by_cases e2 : 0 < g_w g i
      · rw [if_pos e2, if_neg (by decide)]
        by_cases e1 : i.testBit a = i.testBit b
        · rw [if_pos (by rw [e1]), e1]; simp
        · rw [show nI 1 = 1 from rfl, if_neg (fun q => e1 (b2i.mp q))]
          have e3 : (i.testBit a != i.testBit b) = true := by
            revert e1
            cases i.testBit a <;> cases i.testBit b <;> simp
          rw [e3]; simp [e2]
      · rw [if_neg e2, if_pos rfl]; simp [e2]) (by
      intro s e
      subst e
      refine ⟨_, by unfold fX5_name_S37; rw [m_all h hw, Option.bind_some, if_pos (nI_lt (by omega) (by omega))], ?_⟩
      show nI (fb_ct (g_pt (g_w g) a b) (2 ^ g_n g)) = _
      rw [ct_ext (n := 256) h2 (fun i h1 _ => by unfold g_pt; rw [hw.2.2.1 i (Or.inr h1)]; simp)]; rfl) rfl (by omega)
  rw [hx, hq]
theorem m_swapped {s a b : Nat} (hs : s < 256) (ha : a < 8) (hb : b < 8) : fX5_swapped (nI s) (nI a) (nI b) = some (nI (g_sw a b s)) := by
  unfold fX5_swapped g_sw
  rw [m_has hs ha, Option.bind_some, m_has hs hb, Option.bind_some]
  by_cases e : s.testBit a = s.testBit b
  · rw [if_pos (by rw [e]), if_pos e]
  · rw [if_neg (fun q => e (b2i.mp q)), if_neg e, both_eq ha hb, fb_xorI]
theorem m_swaps {σ : ps_S} {g : gG} {a b o : Nat} (h : m_G σ 47 0 g) (hw : g_wf g) (ha : a < g_n g) (hb : b < g_n g) (hab : a ≠ b) (h1 : 1 ≤ o) (ho : o + 256 ≤ 1289) : ∃ τ, fX5_swaps (nI o) (nI a) (nI b) σ = some τ ∧ ps_fr (fun k => k = 47 ∨ k = 53) σ τ ∧ (∀ x, x < 2 ^ g_n g → τ.1 47 (o + x) = σ.1 47 (o + g_sw a b x)) ∧ ∀ j, j < o ∨ o + 2 ^ g_n g ≤ j → τ.1 47 j = σ.1 47 j := by
  have h8 := hw.1
  have h2 := p2_le _ hw.1
  have h3 := p2_pos (g_n g)
  have AL : ∀ ρ : ps_S, ρ.1 47 0 = σ.1 47 0 → fX5_all ρ = some (nI (2 ^ g_n g - 1)) := fun ρ e => by
    unfold fX5_all fX5_things
    rw [show (0 : Int32) = nI 0 from rfl, pk_ok (by decide) (by decide), nI_clamp (by decide), e, h.1, Option.bind_some, sh1 _ hw.1, n1, pk_sub (p2_pos _)]
  unfold fX5_swaps
  obtain ⟨x, hx, q1, q2⟩ := ps_for (step := fun s => fX5_swaps_S3 (nI o) (nI a) (nI b) s.1 s.2) (2 ^ g_n g)
    (fun i s => s.1 = nI i ∧ ps_fr (fun k => k = 53) σ s.2 ∧ ∀ x, x < i → s.2.1 53 x = σ.1 47 (o + x))
    (fun x => ps_fr (fun k => k = 53) σ x ∧ ∀ y, y < 2 ^ g_n g → x.1 53 y = σ.1 47 (o + y))
    (F := 100000) (s := ((0 : Int32), σ)) (by
      intro i s hi ⟨e, hf, hv⟩
      obtain ⟨a4, τ⟩ := s
      simp only at e hf hv
      subst e
      have e47 := (hf 47 (by decide)).1
      refine ⟨(nI (i + 1), ps_ui τ 53 i (σ.1 47 (o + i))), ?_, rfl, hf.tr (ps_fr_ui rfl), fun x hx => ?_⟩
      · unfold fX5_swaps_S3
        simp only [ps_let]
        rw [AL τ (by rw [e47]), Option.bind_some, if_neg (nI_nlt (by omega) (by omega)), nI_add, pk_ok (by omega) (by decide), pk_ok (by omega) (by decide), nI_clamp (by omega), nI_clamp (by omega), n1, nI_add, e47]
      · show (ps_ui τ 53 i (σ.1 47 (o + i))).1 53 x = _
        rw [pu_i]
        by_cases e : x = i
        · rw [if_pos ⟨rfl, e⟩, e]
        · rw [if_neg (by omega)]; exact hv x (by omega)) (by
      intro s ⟨e, hf, hv⟩
      obtain ⟨a4, τ⟩ := s
      simp only at e hf hv
      subst e
      exact ⟨τ, by unfold fX5_swaps_S3; rw [AL τ (by rw [(hf 47 (by decide)).1]), Option.bind_some, if_pos (nI_lt (by omega) (by omega))], hf, hv⟩) ⟨rfl, ps_fr.rf, fun x hx => absurd hx (Nat.not_lt_zero _)⟩ (by omega)
  rw [hx, Option.bind_some]
  obtain ⟨y, hy, r1, r2, r3⟩ := ps_for (step := fun s => fX5_swaps_S37 (nI o) (nI a) (nI b) s.1 s.2) (2 ^ g_n g)
    (fun i s => s.1 = nI i ∧ ps_fr (fun k => k = 47) x s.2 ∧ (∀ z, z < 2 ^ g_n g → s.2.1 47 (o + z) = if g_sw a b z < i then σ.1 47 (o + g_sw a b z) else σ.1 47 (o + z)) ∧ ∀ j, j < o ∨ o + 2 ^ g_n g ≤ j → s.2.1 47 j = σ.1 47 j)
    (fun y => ps_fr (fun k => k = 47) x y ∧ (∀ z, z < 2 ^ g_n g → y.1 47 (o + z) = σ.1 47 (o + g_sw a b z)) ∧ ∀ j, j < o ∨ o + 2 ^ g_n g ≤ j → y.1 47 j = σ.1 47 j)
    (F := 100000) (s := ((0 : Int32), x)) (by
      intro i s hi ⟨e, hf, hv, hr⟩
      obtain ⟨a4, τ⟩ := s
      simp only at e hf hv hr
      subst e
      have hsi : g_sw a b i < 2 ^ g_n g := g_sw_lt ha hb hi
      have e53 : τ.1 53 i = σ.1 47 (o + i) := by rw [(hf 53 (by decide)).1]; exact q2 i hi
      refine ⟨(nI (i + 1), ps_ui τ 47 (o + g_sw a b i) (σ.1 47 (o + i))), ?_, rfl, hf.tr (ps_fr_ui rfl), fun z hz => ?_, fun j hj => ?_⟩
      · unfold fX5_swaps_S37
        simp only [ps_let]
        rw [AL τ (hr 0 (Or.inl (by omega))), Option.bind_some, if_neg (nI_nlt (by omega) (by omega)), m_swapped (by omega) (by omega) (by omega), Option.bind_some, pk_ok (by omega) (by decide), nI_add, pk_ok (by omega) (by decide), nI_clamp (by omega), nI_clamp (by omega), n1, nI_add, e53]
      · show (ps_ui τ 47 (o + g_sw a b i) (σ.1 47 (o + i))).1 47 (o + z) = _
        rw [pu_i]
        by_cases e : z = g_sw a b i
        · subst e
          rw [if_pos ⟨rfl, rfl⟩, g_sw_sw hab, if_pos (by omega)]
        · have e2 : g_sw a b z ≠ i := fun q => e (by rw [← q, g_sw_sw hab])
          rw [if_neg (by omega), hv z hz]
          by_cases c : g_sw a b z < i
          · rw [if_pos c, if_pos (by omega)]
          · rw [if_neg c, if_neg (by omega)]
      · show (ps_ui τ 47 (o + g_sw a b i) (σ.1 47 (o + i))).1 47 j = _
        rw [pu_i, if_neg (by omega)]; exact hr j hj) (by
      intro s ⟨e, hf, hv, hr⟩
      obtain ⟨a4, τ⟩ := s
      simp only at e hf hv hr
      subst e
      exact ⟨τ, by unfold fX5_swaps_S37; rw [AL τ (hr 0 (Or.inl (by omega))), Option.bind_some, if_pos (nI_lt (by omega) (by omega))], hf, fun z hz => by rw [hv z hz, if_pos (g_sw_lt ha hb hz)], hr⟩) ⟨rfl, ps_fr.rf, fun z hz => by rw [if_neg (by omega), (q1 47 (by decide)).1], fun j _ => by rw [(q1 47 (by decide)).1]⟩ (by omega)
  rw [hy, Option.bind_some]
  exact ⟨y, rfl, (q1.wk (fun _ q => Or.inr q)).tr (r1.wk (fun _ q => Or.inl q)), r2, r3⟩
