/-! name -/
theorem sm_swap (F : Nat → Nat → Nat) (m : Nat) : ∀ n, fb_sm (fun i => fb_sm (fun k => F i k) m) n = fb_sm (fun k => fb_sm (fun i => F i k) n) m
  | 0 => by
    show 0 = fb_sm (fun _ => 0) m
    rw [fb_sm_const]; omega
  | n + 1 => by
    rw [fb_sm_succ, sm_swap F m n, ← fb_sm_add]
    rfl
theorem sm_one (f : Nat → Nat) {x : Nat} : ∀ {n : Nat}, x < n → fb_sm (fun k => if k = x then f k else 0) n = f x
  | 0, h => absurd h (Nat.not_lt_zero _)
  | n + 1, h => by
    rw [fb_sm_succ]
    by_cases e : n = x
    · subst e
      rw [if_pos rfl, fb_sm_cong (g := fun _ => 0) (fun k hk => if_neg (by omega)), fb_sm_const]; omega
    · rw [if_neg e, sm_one f (by omega)]; omega
/-- a sum in another order -/
theorem sm_inv {g : Nat → Nat} {n : Nat} (h1 : ∀ i, i < n → g i < n) (h2 : ∀ i, g (g i) = i) (f : Nat → Nat) : fb_sm (fun i => f (g i)) n = fb_sm f n := by
  have e1 : fb_sm (fun i => f (g i)) n = fb_sm (fun i => fb_sm (fun k => if k = g i then f k else 0) n) n := fb_sm_cong (fun i hi => (sm_one f (h1 i hi)).symm)
  rw [e1, sm_swap]
  refine fb_sm_cong (fun k hk => ?_)
  have e2 : fb_sm (fun i => if k = g i then f k else 0) n = fb_sm (fun i => if i = g k then f k else 0) n := fb_sm_cong (fun i _ => by
    by_cases e : k = g i
    · rw [if_pos e, if_pos (by rw [e, h2])]
    · rw [if_neg e, if_neg (fun q => e (by rw [q, h2]))])
  rw [e2, sm_one (fun _ => f k) (h1 k hk)]
theorem ct_sm (p : Nat → Bool) : ∀ n, fb_ct p n = fb_sm (fun i => if p i then 1 else 0) n
  | 0 => rfl
  | n + 1 => by rw [fb_ct_succ, fb_sm_succ, ct_sm p n]
/-- told sets with just one of two things -/
def g_pt (w : Nat → Nat) (a b s : Nat) : Bool := decide (0 < w s) && (s.testBit a != s.testBit b)
def g_cp (g : gG) (a b : Nat) : Nat := fb_ct (g_pt (g_w g) a b) 256
theorem g_cp_nm {g : gG} {a b : Nat} (ha : a < 8) (hb : b < 8) (hab : a ≠ b) : g_cp (g_nm a b g) a b = g_cp g a b := by
  unfold g_cp
  rw [ct_sm, ct_sm]
  have := sm_inv (g := g_sw a b) (n := 256) (fun i hi => g_sw_lt (n := 8) ha hb hi) (g_sw_sw hab) (fun i => if g_pt (g_w g) a b i then 1 else 0)
  rw [← this]
  refine fb_sm_cong (fun s _ => ?_)
  have e : g_pt (g_w (g_nm a b g)) a b s = g_pt (g_w g) a b (g_sw a b s) := by
    unfold g_pt
    rw [g_sw_tb hab, g_sw_tb hab]
    unfold t_sw
    rw [if_pos rfl, if_neg (fun q => hab q.symm), if_pos rfl]
    show (decide (0 < g_w g (g_sw a b s)) && _) = _
    congr 1
    cases s.testBit a <;> cases s.testBit b <;> rfl
  rw [e]
theorem c_countParted {σ : ps_S} {g : gG} {a b : Nat} (h : c_G σ 1 g) (hw : g_wf g) (ha : a < 8) (hb : b < 8) : fX1_countParted (nI a) (nI b) σ = some (nI (g_cp g a b)) := by
  unfold fX1_countParted
  obtain ⟨x, hx, hq⟩ := ps_for (step := fun s => fX1_countParted_S5 (nI a) (nI b) σ s.1 s.2) 256 (fun i s => s = (nI (fb_ct (g_pt (g_w g) a b) i), nI i)) (fun x => x = nI (g_cp g a b)) (F := 100000) (s := ((0 : Int32), (0 : Int32))) (by
      intro i s hi e
      subst e
      refine ⟨_, ?_, rfl⟩
      unfold fX1_countParted_S5 fX1_countParted_J33 fX1_countParted_J57 fX1_countParted_J58
      simp only [ps_let]
      rw [nl_256, if_neg (nI_ge hi (by decide)), nl_4, pk_ok (by decide) (by decide), pk_ok hi (by decide), nI_clamp (by decide), nI_clamp (by omega), show 2 + 1 + 4 = 1 + 6 from rfl, h.2.2.1 i hi, bit_s i hi a ha, bit_s i hi b hb, fb_ct_succ, nI_1]
      unfold g_pt
      by_cases e1 : i.testBit a = i.testBit b
      · rw [if_pos (by rw [e1]), if_pos trivial, e1]
        simp
      · rw [if_neg (fun q => e1 (b2i.mp q)), if_neg (by decide)]
        have e3 : (i.testBit a != i.testBit b) = true := by
          revert e1
          cases i.testBit a <;> cases i.testBit b <;> simp
        by_cases e2 : 0 < g_w g i
        · rw [if_neg (fun q => (w_pos (hw.2.1 i)).mp q e2), nI_1, e3]
          simp [e2]
        · rw [if_pos ((w_pos (hw.2.1 i)).mpr e2), e3]
          simp [e2]) (by
      intro s e
      subst e
      exact ⟨_, by unfold fX1_countParted_S5; rw [nl_256, if_pos (nI_le (Nat.le_refl _) (by decide))]; rfl, rfl⟩) rfl (by decide)
  rw [hx, Option.bind_some, hq]
theorem m_isTold {σ : ps_S} {g : gG} (h : m_G σ 47 0 g) (hw : g_wf g) {s : Nat} (hs : s < 256) : fX5_isTold (nI s) σ = some (if 0 < g_w g s then 1 else 0) := by
  unfold fX5_isTold
  rw [n1, nI_add, pk_ok (by omega) (by decide), nI_clamp (by omega), m_w h hs]
  by_cases e : 0 < g_w g s
  · rw [if_neg (fun q => (w_pos (hw.2.1 s)).mp q e), if_pos e]
  · rw [if_pos ((w_pos (hw.2.1 s)).mpr e), if_neg e]
theorem ct_ext {p : Nat → Bool} {m n : Nat} (hmn : m ≤ n) (hz : ∀ i, m ≤ i → i < n → p i = false) : fb_ct p m = fb_ct p n := by
  obtain ⟨d, rfl⟩ := Nat.exists_eq_add_of_le hmn
  rw [fb_ct_split]
  have : fb_ct (fun k => p (m + k)) d = 0 := fb_ct_zero.mpr (fun k hk => hz _ (by omega) (by omega))
  omega
theorem m_countParted {σ : ps_S} {g : gG} {a b : Nat} (h : m_G σ 47 0 g) (hw : g_wf g) (ha : a < 8) (hb : b < 8) : ps_lp (fun s => fX5_name_S37 (nI a) (nI b) σ s.1 s.2) 100000 ((0 : Int32), (0 : Int32)) = some (nI (g_cp g a b)) := by
  have h2 := p2_le _ hw.1
  have h3 := p2_pos (g_n g)
  obtain ⟨x, hx, hq⟩ := ps_for (step := fun s => fX5_name_S37 (nI a) (nI b) σ s.1 s.2) (2 ^ g_n g) (fun i s => s = (nI (fb_ct (g_pt (g_w g) a b) i), nI i)) (fun x => x = nI (g_cp g a b)) (F := 100000) (s := ((0 : Int32), (0 : Int32))) (by
      intro i s hi e
      subst e
      refine ⟨_, ?_, rfl⟩
      unfold fX5_name_S37 fX5_name_J73
      simp only [ps_let]
      rw [m_all h hw, Option.bind_some, if_neg (nI_nlt (by omega) (by omega)), m_isTold h hw (by omega), Option.bind_some, m_has (by omega) ha, m_has (by omega) hb, Option.bind_some, Option.bind_some, fb_ct_succ, n1, nI_add, nI_add]
      unfold g_pt
      by_cases e2 : 0 < g_w g i
      · rw [if_pos e2, if_neg (by decide)]
        by_cases e1 : i.testBit a = i.testBit b
        · rw [if_pos (by rw [e1]), e1]; simp
        · rw [show nI 1 = 1 from rfl, if_neg (fun q => e1 (b2i.mp q))]
          have e3 : (i.testBit a != i.testBit b) = true := by
            revert e1
            cases i.testBit a <;> cases i.testBit b <;> simp
          rw [e3]; simp [e2]
      · rw [if_neg e2, if_pos rfl]; simp [e2]) (by
      intro s e
      subst e
      refine ⟨_, by unfold fX5_name_S37; rw [m_all h hw, Option.bind_some, if_pos (nI_lt (by omega) (by omega))], ?_⟩
      show nI (fb_ct (g_pt (g_w g) a b) (2 ^ g_n g)) = _
      rw [ct_ext (n := 256) h2 (fun i h1 _ => by unfold g_pt; rw [hw.2.2.1 i (Or.inr h1)]; simp)]; rfl) rfl (by omega)
  rw [hx, hq]
theorem m_swapped {s a b : Nat} (hs : s < 256) (ha : a < 8) (hb : b < 8) : fX5_swapped (nI s) (nI a) (nI b) = some (nI (g_sw a b s)) := by
  unfold fX5_swapped g_sw
  rw [m_has hs ha, Option.bind_some, m_has hs hb, Option.bind_some]
  by_cases e : s.testBit a = s.testBit b
  · rw [if_pos (by rw [e]), if_pos e]
  · rw [if_neg (fun q => e (b2i.mp q)), if_neg e, both_eq ha hb, fb_xorI]
theorem m_swaps0 {σ : ps_S} {n a b o : Nat} (h : σ.1 47 0 = nI n) (h8 : n ≤ 8) (ha : a < n) (hb : b < n) (hab : a ≠ b) (h1 : 1 ≤ o) (ho : o + 256 ≤ 1289) : ∃ τ, fX5_swaps (nI o) (nI a) (nI b) σ = some τ ∧ ps_fr (fun k => k = 47 ∨ k = 53) σ τ ∧ (∀ x, x < 2 ^ n → τ.1 47 (o + x) = σ.1 47 (o + g_sw a b x)) ∧ ∀ j, j < o ∨ o + 2 ^ n ≤ j → τ.1 47 j = σ.1 47 j := by
  have h2 := p2_le _ h8
  have h3 := p2_pos n
  have AL : ∀ ρ : ps_S, ρ.1 47 0 = σ.1 47 0 → fX5_all ρ = some (nI (2 ^ n - 1)) := fun ρ e => by
    unfold fX5_all fX5_things
    rw [show (0 : Int32) = nI 0 from rfl, pk_ok (by decide) (by decide), nI_clamp (by decide), e, h, Option.bind_some, sh1 _ h8, n1, pk_sub (p2_pos _)]
  unfold fX5_swaps
  obtain ⟨x, hx, q1, q2⟩ := ps_for (step := fun s => fX5_swaps_S3 (nI o) (nI a) (nI b) s.1 s.2) (2 ^ n)
    (fun i s => s.1 = nI i ∧ ps_fr (fun k => k = 53) σ s.2 ∧ ∀ x, x < i → s.2.1 53 x = σ.1 47 (o + x))
    (fun x => ps_fr (fun k => k = 53) σ x ∧ ∀ y, y < 2 ^ n → x.1 53 y = σ.1 47 (o + y))
    (F := 100000) (s := ((0 : Int32), σ)) (by
      intro i s hi ⟨e, hf, hv⟩
      obtain ⟨a4, τ⟩ := s
      simp only at e hf hv
      subst e
      have e47 := (hf 47 (by decide)).1
      refine ⟨(nI (i + 1), ps_ui τ 53 i (σ.1 47 (o + i))), ?_, rfl, hf.tr (ps_fr_ui rfl), fun x hx => ?_⟩
      · unfold fX5_swaps_S3
        simp only [ps_let]
        rw [AL τ (by rw [e47]), Option.bind_some, if_neg (nI_nlt (by omega) (by omega)), nI_add, pk_ok (by omega) (by decide), pk_ok (by omega) (by decide), nI_clamp (by omega), nI_clamp (by omega), n1, nI_add, e47]
      · show (ps_ui τ 53 i (σ.1 47 (o + i))).1 53 x = _
        rw [pu_i]
        by_cases e : x = i
        · rw [if_pos ⟨rfl, e⟩, e]
        · rw [if_neg (by omega)]; exact hv x (by omega)) (by
      intro s ⟨e, hf, hv⟩
      obtain ⟨a4, τ⟩ := s
      simp only at e hf hv
      subst e
      exact ⟨τ, by unfold fX5_swaps_S3; rw [AL τ (by rw [(hf 47 (by decide)).1]), Option.bind_some, if_pos (nI_lt (by omega) (by omega))], hf, hv⟩) ⟨rfl, ps_fr.rf, fun x hx => absurd hx (Nat.not_lt_zero _)⟩ (by omega)
  rw [hx, Option.bind_some]
  obtain ⟨y, hy, r1, r2, r3⟩ := ps_for (step := fun s => fX5_swaps_S37 (nI o) (nI a) (nI b) s.1 s.2) (2 ^ n)
    (fun i s => s.1 = nI i ∧ ps_fr (fun k => k = 47) x s.2 ∧ (∀ z, z < 2 ^ n → s.2.1 47 (o + z) = if g_sw a b z < i then σ.1 47 (o + g_sw a b z) else σ.1 47 (o + z)) ∧ ∀ j, j < o ∨ o + 2 ^ n ≤ j → s.2.1 47 j = σ.1 47 j)
    (fun y => ps_fr (fun k => k = 47) x y ∧ (∀ z, z < 2 ^ n → y.1 47 (o + z) = σ.1 47 (o + g_sw a b z)) ∧ ∀ j, j < o ∨ o + 2 ^ n ≤ j → y.1 47 j = σ.1 47 j)
    (F := 100000) (s := ((0 : Int32), x)) (by
      intro i s hi ⟨e, hf, hv, hr⟩
      obtain ⟨a4, τ⟩ := s
      simp only at e hf hv hr
      subst e
      have hsi : g_sw a b i < 2 ^ n := g_sw_lt ha hb hi
      have e53 : τ.1 53 i = σ.1 47 (o + i) := by rw [(hf 53 (by decide)).1]; exact q2 i hi
      refine ⟨(nI (i + 1), ps_ui τ 47 (o + g_sw a b i) (σ.1 47 (o + i))), ?_, rfl, hf.tr (ps_fr_ui rfl), fun z hz => ?_, fun j hj => ?_⟩
      · unfold fX5_swaps_S37
        simp only [ps_let]
        rw [AL τ (hr 0 (Or.inl (by omega))), Option.bind_some, if_neg (nI_nlt (by omega) (by omega)), m_swapped (by omega) (by omega) (by omega), Option.bind_some, pk_ok (by omega) (by decide), nI_add, pk_ok (by omega) (by decide), nI_clamp (by omega), nI_clamp (by omega), n1, nI_add, e53]
      · show (ps_ui τ 47 (o + g_sw a b i) (σ.1 47 (o + i))).1 47 (o + z) = _
        rw [pu_i]
        by_cases e : z = g_sw a b i
        · subst e
          rw [if_pos ⟨rfl, rfl⟩, g_sw_sw hab, if_pos (by omega)]
        · have e2 : g_sw a b z ≠ i := fun q => e (by rw [← q, g_sw_sw hab])
          rw [if_neg (by omega), hv z hz]
          by_cases c : g_sw a b z < i
          · rw [if_pos c, if_pos (by omega)]
          · rw [if_neg c, if_neg (by omega)]
      · show (ps_ui τ 47 (o + g_sw a b i) (σ.1 47 (o + i))).1 47 j = _
        rw [pu_i, if_neg (by omega)]; exact hr j hj) (by
      intro s ⟨e, hf, hv, hr⟩
      obtain ⟨a4, τ⟩ := s
      simp only at e hf hv hr
      subst e
      exact ⟨τ, by unfold fX5_swaps_S37; rw [AL τ (hr 0 (Or.inl (by omega))), Option.bind_some, if_pos (nI_lt (by omega) (by omega))], hf, fun z hz => by rw [hv z hz, if_pos (g_sw_lt ha hb hz)], hr⟩) ⟨rfl, ps_fr.rf, fun z hz => by rw [if_neg (by omega), (q1 47 (by decide)).1], fun j _ => by rw [(q1 47 (by decide)).1]⟩ (by omega)
  rw [hy, Option.bind_some]
  exact ⟨y, rfl, (q1.wk (fun _ q => Or.inr q)).tr (r1.wk (fun _ q => Or.inl q)), r2, r3⟩
theorem m_swaps {σ : ps_S} {g : gG} {a b o : Nat} (h : m_G σ 47 0 g) (hw : g_wf g) (ha : a < g_n g) (hb : b < g_n g) (hab : a ≠ b) (h1 : 1 ≤ o) (ho : o + 256 ≤ 1289) : ∃ τ, fX5_swaps (nI o) (nI a) (nI b) σ = some τ ∧ ps_fr (fun k => k = 47 ∨ k = 53) σ τ ∧ (∀ x, x < 2 ^ g_n g → τ.1 47 (o + x) = σ.1 47 (o + g_sw a b x)) ∧ ∀ j, j < o ∨ o + 2 ^ g_n g ≤ j → τ.1 47 j = σ.1 47 j := m_swaps0 h.1 hw.1 ha hb hab h1 ho
theorem m_G_th {ρ : ps_S} {n : Nat} (h : ρ.1 47 0 = nI n) : fX5_things ρ = some (nI n) := by
  unfold fX5_things
  rw [show (0 : Int32) = nI 0 from rfl, pk_ok (by decide) (by decide), nI_clamp (by decide), h]
/-- the model's change of names behind the snap -/
theorem m_names {σ : ps_S} {g : gG} {a b : Nat} (h : m_G σ 47 0 g) (hw : g_wf g) (ha : a < g_n g) (hb : b < g_n g) (hab : a ≠ b) (c : Int32) : ∃ τ, ((fX5_swaps (1 : Int32) (nI a) (nI b) σ).bind fun q12 =>
  ((ps_lp (fun s => fX5_name_S89 (nI a) (nI b) c s.1 s.2) 100000 ((0 : Int32), q12)).bind fun e15 =>
  ((ps_lp (fun s => fX5_name_S120 (nI a) (nI b) c s.1 s.2) 100000 ((0 : Int32), e15)).bind fun e21 =>
  ((ps_lp (fun s => fX5_name_S156 (nI a) (nI b) c s.1 s.2) 100000 ((0 : Int32), e21)).bind fun e28 =>
  some (c, e28))))) = some (c, τ) ∧ ps_fr (fun k => k = 47 ∨ k = 53) σ τ ∧ m_G τ 47 0 (g_nm a b g) := by
  have h8 := hw.1
  have h2 := p2_le _ hw.1
  have h3 := p2_pos (g_n g)
  have hz : ∀ s, 2 ^ g_n g ≤ s → 2 ^ g_n g ≤ g_sw a b s := fun s hs => Nat.not_lt.mp fun q => by
    have := g_sw_lt ha hb q
    rw [g_sw_sw hab] at this
    omega
  obtain ⟨σ1, a1, a2, a3, a4⟩ := m_swaps (o := 1) h hw ha hb hab (by omega) (by omega)
  rw [show (1 : Int32) = nI 1 from rfl, a1, Option.bind_some]
  obtain ⟨σ2, b1, b2, b3, b4⟩ := ps_for (step := fun s => fX5_name_S89 (nI a) (nI b) c s.1 s.2) 4
    (fun i s => s.1 = nI i ∧ ps_fr (fun k => k = 47 ∨ k = 53) σ s.2 ∧ (∀ r x, r < 4 → x < 2 ^ g_n g → s.2.1 47 (265 + 256 * r + x) = if r < i then σ.1 47 (265 + 256 * r + g_sw a b x) else σ.1 47 (265 + 256 * r + x)) ∧ (∀ j, j < 265 → s.2.1 47 j = σ1.1 47 j) ∧ ∀ r x, r < 4 → 2 ^ g_n g ≤ x → x < 256 → s.2.1 47 (265 + 256 * r + x) = σ.1 47 (265 + 256 * r + x))
    (fun s => ps_fr (fun k => k = 47 ∨ k = 53) σ s ∧ (∀ j, j < 265 → s.1 47 j = σ1.1 47 j) ∧ ∀ r x, r < 4 → x < 256 → s.1 47 (265 + 256 * r + x) = if x < 2 ^ g_n g then σ.1 47 (265 + 256 * r + g_sw a b x) else σ.1 47 (265 + 256 * r + x))
    (F := 100000) (s := ((0 : Int32), σ1)) (by
      intro i s hi ⟨e, hf, hv, hl, hr⟩
      obtain ⟨a4', τ⟩ := s
      simp only at e hf hv hl hr
      subst e
      have e0 : τ.1 47 0 = nI (g_n g) := by rw [hl 0 (by omega), a4 0 (Or.inl (by omega))]; exact h.1
      obtain ⟨υ, u1, u2, u3, u4⟩ : ∃ υ, fX5_swaps (nI (265 + 256 * i)) (nI a) (nI b) τ = some υ ∧ ps_fr (fun k => k = 47 ∨ k = 53) τ υ ∧ (∀ x, x < 2 ^ g_n g → υ.1 47 (265 + 256 * i + x) = τ.1 47 (265 + 256 * i + g_sw a b x)) ∧ ∀ j, j < 265 + 256 * i ∨ 265 + 256 * i + 2 ^ g_n g ≤ j → υ.1 47 j = τ.1 47 j := m_swaps0 e0 h8 ha hb hab (by omega) (by omega)
      refine ⟨(nI (i + 1), υ), ?_, rfl, hf.tr u2, fun r x hr' hx => ?_, fun j hj => ?_, fun r x hr' h1 h2' => ?_⟩
      · unfold fX5_name_S89
        simp only [ps_let]
        rw [nl_4, if_neg (nI_ge hi (by decide)), nl_265, nl_256, pk_mul, nI_add, u1, Option.bind_some, nI_1]
      · show υ.1 47 (265 + 256 * r + x) = _
        by_cases er : r = i
        · subst er
          rw [u3 x hx, hv r _ hr' (g_sw_lt ha hb hx), if_neg (by omega), if_pos (by omega)]
        · rw [u4 _ (by omega), hv r x hr' hx]
          by_cases c' : r < i
          · rw [if_pos c', if_pos (by omega)]
          · rw [if_neg c', if_neg (by omega)]
      · show υ.1 47 j = _
        rw [u4 j (by omega)]; exact hl j hj
      · show υ.1 47 (265 + 256 * r + x) = _
        rw [u4 _ (by omega)]; exact hr r x hr' h1 h2') (by
      intro s ⟨e, hf, hv, hl, hr⟩
      obtain ⟨a4', τ⟩ := s
      simp only at e hf hv hl hr
      subst e
      refine ⟨τ, by unfold fX5_name_S89; rw [nl_4, if_pos (nI_le (Nat.le_refl _) (by decide))], hf, hl, fun r x hr' hx => ?_⟩
      by_cases c' : x < 2 ^ g_n g
      · rw [if_pos c', hv r x hr' c', if_pos hr']
      · rw [if_neg c']; exact hr r x hr' (by omega) hx) ⟨rfl, a2, fun r x _ hx => by rw [if_neg (by omega)]; exact a4 _ (by omega), fun j hj => rfl, fun r x _ _ _ => a4 _ (by omega)⟩ (by decide)
  rw [b1, Option.bind_some]
  have t2 : σ2.1 47 0 = nI (g_n g) := by rw [b3 0 (by omega), a4 0 (Or.inl (by omega))]; exact h.1
  have j2 : ∀ t, t < 8 → σ2.1 47 (257 + t) = nI (g_j g t) := fun t ht => by rw [b3 _ (by omega), a4 _ (by omega)]; exact m_j h ht
  obtain ⟨σ3, c1, c2, c3⟩ := ps_for (step := fun s => fX5_name_S120 (nI a) (nI b) c s.1 s.2) (g_n g)
    (fun i s => s.1 = nI i ∧ ps_fr (fun k => k = 53) σ2 s.2 ∧ ∀ t, t < i → s.2.1 53 t = nI (g_j g t))
    (fun s => ps_fr (fun k => k = 53) σ2 s ∧ ∀ t, t < g_n g → s.1 53 t = nI (g_j g t))
    (F := 100000) (s := ((0 : Int32), σ2)) (by
      intro i s hi ⟨e, hf, hv⟩
      obtain ⟨a4', τ⟩ := s
      simp only at e hf hv
      subst e
      have e47 := (hf 47 (by decide)).1
      refine ⟨(nI (i + 1), ps_ui τ 53 i (nI (g_j g i))), ?_, rfl, hf.tr (ps_fr_ui rfl), fun t ht => ?_⟩
      · unfold fX5_name_S120
        simp only [ps_let]
        rw [m_G_th (by rw [e47]; exact t2), Option.bind_some, if_neg (nI_ge hi (by omega)), nl_257, nI_add, pk_ok (by omega) (by decide), pk_ok (by omega) (by decide), nI_clamp (by omega), nI_clamp (by omega), nI_1, e47, j2 i (by omega)]
      · show (ps_ui τ 53 i (nI (g_j g i))).1 53 t = _
        rw [pu_i]
        by_cases e : t = i
        · rw [if_pos ⟨rfl, e⟩, e]
        · rw [if_neg (by omega)]; exact hv t (by omega)) (by
      intro s ⟨e, hf, hv⟩
      obtain ⟨a4', τ⟩ := s
      simp only at e hf hv
      subst e
      exact ⟨τ, by unfold fX5_name_S120; rw [m_G_th (by rw [(hf 47 (by decide)).1]; exact t2), Option.bind_some, if_pos (nI_le (Nat.le_refl _) (by omega))], hf, hv⟩) ⟨rfl, ps_fr.rf, fun t ht => absurd ht (Nat.not_lt_zero _)⟩ (by omega)
  rw [c1, Option.bind_some]
  have swt : ∀ t, t < g_n g → t_sw a b t < g_n g := fun t ht => by
    unfold t_sw
    split
    · exact hb
    · split
      · exact ha
      · exact ht
  obtain ⟨σ4, d1, d2, d3, d4⟩ := ps_for (step := fun s => fX5_name_S156 (nI a) (nI b) c s.1 s.2) (g_n g)
    (fun i s => s.1 = nI i ∧ ps_fr (fun k => k = 47) σ3 s.2 ∧ (∀ t, t < 8 → s.2.1 47 (257 + t) = if t_sw a b t < i then nI (g_sw a b (g_j g (t_sw a b t))) else nI (g_j g t)) ∧ ∀ j, j < 257 ∨ 265 ≤ j → s.2.1 47 j = σ2.1 47 j)
    (fun s => ps_fr (fun k => k = 47) σ3 s ∧ (∀ t, t < 8 → s.1 47 (257 + t) = if t_sw a b t < g_n g then nI (g_sw a b (g_j g (t_sw a b t))) else nI (g_j g t)) ∧ ∀ j, j < 257 ∨ 265 ≤ j → s.1 47 j = σ2.1 47 j)
    (F := 100000) (s := ((0 : Int32), σ3)) (by
      intro i s hi ⟨e, hf, hv, hr⟩
      obtain ⟨a4', τ⟩ := s
      simp only at e hf hv hr
      subst e
      have hsi := swt i hi
      have e53 : τ.1 53 i = nI (g_j g i) := by rw [(hf 53 (by decide)).1]; exact c3 i hi
      have core : fX5_name_J194 (nI a) (nI b) c (nI i) (nI (t_sw a b i)) (nI 257) τ = some (.inl (nI (i + 1), ps_ui τ 47 (257 + t_sw a b i) (nI (g_sw a b (g_j g i))))) := by
        unfold fX5_name_J194
        simp only [ps_let]
        rw [pk_ok (by omega) (by decide), nI_clamp (by omega), e53, m_swapped (j_lt hw i) (by omega) (by omega), Option.bind_some, nI_add, pk_ok (by omega) (by decide), nI_clamp (by omega), nI_1]
      refine ⟨(nI (i + 1), ps_ui τ 47 (257 + t_sw a b i) (nI (g_sw a b (g_j g i)))), ?_, rfl, hf.tr (ps_fr_ui rfl), fun t ht => ?_, fun j hj => ?_⟩
      · unfold fX5_name_S156
        rw [m_G_th (by rw [hr 0 (by omega)]; exact t2), Option.bind_some, if_neg (nI_ge hi (by omega)), nl_257]
        rw [← core]
        unfold t_sw
        by_cases ea : i = a
        · rw [if_pos (by rw [ea]), if_pos ea]
        · rw [if_neg (fun q => ea ((nI_eq (by omega) (by omega)).mp q)), if_neg ea]
          by_cases eb : i = b
          · rw [if_pos (by rw [eb]), if_pos eb]
          · rw [if_neg (fun q => eb ((nI_eq (by omega) (by omega)).mp q)), if_neg eb]
      · show (ps_ui τ 47 (257 + t_sw a b i) (nI (g_sw a b (g_j g i)))).1 47 (257 + t) = _
        rw [pu_i]
        by_cases e : t = t_sw a b i
        · rw [if_pos (by omega), e, t_sw_sw, if_pos (by omega)]
        · have e2 : t_sw a b t ≠ i := fun q => e (by rw [← q, t_sw_sw])
          rw [if_neg (by omega), hv t ht]
          by_cases c' : t_sw a b t < i
          · rw [if_pos c', if_pos (by omega)]
          · rw [if_neg c', if_neg (by omega)]
      · show (ps_ui τ 47 (257 + t_sw a b i) (nI (g_sw a b (g_j g i)))).1 47 j = _
        rw [pu_i, if_neg (by omega)]; exact hr j hj) (by
      intro s ⟨e, hf, hv, hr⟩
      obtain ⟨a4', τ⟩ := s
      simp only at e hf hv hr
      subst e
      exact ⟨τ, by unfold fX5_name_S156; rw [m_G_th (by rw [hr 0 (by omega)]; exact t2), Option.bind_some, if_pos (nI_le (Nat.le_refl _) (by omega))], hf, hv, hr⟩) ⟨rfl, ps_fr.rf, fun t ht => by rw [if_neg (by omega), (c2 47 (by decide)).1]; exact j2 t ht, fun j _ => by rw [(c2 47 (by decide)).1]⟩ (by omega)
  rw [d1, Option.bind_some]
  refine ⟨σ4, rfl, (b2.tr (c2.wk (fun _ q => Or.inr q))).tr (d2.wk (fun _ q => Or.inl q)), ?_, fun s hs => ?_, fun t ht => ?_, fun r s hr hs => ?_⟩
  · rw [d4 0 (by omega)]; exact t2
  · rw [d4 _ (by omega), b3 _ (by omega)]
    show _ = nI (g_w g (g_sw a b s))
    rw [Nat.zero_add]
    by_cases c' : s < 2 ^ g_n g
    · rw [a3 s c', m_w h (Nat.lt_of_lt_of_le (g_sw_lt ha hb c') h2)]
    · rw [a4 _ (by omega), m_w h hs, hw.2.2.1 s (by omega), hw.2.2.1 _ (Or.inr (hz s (by omega)))]
  · rw [Nat.zero_add, d3 t ht]
    show _ = nI (g_sw a b (g_j g (t_sw a b t)))
    by_cases c' : t_sw a b t < g_n g
    · rw [if_pos c']
    · rw [if_neg c']
      have ct : ¬ t < g_n g := fun q => c' (swt t q)
      have e1 : t_sw a b t = t := by
        unfold t_sw
        rw [if_neg (by omega), if_neg (by omega)]
      rw [e1, hw.2.2.2.2.1 t (by omega)]
      simp [g_sw]
  · rw [Nat.zero_add, d4 _ (by omega), b4 r s hr hs]
    show _ = nI (g_f g r (g_sw a b s))
    have hmf : ∀ x, x < 256 → σ.1 47 (265 + 256 * r + x) = nI (g_f g r x) := fun x hx => by
      have := h.2.2.2 r x hr hx
      rw [Nat.zero_add] at this
      exact this
    by_cases c' : s < 2 ^ g_n g
    · rw [if_pos c', hmf _ (Nat.lt_of_lt_of_le (g_sw_lt ha hb c') h2)]
    · rw [if_neg c', hmf s hs, hw.2.2.2.2.2.2.2.2 r s (by omega), hw.2.2.2.2.2.2.2.2 r _ (Or.inr (hz s (by omega)))]
