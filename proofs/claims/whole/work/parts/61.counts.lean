/-! counts: bits, sets that are told, pairs -/
def g_bc (x : Nat) : Nat := fb_ct (fun t => x.testBit t) 8
theorem m_bits : ∀ x, x < 256 → fX5_bits (nI x) = some (nI (g_bc x)) := by decide +kernel
theorem c_bits : ∀ x, x < 256 → fJ6_bitCount_0f7a4 (nI x) = some (nI (g_bc x)) := by decide +kernel
theorem g_bc_le (x : Nat) : g_bc x ≤ 8 := fb_ct_le _ 8
def g_told (a : gG) : Nat := fb_ct (fun s => decide (0 < g_w a s)) 256
theorem w_pos {w : Nat} (h : w ≤ 999) : nI w ≤ 0 ↔ ¬ 0 < w := by
  rw [n0, nI_leI (by omega) (by decide)]
  omega
theorem c_countTold {σ : ps_S} {a : gG} (h : c_G σ 1 a) (hw : g_wf a) : fX1_countTold σ = some (nI (g_told a)) := by
  unfold fX1_countTold
  obtain ⟨x, hx, hq⟩ := ps_for (step := fun s => fX1_countTold_S4 σ s.1 s.2) 256 (fun i s => s = (nI (fb_ct (fun s => decide (0 < g_w a s)) i), nI i)) (fun x => x = nI (g_told a)) (F := 100000) (s := ((0 : Int32), (0 : Int32))) (by
      intro i s hi e
      subst e
      refine ⟨_, ?_, rfl⟩
      unfold fX1_countTold_S4 fX1_countTold_J28
      simp only [ps_let]
      rw [nl_256, if_neg (nI_ge hi (by decide)), nl_4, pk_ok (by decide) (by decide), pk_ok hi (by decide), nI_clamp (by decide), nI_clamp (by omega), show 2 + 1 + 4 = 1 + 6 from rfl, h.2.2.1 i hi, n1, nI_add, nI_add, n0, nI_add, fb_ct_succ]
      by_cases e : 0 < g_w a i
      · rw [if_neg (fun q => (w_pos (hw.2.1 i)).mp q e)]; simp [e]
      · rw [if_pos ((w_pos (hw.2.1 i)).mpr e)]; simp [e]) (by
      intro s e
      subst e
      exact ⟨_, by unfold fX1_countTold_S4; rw [nl_256, if_pos (nI_le (Nat.le_refl _) (by decide))], rfl⟩) rfl (by decide)
  rw [hx, Option.bind_some, hq]
theorem m_w {σ : ps_S} {a : gG} (h : m_G σ 47 0 a) {s : Nat} (hs : s < 256) : σ.1 47 (1 + s) = nI (g_w a s) := by
  have := h.2.1 s hs
  rw [Nat.zero_add] at this
  exact this
theorem m_j {σ : ps_S} {a : gG} (h : m_G σ 47 0 a) {t : Nat} (ht : t < 8) : σ.1 47 (257 + t) = nI (g_j a t) := by
  have := h.2.2.1 t ht
  rw [Nat.zero_add] at this
  exact this
theorem m_told {σ : ps_S} {a : gG} (h : m_G σ 47 0 a) (hw : g_wf a) : fX5_told σ = some (nI (g_told a)) := by
  unfold fX5_told
  obtain ⟨x, hx, hq⟩ := ps_for (step := fun s => fX5_told_S4 σ s.1 s.2) 256 (fun i s => s = (nI (fb_ct (fun s => decide (0 < g_w a s)) i), nI i)) (fun x => x = nI (g_told a)) (F := 100000) (s := ((0 : Int32), (0 : Int32))) (by
      intro i s hi e
      subst e
      refine ⟨_, ?_, rfl⟩
      unfold fX5_told_S4 fX5_told_J25
      simp only [ps_let]
      rw [nl_256, if_neg (nI_ge hi (by decide)), n1, nI_add, pk_ok (by omega) (by decide), nI_clamp (by omega), m_w h hi, nI_add, nI_add, fb_ct_succ]
      by_cases e : 0 < g_w a i
      · rw [if_neg (fun q => (w_pos (hw.2.1 i)).mp q e)]; simp [e]
      · rw [if_pos ((w_pos (hw.2.1 i)).mpr e)]; simp [e]) (by
      intro s e
      subst e
      exact ⟨_, by unfold fX5_told_S4; rw [nl_256, if_pos (nI_le (Nat.le_refl _) (by decide))], rfl⟩) rfl (by decide)
  rw [hx, Option.bind_some, hq]
/-- twice the pairs in a set -/
def g_p2 (a : gG) (s : Nat) : Nat := fb_sm (fun t => if s.testBit t then g_bc (g_j a t &&& s) else 0) (g_n a)
theorem g_p2_le (a : gG) (s : Nat) (hw : g_wf a) : g_p2 a s ≤ 64 := by
  have h1 : g_p2 a s ≤ fb_sm (fun _ => 8) (g_n a) := fb_sm_le (fun t _ => by
    show (if s.testBit t then g_bc (g_j a t &&& s) else 0) ≤ 8
    split
    · exact g_bc_le _
    · omega)
  rw [fb_sm_const] at h1
  have := hw.1
  omega
theorem m_pairsIn {σ : ps_S} {a : gG} {s : Nat} (h : m_G σ 47 0 a) (hw : g_wf a) (hs : s < 256) : fX5_pairsIn (nI s) σ = some (nI (g_p2 a s / 2)) := by
  have hn := hw.1
  unfold fX5_pairsIn
  obtain ⟨x, hx, hq⟩ := ps_for (step := fun q => fX5_pairsIn_S4 (nI s) σ q.1 q.2) (g_n a) (fun i q => q = (nI (fb_sm (fun t => if s.testBit t then g_bc (g_j a t &&& s) else 0) i), nI i)) (fun x => x = nI (g_p2 a s)) (F := 100000) (s := ((0 : Int32), (0 : Int32))) (by
      intro i q hi e
      subst e
      refine ⟨_, ?_, rfl⟩
      unfold fX5_pairsIn_S4 fX5_pairsIn_J38
      simp only [ps_let]
      rw [m_things h, Option.bind_some, if_neg (nI_ge hi (by omega)), m_has hs (by omega), Option.bind_some, nl_257, nI_add, pk_ok (by omega) (by decide), nI_clamp (by omega), m_j h (by omega), fa_and, m_bits _ (Nat.lt_of_le_of_lt Nat.and_le_left (j_lt hw i)), Option.bind_some, n1, nI_add, nI_add, fb_sm_succ]
      cases s.testBit i
      · rw [if_pos (by decide)]; simp
      · rw [if_neg (by decide)]; simp) (by
      intro q e
      subst e
      exact ⟨_, by unfold fX5_pairsIn_S4; rw [m_things h, Option.bind_some, if_pos (nI_le (Nat.le_refl _) (by omega))], rfl⟩) rfl (by omega)
  have h64 := g_p2_le a s hw
  rw [hx, Option.bind_some, hq, nl_2, pk_div (by omega) (by decide) (by decide)]
/-- the bits of eight bytes, counted at once -/
theorem by_and {j : Nat → Nat} {m : Nat} (hj : ∀ t, j t < 256) (hm : m < 256) : g_pr j &&& g_pr (fun _ => m) = g_pr (fun t => j t &&& m) := by
  apply pr_ext
  · exact Nat.lt_of_le_of_lt Nat.and_le_left (g_pr_lt hj)
  · exact fun t => Nat.lt_of_le_of_lt Nat.and_le_left (hj t)
  · intro t u ht hu
    rw [Nat.testBit_and, g_pr_tb hj ht hu, g_pr_tb (fun _ => hm) ht hu, Nat.testBit_and]
theorem by_shr {j : Nat → Nat} {m d : Nat} (hj : ∀ t, j t < 256) (hm : m < 256) (hd : ∀ u, u < 8 → m.testBit u = true → u + d < 8) : (g_pr j / 2 ^ d) &&& g_pr (fun _ => m) = g_pr (fun t => (j t / 2 ^ d) &&& m) := by
  apply pr_ext
  · exact Nat.lt_of_le_of_lt Nat.and_le_right (g_pr_lt (fun _ => hm))
  · exact fun t => Nat.lt_of_le_of_lt Nat.and_le_right hm
  · intro t u ht hu
    rw [Nat.testBit_and, Nat.testBit_div_two_pow, g_pr_tb (fun _ => hm) ht hu, Nat.testBit_and, Nat.testBit_div_two_pow]
    cases hb : m.testBit u
    · simp
    · have := hd u hu hb
      rw [show 8 * t + u + d = 8 * t + (u + d) by omega, g_pr_tb hj ht this]
theorem pr_sub {j k : Nat → Nat} (h : ∀ t, k t ≤ j t) : g_pr j - g_pr k = g_pr (fun t => j t - k t) := by
  unfold g_pr
  have := h 0; have := h 1; have := h 2; have := h 3; have := h 4; have := h 5; have := h 6; have := h 7
  omega
theorem pr_le {j k : Nat → Nat} (h : ∀ t, k t ≤ j t) : g_pr k ≤ g_pr j := by
  unfold g_pr
  have := h 0; have := h 1; have := h 2; have := h 3; have := h 4; have := h 5; have := h 6; have := h 7
  omega
theorem pr_add {j k : Nat → Nat} : g_pr j + g_pr k = g_pr (fun t => j t + k t) := by
  unfold g_pr
  omega
def b_1 (x : Nat) : Nat := x - ((x / 2 ^ 1) &&& 85)
def b_2 (x : Nat) : Nat := (x &&& 51) + ((x / 2 ^ 2) &&& 51)
theorem b_ok : ∀ x, x < 256 → ((x / 2 ^ 1) &&& 85) ≤ x ∧ b_1 x < 256 ∧ b_2 (b_1 x) < 256 ∧ b_2 (b_1 x) % 16 ≤ 4 ∧ b_2 (b_1 x) / 16 ≤ 4 ∧ b_2 (b_1 x) % 16 + b_2 (b_1 x) / 16 = g_bc x := by decide +kernel
theorem b_ok1 : ∀ y, y < 256 → (y &&& 51) + ((y / 2 ^ 2) &&& 51) < 256 := by decide +kernel
theorem y15 : ∀ y, y < 256 → y &&& 15 = y % 16 := by decide +kernel
