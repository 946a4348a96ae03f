/-! questions of the ground, on both sides -/
/-- how many sets there are -/
def g_N (a : gG) : Nat := if g_n a = 0 then 0 else 2 ^ g_n a
theorem p2_le : ∀ n, n ≤ 8 → 2 ^ n ≤ 256 := by decide
theorem p2_pos (n : Nat) : 0 < 2 ^ n := Nat.pow_pos (by decide)
theorem g_N_le {a : gG} (h : g_wf a) : g_N a ≤ 256 := by
  unfold g_N
  split
  · decide
  · exact p2_le _ h.1
theorem g_N_pos {a : gG} (h : g_n a ≠ 0) : g_N a = 2 ^ g_n a := by simp [g_N, h]
theorem sh1 : ∀ n, n ≤ 8 → (1 : Int32) <<< (nI n &&& 31) = nI (2 ^ n) := by decide
theorem n0 : (0 : Int32) = nI 0 := rfl
theorem n1 : (1 : Int32) = nI 1 := rfl
theorem nI0_iff {n : Nat} (h : n < 2 ^ 31) : nI n = 0 ↔ n = 0 := by rw [n0, nI_eq h (by decide)]
theorem c_countSets {σ : ps_S} {a : gG} (h : c_G σ 1 a) (hw : g_wf a) : fX1_countSets σ = some (nI (g_N a)) := by
  have hn := hw.1
  unfold fX1_countSets g_N
  rw [h.1]
  by_cases e : g_n a = 0
  · rw [if_pos e, if_pos (by rw [e]; rfl)]; rfl
  · rw [if_neg e, if_neg (fun q => e ((nI0_iff (by omega)).mp q)), sh1 _ hn]
theorem c_hasSet_no {σ : ps_S} {a : gG} {x : Int32} (h : c_G σ 1 a) (hw : g_wf a) (hx : x < 0 ∨ nI (g_N a) ≤ x) : fX1_hasSet x σ = some 0 := by
  unfold fX1_hasSet
  rw [c_countSets h hw]
  by_cases e : x < 0
  · rw [if_pos e]
  · rw [if_neg e, Option.bind_some, if_pos (hx.resolve_left e)]
theorem c_hasSet_yes {σ : ps_S} {a : gG} {s : Nat} (h : c_G σ 1 a) (hw : g_wf a) (hs : s < g_N a) : fX1_hasSet (nI s) σ = some 1 := by
  have hN := g_N_le hw
  unfold fX1_hasSet
  rw [c_countSets h hw, if_neg (nI_pos (by omega)), Option.bind_some, if_neg (nI_ge hs (by omega))]
theorem c_hasThing_no {σ : ps_S} {a : gG} {x : Int32} (h : c_G σ 1 a) (hx : x < 0 ∨ nI (g_n a) ≤ x) : fX1_hasThing x σ = some 0 := by
  unfold fX1_hasThing
  rw [h.1]
  by_cases e : x < 0
  · rw [if_pos e]
  · rw [if_neg e, if_pos (hx.resolve_left e)]
theorem c_hasThing_yes {σ : ps_S} {a : gG} {t : Nat} (h : c_G σ 1 a) (hw : g_wf a) (ht : t < g_n a) : fX1_hasThing (nI t) σ = some 1 := by
  have hn := hw.1
  unfold fX1_hasThing
  rw [h.1, if_neg (nI_pos (by omega)), if_neg (nI_ge ht (by omega))]
theorem m_things {σ : ps_S} {a : gG} (h : m_G σ 47 0 a) : fX5_things σ = some (nI (g_n a)) := by
  unfold fX5_things
  rw [n0, pk_ok (by decide) (by decide), nI_clamp (by decide), h.1]
theorem m_all {σ : ps_S} {a : gG} (h : m_G σ 47 0 a) (hw : g_wf a) : fX5_all σ = some (nI (2 ^ g_n a - 1)) := by
  unfold fX5_all
  rw [m_things h, Option.bind_some, sh1 _ hw.1, n1, pk_sub (p2_pos _)]
theorem m_isIn_no {x y z : Int32} (h : x < y ∨ z < x) : fX5_isIn x y z = some 0 := by
  unfold fX5_isIn
  by_cases e : x < y
  · rw [if_pos e]
  · rw [if_neg e, if_pos (h.resolve_left e)]
theorem m_isIn_yes {x y z : Int32} (h : ¬ x < y) (h2 : ¬ z < x) : fX5_isIn x y z = some 1 := by
  unfold fX5_isIn
  rw [if_neg h, if_neg h2]
theorem lt_of_le {x : Int32} {n : Nat} (hn : 0 < n) (h2 : n < 2 ^ 31) (h : nI n ≤ x) (h0 : ¬ x < 0) : nI (n - 1) < x := by
  obtain ⟨j, hj, rfl⟩ := nI_of h0
  rw [nI_leI h2 hj] at h
  rw [nI_ltI (by omega) hj]
  omega
theorem m_isSet_no {σ : ps_S} {a : gG} {x : Int32} (h : m_G σ 47 0 a) (hw : g_wf a) (hx : x < 0 ∨ nI (g_N a) ≤ x) : fX5_isSet x σ = some 0 := by
  have hn := hw.1
  unfold fX5_isSet
  rw [m_things h, Option.bind_some]
  by_cases e : g_n a = 0
  · rw [if_pos (by rw [e]; decide)]
  · rw [if_neg (nI_nle (by omega) (by omega)), m_all h hw, Option.bind_some, m_isIn_no (z := nI (2 ^ g_n a - 1)), Option.bind_some, if_pos rfl]
    by_cases e0 : x < 0
    · exact Or.inl e0
    · refine Or.inr (lt_of_le (p2_pos _) ?_ ?_ e0)
      · have := p2_le _ hn
        omega
      · rw [← g_N_pos e]; exact hx.resolve_left e0
theorem m_isSet_yes {σ : ps_S} {a : gG} {s : Nat} (h : m_G σ 47 0 a) (hw : g_wf a) (hs : s < g_N a) : fX5_isSet (nI s) σ = some 1 := by
  have hn := hw.1
  have hN := g_N_le hw
  have e : g_n a ≠ 0 := fun e => by simp [g_N, e] at hs
  have h2 := p2_le _ hn
  rw [g_N_pos e] at hs
  unfold fX5_isSet
  rw [m_things h, Option.bind_some, if_neg (nI_nle (by omega) (by omega)), m_all h hw, Option.bind_some, m_isIn_yes (nI_pos (by omega)) (nI_nlt (by omega) (by omega)), Option.bind_some, if_neg (by decide)]
theorem m_isThing_no {σ : ps_S} {a : gG} {x : Int32} (h : m_G σ 47 0 a) (hw : g_wf a) (hx : x < 0 ∨ nI (g_n a) ≤ x) : fX5_isThing x σ = some 0 := by
  have hn := hw.1
  unfold fX5_isThing
  rw [m_things h, Option.bind_some]
  by_cases e : g_n a = 0
  · rw [e]
    rcases hx with q | q
    · rw [m_isIn_no (Or.inl q)]; rfl
    · rw [e] at q
      rw [m_isIn_no (Or.inr _)]
      · rfl
      · exact Int32.lt_of_lt_of_le (by decide) q
  · by_cases e0 : x < 0
    · rw [m_isIn_no (Or.inl e0)]; rfl
    · rw [n1, pk_sub (by omega), m_isIn_no (Or.inr (lt_of_le (by omega) (by omega) (hx.resolve_left e0) e0))]; rfl
theorem m_isThing_yes {σ : ps_S} {a : gG} {t : Nat} (h : m_G σ 47 0 a) (hw : g_wf a) (ht : t < g_n a) : fX5_isThing (nI t) σ = some 1 := by
  have hn := hw.1
  unfold fX5_isThing
  rw [m_things h, Option.bind_some, n1, pk_sub (by omega), m_isIn_yes (nI_pos (by omega)) (nI_nlt (by omega) (by omega))]
  rfl
